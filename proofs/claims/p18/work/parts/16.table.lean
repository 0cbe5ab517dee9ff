/-! X's table of ground clauses -/
def cg_L (sg pr a0 a1 ar : Nat → Int32) (M j x y : Nat) : Nat := cg_gl sg pr a0 a1 ar M (cg_oc a0 a1 0 M && cg_oc a0 a1 1 M) j x y
def cg_HX (nc : Nat) (st : Nat → Nat) (sg pr a0 a1 ar : Nat → Int32) (q m : Nat) : Prop := ∃ j, st (q / 4) ≤ j ∧ j < st (q / 4 + 1) ∧ m = cg_L sg pr a0 a1 ar (st nc) j (q / 2 % 2) (q % 2)
def cg_UU (a0 a1 : Nat → Int32) (M x : Nat) : Prop := cg_U (cg_oc a0 a1 0 M) (cg_oc a0 a1 1 M) x
def cg_RX (nc : Nat) (st : Nat → Nat) (a0 a1 : Nat → Int32) (q : Nat) : Prop := q < 4 * nc ∧ cg_UU a0 a1 (st nc) (q / 2 % 2) ∧ cg_UU a0 a1 (st nc) (q % 2)
def cg_tb (t : Nat) : Nat → Bool := fun a => t.testBit a
theorem xt_bit : ∀ a, a < 5 → ∀ t, t < 32 → bt (xt_in a 32) t = t.testBit a := by decide +kernel
theorem xs_lh {lh ph : Nat → Int32} (h : cr_fix lh ph) {m t : Nat} (hm : m < 10) (ht : t < 32) : bt (lh m) t = true ↔ cq_tr (cg_tb t) m := by
  obtain ⟨h1, h2⟩ := h.1 (m / 2) (by omega)
  unfold cq_tr cg_tb
  have hx := xt_bit (m / 2) (by omega) t ht
  by_cases e : m % 2 = 0
  · have em : 2 * (m / 2) = m := by omega
    rw [em] at h1
    rw [h1, hx, decide_eq_true e]
  · have em : 2 * (m / 2) + 1 = m := by omega
    rw [em] at h2
    rw [h2, b_xor, hx, b_m1 t ht, decide_eq_false e]
    cases t.testBit (m / 2) <;> simp
theorem xs_b1 : ∀ i, i < 32 → bt 1 i = decide (i = 0) := by decide +kernel
theorem xs_bit (R : Int32) {k : Nat} (hk : k < 32) : ((R >>> (nI k &&& 31)) &&& 1) = 0 ↔ bt R k = false := by
  constructor
  · intro h
    have h2 := congrArg (fun z => bt z 0) h
    try dsimp only at h2
    rw [b_and, b_sshr k hk R (by omega), if_pos (by omega), b_0, xs_b1 0 (by omega), Nat.add_zero] at h2
    simpa using h2
  · intro h
    apply b_ext
    intro i hi
    rw [b_and, xs_b1 i hi, b_0]
    by_cases e : i = 0
    · subst e
      rw [b_sshr k hk R (by omega), if_pos (by omega), Nat.add_zero, h]
      rfl
    · rw [decide_eq_false e, Bool.and_false]
theorem xs_one {k q : Nat} (hk : k < 32) (hq : q < 32) : bt ((1 : Int32) <<< (nI k &&& 31)) q = decide (q = k) := by
  rw [b_shl k hk 1 hq]
  by_cases h : k ≤ q
  · rw [decide_eq_true h, Bool.true_and, xs_b1 (q - k) (by omega)]
    by_cases e : q = k
    · rw [decide_eq_true e, decide_eq_true (by omega)]
    · rw [decide_eq_false e, decide_eq_false (by omega)]
  · rw [decide_eq_false h, Bool.false_and, decide_eq_false (by omega)]
theorem xs_del (R : Int32) {k q : Nat} (hk : k < 32) (hq : q < 32) : bt (R &&& (((1 : Int32) <<< (nI k &&& 31)) ^^^ (-1))) q = (bt R q && !decide (q = k)) := by
  rw [b_and, b_xor, xs_one hk hq, b_m1 q hq]
  cases decide (q = k) <;> rfl
def xs_R (R : Int32) (q : Nat) : Prop := q < 32 ∧ bt R q = true
def xs_G (G : Int32) (m : Nat) : Prop := m < 10 ∧ bt G m = true
theorem xs_R_del {R : Int32} {k : Nat} (hk : k < 32) (q : Nat) : xs_R (R &&& (((1 : Int32) <<< (nI k &&& 31)) ^^^ (-1))) q ↔ cq_del (xs_R R) k q := by
  unfold xs_R cq_del
  constructor
  · intro ⟨h1, h2⟩
    rw [xs_del R hk h1, Bool.and_eq_true] at h2
    refine ⟨⟨h1, h2.1⟩, fun e => ?_⟩
    rw [decide_eq_true e] at h2
    exact absurd h2.2 (by decide)
  · intro ⟨⟨h1, h2⟩, h3⟩
    refine ⟨h1, ?_⟩
    rw [xs_del R hk h1, h2, decide_eq_false h3]
    rfl
theorem xs_G_add {G : Int32} {k : Nat} (hk : k < 10) (m : Nat) : xs_G (G ||| ((1 : Int32) <<< (nI k &&& 31))) m ↔ cq_add (xs_G G) k m := by
  unfold xs_G cq_add
  constructor
  · intro ⟨h1, h2⟩
    rw [b_or, xs_one (by omega) (by omega), Bool.or_eq_true] at h2
    rcases h2 with h2 | h2
    · exact Or.inl ⟨h1, h2⟩
    · exact Or.inr (of_decide_eq_true h2)
  · intro h
    rcases h with ⟨h1, h2⟩ | h
    · refine ⟨h1, ?_⟩
      rw [b_or, h2]
      rfl
    · subst h
      refine ⟨hk, ?_⟩
      rw [b_or, xs_one (by omega) (by omega), decide_eq_true rfl, Bool.or_true]
theorem xs_G_0 (m : Nat) : ¬ xs_G 0 m := by
  intro h
  have := h.2
  rw [b_0] at this
  exact absurd this (by decide)
/-- a choice of truth values for five atoms is a number below 32 -/
theorem xs_f5 (f : Nat → Bool) : ∃ t, t < 32 ∧ ∀ a, a < 5 → t.testBit a = f a := by
  have all : ∀ b0 b1 b2 b3 b4 : Bool, ∃ t, t < 32 ∧ t.testBit 0 = b0 ∧ t.testBit 1 = b1 ∧ t.testBit 2 = b2 ∧ t.testBit 3 = b3 ∧ t.testBit 4 = b4 := by
    intro b0 b1 b2 b3 b4
    refine ⟨b0.toNat + 2 * b1.toNat + 4 * b2.toNat + 8 * b3.toNat + 16 * b4.toNat, ?_⟩
    revert b0 b1 b2 b3 b4
    decide
  obtain ⟨t, ht, h0, h1, h2, h3, h4⟩ := all (f 0) (f 1) (f 2) (f 3) (f 4)
  refine ⟨t, ht, fun a ha => ?_⟩
  have : a = 0 ∨ a = 1 ∨ a = 2 ∨ a = 3 ∨ a = 4 := by omega
  rcases this with e | e | e | e | e <;> subst e <;> assumption
theorem xs_tr {f : Nat → Bool} {t m : Nat} (h : ∀ a, a < 5 → t.testBit a = f a) (hm : m < 10) : cq_tr f m ↔ cq_tr (cg_tb t) m := by
  unfold cq_tr cg_tb
  rw [h (m / 2) (by omega)]
def xi_row (nc : Nat) (st : Nat → Nat) (sg pr a0 a1 ar il ih : Nat → Int32) (q : Nat) : Prop :=
  (∀ i, i < 3 → il (3 * q + i) = if st (q / 4) + i < st (q / 4 + 1) then nI (cg_L sg pr a0 a1 ar (st nc) (st (q / 4) + i) (q / 2 % 2) (q % 2)) else -1) ∧
  (∀ t, t < 32 → (bt (ih q) t = true ↔ ∃ m, cg_HX nc st sg pr a0 a1 ar q m ∧ cq_tr (cg_tb t) m))
def xi_tab (nc : Nat) (st : Nat → Nat) (sg pr a0 a1 ar il ih : Nat → Int32) : Prop := ∀ q, cg_RX nc st a0 a1 q → xi_row nc st sg pr a0 a1 ar il ih q
theorem cg_HX_lt {nc nl : Nat} {st : Nat → Nat} {sg pr a0 a1 ar : Nat → Int32} (hw : cd_wf nc nl st sg pr a0 a1 ar) (h5 : cg_base pr ar (st nc) (cg_oc a0 a1 0 (st nc) && cg_oc a0 a1 1 (st nc)) 4 ≤ 5)
    {q m : Nat} (hq : q < 4 * nc) (h : cg_HX nc st sg pr a0 a1 ar q m) : m < 10 := by
  obtain ⟨j, h1, h2, e⟩ := h
  have hst := cd_mono' hw (c := q / 4 + 1) (d := nc) (by omega) (Nat.le_refl _)
  have := cg_gl_lt (two := (cg_oc a0 a1 0 (st nc) && cg_oc a0 a1 1 (st nc))) (x := q / 2 % 2) (y := q % 2) hw (show j < st nc by omega) (by omega) (by omega)
  rw [e]
  unfold cg_L
  omega
section
variable {f_litCount f_clauseCount f_stepCount f_bufferSealed f_lastCheckStep f_keptCount f_proofKept f_openCount f_universeSize f_neededInstances f_givenLiterals : Int32} {a_litSign a_litPred a_litArg0 a_litArg1 a_clauseStart a_predArity a_stepKind a_stepA a_stepB a_binding a_keptKind a_keptA a_keptB a_keptInstance a_openCopy a_openLit a_parentCopy a_parentLit a_pathLength a_atomBase a_instanceLits a_instanceHolds a_literalHolds a_restInstances a_pathLiterals : Nat → Int32}
theorem xi_val {post : Int32 → Prop} {q n : Nat} {t : Int32} (hq : q < 32) (hn : n < 4) (e : t = nI n) (h : post (nI (cg_vl t (q / 2 % 2) (q % 2)))) : wpX_valueIn post (f_litCount, f_clauseCount, f_stepCount, f_bufferSealed, f_lastCheckStep, f_keptCount, f_proofKept, f_openCount, f_universeSize, f_neededInstances, f_givenLiterals, a_litSign, a_litPred, a_litArg0, a_litArg1, a_clauseStart, a_predArity, a_stepKind, a_stepA, a_stepB, a_binding, a_keptKind, a_keptA, a_keptB, a_keptInstance, a_openCopy, a_openLit, a_parentCopy, a_parentLit, a_pathLength, a_atomBase, a_instanceLits, a_instanceHolds, a_literalHolds, a_restInstances, a_pathLiterals) (nI q) t := by
  unfold cg_vl at h
  refine br_c (fun e2 => ?_) (fun e2 => br_c (fun e3 => ?_) (fun e3 => ?_))
  · rw [if_pos e2] at h
    rw [(xd_bits q hq).1]
    exact h
  · rw [if_neg e2, if_pos e3] at h
    rw [(xd_bits q hq).2]
    exact h
  · rw [if_neg e2, if_neg e3, e, nI_clamp (by omega)] at h
    rw [e]
    exact h
theorem xi_lit {post : Int32 → Prop} {nc nl : Nat} {st : Nat → Nat} (hw : cd_wf nc nl st a_litSign a_litPred a_litArg0 a_litArg1 a_predArity)
    (hab : ∀ p, p < 4 → a_atomBase p = nI (cg_base a_litPred a_predArity (st nc) (cg_oc a_litArg0 a_litArg1 0 (st nc) && cg_oc a_litArg0 a_litArg1 1 (st nc)) p))
    {j q : Nat} (hj : j < st nc) (hq : q < 32) (h : post (nI (cg_L a_litSign a_litPred a_litArg0 a_litArg1 a_predArity (st nc) j (q / 2 % 2) (q % 2)))) :
    wpX_groundLiteral post (f_litCount, f_clauseCount, f_stepCount, f_bufferSealed, f_lastCheckStep, f_keptCount, f_proofKept, f_openCount, nI (cg_sz (cg_oc a_litArg0 a_litArg1 0 (st nc) && cg_oc a_litArg0 a_litArg1 1 (st nc))), f_neededInstances, f_givenLiterals, a_litSign, a_litPred, a_litArg0, a_litArg1, a_clauseStart, a_predArity, a_stepKind, a_stepA, a_stepB, a_binding, a_keptKind, a_keptA, a_keptB, a_keptInstance, a_openCopy, a_openLit, a_parentCopy, a_parentLit, a_pathLength, a_atomBase, a_instanceLits, a_instanceHolds, a_literalHolds, a_restInstances, a_pathLiterals) (nI j) (nI q) := by
  have hM := hw.2.2.2.2.1
  have hnl := hw.2.1
  obtain ⟨s2, es, p4, ep, har, _, f0, f1, a2⟩ := cg_lit hw hj
  have hin : vp_in (nI j) 16 := vp_in_nI (by omega) (by decide)
  have clj : (nI j).toNatClampNeg = j := nI_clamp (by omega)
  unfold cg_L cg_gl at h
  generalize hT : (cg_oc a_litArg0 a_litArg1 0 (st nc) && cg_oc a_litArg0 a_litArg1 1 (st nc)) = two at h hab ⊢
  refine ⟨hin, ?_⟩
  rw [clj]
  generalize hP : (a_litPred j).toNatClampNeg = p at h p4 ep har
  refine nm_r ep ?_
  have inp : vp_in (nI p) 4 := vp_in_nI p4 (by decide)
  have clp : (nI p).toNatClampNeg = p := nI_clamp (by omega)
  have eA : a_predArity p = nI (ck_ar (a_litArg0 j) (a_litArg1 j)) := by
    obtain ⟨p', hp', ep', ea'⟩ := (hw.2.2.2.2.2.2.1 j (by omega)).2.1
    rw [ep, nI_eq (by omega) (by omega)] at ep'
    rw [ep']
    exact ea'
  have fin : ∀ tup : Nat, cg_tup a_litArg0 a_litArg1 two j (q / 2 % 2) (q % 2) = tup → wX_groundLiteral_61 post (nI j) (nI p) (nI tup) f_litCount f_clauseCount f_stepCount f_bufferSealed f_lastCheckStep f_keptCount f_proofKept f_openCount (nI (cg_sz two)) f_neededInstances f_givenLiterals a_litSign a_litPred a_litArg0 a_litArg1 a_clauseStart a_predArity a_stepKind a_stepA a_stepB a_binding a_keptKind a_keptA a_keptB a_keptInstance a_openCopy a_openLit a_parentCopy a_parentLit a_pathLength a_atomBase a_instanceLits a_instanceHolds a_literalHolds a_restInstances a_pathLiterals := by
    intro tup et
    refine ⟨inp, hin, ?_⟩
    rw [clj, clp, hab p p4, es, nI_add, show (2 : Int32) = nI 2 from rfl, pk_mul, nI_add]
    rw [et] at h
    exact h
  have arg0 : ∀ {P : Int32 → Prop}, P (a_litArg0 j) → wpX_argumentOf P (f_litCount, f_clauseCount, f_stepCount, f_bufferSealed, f_lastCheckStep, f_keptCount, f_proofKept, f_openCount, nI (cg_sz two), f_neededInstances, f_givenLiterals, a_litSign, a_litPred, a_litArg0, a_litArg1, a_clauseStart, a_predArity, a_stepKind, a_stepA, a_stepB, a_binding, a_keptKind, a_keptA, a_keptB, a_keptInstance, a_openCopy, a_openLit, a_parentCopy, a_parentLit, a_pathLength, a_atomBase, a_instanceLits, a_instanceHolds, a_literalHolds, a_restInstances, a_pathLiterals) (nI j) 0 := by
    intro P hP
    refine br_t rfl ⟨hin, ?_⟩
    rw [clj]
    exact hP
  have arg1 : ∀ {P : Int32 → Prop}, P (a_litArg1 j) → wpX_argumentOf P (f_litCount, f_clauseCount, f_stepCount, f_bufferSealed, f_lastCheckStep, f_keptCount, f_proofKept, f_openCount, nI (cg_sz two), f_neededInstances, f_givenLiterals, a_litSign, a_litPred, a_litArg0, a_litArg1, a_clauseStart, a_predArity, a_stepKind, a_stepA, a_stepB, a_binding, a_keptKind, a_keptA, a_keptB, a_keptInstance, a_openCopy, a_openLit, a_parentCopy, a_parentLit, a_pathLength, a_atomBase, a_instanceLits, a_instanceHolds, a_literalHolds, a_restInstances, a_pathLiterals) (nI j) 1 := by
    intro P hP
    refine br_f (by decide) ⟨hin, ?_⟩
    rw [clj]
    exact hP
  have dbl : ∀ a b : Nat, (2 * nI a) + nI b = nI (2 * a + b) := by
    intro a b
    rw [show (2 : Int32) = nI 2 from rfl, pk_mul, nI_add]
  have c : ck_ar (a_litArg0 j) (a_litArg1 j) = 0 ∨ ck_ar (a_litArg0 j) (a_litArg1 j) = 1 ∨ ck_ar (a_litArg0 j) (a_litArg1 j) = 2 := by omega
  unfold cg_tup at fin
  by_cases t : two = true
  · have e2 : nI (cg_sz two) = 2 := by unfold cg_sz; rw [if_pos t]; rfl
    rw [if_pos t] at fin
    rcases c with c | c | c
    · rw [c, if_pos rfl] at fin
      rw [c] at eA
      refine ⟨1, inp, ?_⟩
      rw [clp, eA]
      exact br_t (by decide) (fin 0 rfl)
    · rw [c, if_neg (by decide), if_pos rfl] at fin
      rw [c] at eA
      obtain ⟨n0, hn0, e0⟩ := f0 (by omega)
      refine ⟨2, inp, ?_⟩
      rw [clp, eA]
      refine br_f (by decide) (br_t e2 (arg0 (xi_val hq hn0 e0 (nm_r (dbl 0 _) (nm_r (nI_1 0) ⟨inp, ?_⟩)))))
      rw [clp, eA]
      refine br_t (by decide) (fin _ ?_)
      omega
    · rw [c, if_neg (by decide), if_neg (by decide)] at fin
      rw [c] at eA
      obtain ⟨n0, hn0, e0⟩ := f0 (by omega)
      obtain ⟨n1, hn1, e1⟩ := f1 (by omega)
      refine ⟨3, inp, ?_⟩
      rw [clp, eA]
      refine br_f (by decide) (br_t e2 (arg0 (xi_val hq hn0 e0 (nm_r (dbl 0 _) (nm_r (nI_1 0) ⟨inp, ?_⟩)))))
      rw [clp, eA]
      refine br_f (by decide) (br_t e2 (arg1 (xi_val hq hn1 e1 (nm_r (dbl _ _) (nm_r (nI_1 1) ⟨inp, ?_⟩)))))
      rw [clp, eA]
      refine br_t (by decide) (fin _ ?_)
      omega
  · have e1 : ¬ nI (cg_sz two) = 2 := by unfold cg_sz; rw [if_neg t]; decide
    rw [if_neg t] at fin
    refine ⟨1, inp, ?_⟩
    rw [clp, eA]
    exact br_c (fun _ => fin 0 rfl) (fun _ => br_f e1 (fin 0 rfl))
end
