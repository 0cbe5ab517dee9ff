/-! endClause -/
def cd_put (st : Nat → Nat) (k v : Nat) : Nat → Nat := fun c => if c = k then v else st c
theorem cd_put_s {st : Nat → Nat} {k v : Nat} : cd_put st k v k = v := if_pos rfl
theorem cd_put_n {st : Nat → Nat} {k v c : Nat} (h : c ≠ k) : cd_put st k v c = st c := if_neg h
theorem cr_cls_end {nc nl : Nat} {st : Nat → Nat} {cs ow sg pr a0 a1 ar : Nat → Int32} (h : cr_cls nc nl st cs ow sg pr a0 a1 ar) (hc : nc < 8) :
    cr_cls (nc + 1) nl (cd_put st (nc + 1) nl) (upd cs (nc + 1) (nI nl)) ow sg pr a0 a1 ar := by
  obtain ⟨hw, hcs, how⟩ := h
  obtain ⟨h1, h2, h3, h4, h5, h6, h7, h8⟩ := id hw
  have en_eq : ∀ c, c ≤ nc → cd_en (nc + 1) nl (cd_put st (nc + 1) nl) c = cd_en nc nl st c := by
    intro c hcc
    rw [cd_en_lt (by omega)]
    by_cases e : c = nc
    · rw [e, cd_put_s, cd_en_nc]
    · rw [cd_put_n (by omega), cd_en_lt (by omega)]
  refine ⟨⟨by omega, h2, ?_, fun c hcc => ?_, ?_, ?_, h7, h8⟩, fun c hcc => ?_, fun j hj => ?_⟩
  · rw [cd_put_n (by omega)]
    exact h3
  · by_cases e : c = nc
    · rw [e, cd_put_s, cd_put_n (by omega)]
      exact ⟨h5, h6⟩
    · rw [cd_put_n (by omega), cd_put_n (by omega)]
      exact h4 c (by omega)
  · rw [cd_put_s]
    exact Nat.le_refl _
  · rw [cd_put_s]
    omega
  · by_cases e : c = nc + 1
    · rw [e, cd_put_s]
      exact pk_us
    · rw [cd_put_n e, pk_un e]
      exact hcs c (by omega)
  · obtain ⟨c, hcn, eo, e1, e2⟩ := how j hj
    refine ⟨c, by omega, eo, ?_, ?_⟩
    · rw [cd_put_n (by omega)]
      exact e1
    · rw [en_eq c hcn]
      exact e2
/-! addLiteral -/
def cd_args (v1 v2 v3 v4 : Int32) : Prop := (v1 = 0 ∨ v1 = 1) ∧ (∃ p, p < 4 ∧ v2 = nI p) ∧ cd_at v3 ∧ cd_at v4 ∧ (v3 = -1 → v4 = -1)
theorem cd_at_of {x : Int32} (h1 : ¬ x < -1) (h2 : ¬ 3 < x) : cd_at x := by
  by_cases e : x = -1
  · exact Or.inl e
  · rw [Int32.lt_iff_toInt_lt, show (-1 : Int32).toInt = -1 from by decide] at h1
    rw [Int32.lt_iff_toInt_lt, show (3 : Int32).toInt = 3 from by decide] at h2
    have hne : ¬ x.toInt = -1 := fun z => e (Int32.toInt_inj.mp (z.trans (by decide)))
    have h0 : ¬ x < 0 := by
      rw [Int32.lt_iff_toInt_lt, show (0 : Int32).toInt = 0 from by decide]
      omega
    obtain ⟨j, hj, ej⟩ := nI_of h0
    rw [ej, nI_toInt hj] at h2
    exact Or.inr ⟨j, by omega, ej⟩
theorem cd_01 {x : Int32} (h1 : ¬ x < 0) (h2 : ¬ 1 < x) : x = 0 ∨ x = 1 := by
  obtain ⟨j, hj, e⟩ := nI_of h1
  rw [Int32.lt_iff_toInt_lt, show (1 : Int32).toInt = 1 from by decide, e, nI_toInt hj] at h2
  have : j = 0 ∨ j = 1 := by omega
  rcases this with z | z <;> rw [e, z]
  · exact Or.inl rfl
  · exact Or.inr rfl
theorem cd_04 {x : Int32} (h1 : ¬ x < 0) (h2 : x < 4) : ∃ p, p < 4 ∧ x = nI p := by
  obtain ⟨j, hj, e⟩ := nI_of h1
  rw [Int32.lt_iff_toInt_lt, show (4 : Int32).toInt = 4 from by decide, e, nI_toInt hj] at h2
  exact ⟨j, by omega, e⟩
section
variable {f_litCount f_clauseCount f_stepCount f_bufferSealed f_lastCheckStep f_keptCount f_proofKept f_openCount f_universeSize f_neededInstances f_givenLiterals : Int32} {a_litSign a_litPred a_litArg0 a_litArg1 a_clauseStart a_predArity a_stepKind a_stepA a_stepB a_binding a_keptKind a_keptA a_keptB a_keptInstance a_openCopy a_openLit a_parentCopy a_parentLit a_pathLength a_atomBase a_instanceLits a_instanceHolds a_literalHolds a_restInstances a_pathLiterals : Nat → Int32}
theorem xa_add {post : Int32 → St1 → Prop} {v1 v2 v3 v4 : Int32} (hb : ¬ cd_args v1 v2 v3 v4 → post (-1) (f_litCount, f_clauseCount, f_stepCount, f_bufferSealed, f_lastCheckStep, f_keptCount, f_proofKept, f_openCount, f_universeSize, f_neededInstances, f_givenLiterals, a_litSign, a_litPred, a_litArg0, a_litArg1, a_clauseStart, a_predArity, a_stepKind, a_stepA, a_stepB, a_binding, a_keptKind, a_keptA, a_keptB, a_keptInstance, a_openCopy, a_openLit, a_parentCopy, a_parentLit, a_pathLength, a_atomBase, a_instanceLits, a_instanceHolds, a_literalHolds, a_restInstances, a_pathLiterals)) (hg : cd_args v1 v2 v3 v4 → wX_addLiteral_57 post v1 v2 v3 v4 f_litCount f_clauseCount f_stepCount f_bufferSealed f_lastCheckStep f_keptCount f_proofKept f_openCount f_universeSize f_neededInstances f_givenLiterals a_litSign a_litPred a_litArg0 a_litArg1 a_clauseStart a_predArity a_stepKind a_stepA a_stepB a_binding a_keptKind a_keptA a_keptB a_keptInstance a_openCopy a_openLit a_parentCopy a_parentLit a_pathLength a_atomBase a_instanceLits a_instanceHolds a_literalHolds a_restInstances a_pathLiterals) :
    wpX_addLiteral post (f_litCount, f_clauseCount, f_stepCount, f_bufferSealed, f_lastCheckStep, f_keptCount, f_proofKept, f_openCount, f_universeSize, f_neededInstances, f_givenLiterals, a_litSign, a_litPred, a_litArg0, a_litArg1, a_clauseStart, a_predArity, a_stepKind, a_stepA, a_stepB, a_binding, a_keptKind, a_keptA, a_keptB, a_keptInstance, a_openCopy, a_openLit, a_parentCopy, a_parentLit, a_pathLength, a_atomBase, a_instanceLits, a_instanceHolds, a_literalHolds, a_restInstances, a_pathLiterals) v1 v2 v3 v4 := by
  refine br_c (fun h => hb (fun z => ?_)) (fun h1 => br_c (fun h => hb (fun z => ?_)) (fun h2 => br_c (fun h => hb (fun z => ?_)) (fun h3 => br_c (fun h4 => br_c (fun h => hb (fun z => ?_)) (fun h5 => br_c (fun h => hb (fun z => ?_)) (fun h6 =>
    br_c (fun h => hb (fun z => ?_)) (fun h7 => br_c (fun h8 => br_c (fun h9 => br_c (fun h10 => hg ?_) (fun h => hb (fun z => ?_))) (fun h9 => hg ?_)) (fun h => hb (fun z => ?_)))))) (fun h => hb (fun z => ?_)))))
  · rcases z.1 with e | e <;> rw [e] at h <;> exact absurd h (by decide)
  · rcases z.1 with e | e <;> rw [e] at h <;> exact absurd h (by decide)
  · obtain ⟨p, hp, e⟩ := z.2.1
    rw [e] at h
    exact nI_pos (by omega) h
  · rcases z.2.2.1 with e | ⟨t, ht, e⟩ <;> rw [e] at h
    · exact absurd h (by decide)
    · rw [Int32.lt_iff_toInt_lt, show (-1 : Int32).toInt = -1 from by decide, nI_toInt (by omega)] at h
      omega
  · rcases z.2.2.1 with e | ⟨t, ht, e⟩ <;> rw [e] at h
    · exact absurd h (by decide)
    · rw [Int32.lt_iff_toInt_lt, show (3 : Int32).toInt = 3 from by decide, nI_toInt (by omega)] at h
      omega
  · rcases z.2.2.2.1 with e | ⟨t, ht, e⟩ <;> rw [e] at h
    · exact absurd h (by decide)
    · rw [Int32.lt_iff_toInt_lt, show (-1 : Int32).toInt = -1 from by decide, nI_toInt (by omega)] at h
      omega
  · exact ⟨cd_01 h1 h2, cd_04 h3 h4, cd_at_of h5 h6, Or.inl h10, fun _ => h10⟩
  · exact h (z.2.2.2.2 h9)
  · exact ⟨cd_01 h1 h2, cd_04 h3 h4, cd_at_of h5 h6, cd_at_of h7 (Int32.not_lt.mpr h8), fun e => absurd e h9⟩
  · rcases z.2.2.2.1 with e | ⟨t, ht, e⟩ <;> rw [e] at h
    · exact absurd (by decide) h
    · exact h (nI_le (b := 3) (by omega) (by decide))
  · obtain ⟨p, hp, e⟩ := z.2.1
    rw [e] at h
    exact h (nI_lt (b := 4) hp (by decide))
theorem xa_arity {post : Int32 → Prop} {x y : Int32} (h : post (nI (ck_ar x y))) : wpX_arityOf post (f_litCount, f_clauseCount, f_stepCount, f_bufferSealed, f_lastCheckStep, f_keptCount, f_proofKept, f_openCount, f_universeSize, f_neededInstances, f_givenLiterals, a_litSign, a_litPred, a_litArg0, a_litArg1, a_clauseStart, a_predArity, a_stepKind, a_stepA, a_stepB, a_binding, a_keptKind, a_keptA, a_keptB, a_keptInstance, a_openCopy, a_openLit, a_parentCopy, a_parentLit, a_pathLength, a_atomBase, a_instanceLits, a_instanceHolds, a_literalHolds, a_restInstances, a_pathLiterals) x y := by
  unfold ck_ar at h
  refine br_c (fun e => ?_) (fun e => br_c (fun e2 => ?_) (fun e2 => ?_))
  · rw [if_pos e] at h
    exact h
  · rw [if_neg e, if_pos e2] at h
    exact h
  · rw [if_neg e, if_neg e2] at h
    exact h
end
theorem cr_cls_add {nc nl : Nat} {st : Nat → Nat} {cs ow sg pr a0 a1 ar : Nat → Int32} (h : cr_cls nc nl st cs ow sg pr a0 a1 ar) {v1 v3 v4 : Int32} {p : Nat}
    (hz : cd_args v1 (nI p) v3 v4) (hp : p < 4) (hc : nc < 8) (h3 : nl < st nc + 3) (h16 : nl < 16) (har : ar p = -1 ∨ ar p = nI (ck_ar v3 v4)) :
    cr_cls nc (nl + 1) st cs (upd ow nl (nI nc)) (upd sg nl v1) (upd pr nl (nI p)) (upd a0 nl v3) (upd a1 nl v4) (upd ar p (nI (ck_ar v3 v4))) := by
  obtain ⟨hw, hcs, how⟩ := h
  obtain ⟨w1, w2, w3, w4, w5, w6, w7, w8⟩ := id hw
  obtain ⟨z1, _, z3, z4, z5⟩ := hz
  have hk : ∀ x y : Int32, nI (ck_ar x y) = 0 ∨ nI (ck_ar x y) = 1 ∨ nI (ck_ar x y) = 2 := by
    intro x y
    unfold ck_ar
    by_cases e : x = -1
    · rw [if_pos e]; exact Or.inl rfl
    · rw [if_neg e]
      by_cases e2 : y = -1
      · rw [if_pos e2]; exact Or.inr (Or.inl rfl)
      · rw [if_neg e2]; exact Or.inr (Or.inr rfl)
  refine ⟨⟨w1, by omega, w3, w4, by omega, by omega, fun j hj => ?_, fun q hq => ?_⟩, hcs, fun j hj => ?_⟩
  · by_cases e : j = nl
    · subst e
      unfold cd_lit
      rw [pk_us, pk_us, pk_us, pk_us]
      exact ⟨z1, ⟨p, hp, rfl, pk_us⟩, z3, z4, z5⟩
    · obtain ⟨l1, ⟨q, hq, eq, eq2⟩, l3, l4, l5⟩ := w7 j (by omega)
      unfold cd_lit
      rw [pk_un e, pk_un e, pk_un e, pk_un e]
      refine ⟨l1, ⟨q, hq, eq, ?_⟩, l3, l4, l5⟩
      by_cases eqp : q = p
      · subst eqp
        rw [pk_us]
        rcases har with har | har
        · exfalso
          rw [har] at eq2
          rcases hk (a0 j) (a1 j) with z | z | z <;> rw [z] at eq2 <;> exact absurd eq2 (by decide)
        · rw [← har]
          exact eq2
      · rw [pk_un eqp]
        exact eq2
  · by_cases e : q = p
    · subst e
      rw [pk_us]
      exact Or.inr (hk v3 v4)
    · rw [pk_un e]
      exact w8 q hq
  · by_cases e : j = nl
    · subst e
      refine ⟨nc, Nat.le_refl _, pk_us, w5, ?_⟩
      rw [cd_en_nc]
      omega
    · obtain ⟨c, hcn, eo, e1, e2⟩ := how j (by omega)
      refine ⟨c, hcn, ?_, e1, ?_⟩
      · rw [pk_un e]
        exact eo
      · by_cases ec : c = nc
        · rw [ec, cd_en_nc]
          omega
        · rw [cd_en_lt (by omega)] at e2 ⊢
          exact e2
theorem cr_buf_add {nc nl : Nat} {st : Nat → Nat} {sg pr a0 a1 : Nat → Int32} {v1 v2 v3 v4 : Int32} {sl : Int32} {ns bn : Nat} {xK xA xB bd yK yA yB yb : Nat → Int32} (hM : st nc ≤ nl)
    (h : cr_buf nc st sg pr a0 a1 sl ns bn xK xA xB bd yK yA yB yb) : cr_buf nc st (upd sg nl v1) (upd pr nl v2) (upd a0 nl v3) (upd a1 nl v4) sl ns bn xK xA xB bd yK yA yB yb := by
  unfold cr_buf cr_ok at h ⊢
  rw [cd_mk_upd hM, cd_mk_upd hM, cd_mk_upd hM, cd_mk_upd hM]
  exact h
theorem cr_kept_add {nc nl : Nat} {st : Nat → Nat} {sg pr a0 a1 : Nat → Int32} {v1 v2 v3 v4 : Int32} {kp : Int32} {kc kn : Nat} {kK kA kB kI yK yA yB yb : Nat → Int32} (hM : st nc ≤ nl)
    (h : cr_kept nc st sg pr a0 a1 kp kc kK kA kB kI kn yK yA yB yb) : cr_kept nc st (upd sg nl v1) (upd pr nl v2) (upd a0 nl v3) (upd a1 nl v4) kp kc kK kA kB kI kn yK yA yB yb := by
  unfold cr_kept cr_kx cr_ky at h ⊢
  rw [cd_mk_upd hM, cd_mk_upd hM, cd_mk_upd hM, cd_mk_upd hM]
  exact h