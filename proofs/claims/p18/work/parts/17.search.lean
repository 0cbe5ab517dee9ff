section
variable {f_litCount f_clauseCount f_stepCount f_bufferSealed f_lastCheckStep f_keptCount f_proofKept f_openCount f_universeSize f_neededInstances f_givenLiterals : Int32} {a_litSign a_litPred a_litArg0 a_litArg1 a_clauseStart a_predArity a_stepKind a_stepA a_stepB a_binding a_keptKind a_keptA a_keptB a_keptInstance a_openCopy a_openLit a_parentCopy a_parentLit a_pathLength a_atomBase a_instanceLits a_instanceHolds a_literalHolds a_restInstances a_pathLiterals : Nat → Int32}
/-- one ground clause -/
theorem xi_make {post : St1 → Prop} {nc nl : Nat} {st : Nat → Nat} (hw : cd_wf nc nl st a_litSign a_litPred a_litArg0 a_litArg1 a_predArity) (hcs : ∀ c, c ≤ nc → a_clauseStart c = nI (st c))
    (hfx : cr_fix a_literalHolds a_pathLength)
    (hab : ∀ p, p < 4 → a_atomBase p = nI (cg_base a_litPred a_predArity (st nc) (cg_oc a_litArg0 a_litArg1 0 (st nc) && cg_oc a_litArg0 a_litArg1 1 (st nc)) p))
    (h5 : cg_base a_litPred a_predArity (st nc) (cg_oc a_litArg0 a_litArg1 0 (st nc) && cg_oc a_litArg0 a_litArg1 1 (st nc)) 4 ≤ 5) {q : Nat} (hq : q < 4 * nc)
    (h : ∀ il ih : Nat → Int32, (∀ n, n < 3 * q → il n = a_instanceLits n) → (∀ n, n < q → ih n = a_instanceHolds n) → xi_row nc st a_litSign a_litPred a_litArg0 a_litArg1 a_predArity il ih q →
      post (nI nl, nI nc, f_stepCount, f_bufferSealed, f_lastCheckStep, f_keptCount, f_proofKept, f_openCount, nI (cg_sz (cg_oc a_litArg0 a_litArg1 0 (st nc) && cg_oc a_litArg0 a_litArg1 1 (st nc))), f_neededInstances, f_givenLiterals, a_litSign, a_litPred, a_litArg0, a_litArg1, a_clauseStart, a_predArity, a_stepKind, a_stepA, a_stepB, a_binding, a_keptKind, a_keptA, a_keptB, a_keptInstance, a_openCopy, a_openLit, a_parentCopy, a_parentLit, a_pathLength, a_atomBase, il, ih, a_literalHolds, a_restInstances, a_pathLiterals)) :
    wpX_makeInstance post (nI nl, nI nc, f_stepCount, f_bufferSealed, f_lastCheckStep, f_keptCount, f_proofKept, f_openCount, nI (cg_sz (cg_oc a_litArg0 a_litArg1 0 (st nc) && cg_oc a_litArg0 a_litArg1 1 (st nc))), f_neededInstances, f_givenLiterals, a_litSign, a_litPred, a_litArg0, a_litArg1, a_clauseStart, a_predArity, a_stepKind, a_stepA, a_stepB, a_binding, a_keptKind, a_keptA, a_keptB, a_keptInstance, a_openCopy, a_openLit, a_parentCopy, a_parentLit, a_pathLength, a_atomBase, a_instanceLits, a_instanceHolds, a_literalHolds, a_restInstances, a_pathLiterals) (nI q) := by
  have hnc := hw.1
  have hnl := hw.2.1
  have hM := hw.2.2.2.2.1
  have ed : nI q / 4 = nI (q / 4) := by
    rw [show (4 : Int32) = nI 4 from rfl, pk_div (by omega) (by omega) (by omega)]
  have hc : q / 4 < nc := by omega
  obtain ⟨b1, b2, b3⟩ := cd_en_bd hw (show q / 4 ≤ nc by omega)
  rw [cd_en_lt hc] at b1 b2 b3
  have hst := cd_mono' hw (c := q / 4 + 1) (d := nc) (by omega) (Nat.le_refl _)
  refine ⟨by decide, nm_r ed ?_⟩
  refine xl_len hw hcs (by omega) ?_
  rw [cd_en_lt hc]
  have key : ∀ d i : Nat, i + d = 3 → ∀ (w : Int32) (il : Nat → Int32), (∀ n, n < 3 * q → il n = a_instanceLits n) →
      (∀ i', i' < i → il (3 * q + i') = if st (q / 4) + i' < st (q / 4 + 1) then nI (cg_L a_litSign a_litPred a_litArg0 a_litArg1 a_predArity (st nc) (st (q / 4) + i') (q / 2 % 2) (q % 2)) else -1) →
      (∀ t, t < 32 → (bt w t = true ↔ ∃ i', i' < i ∧ st (q / 4) + i' < st (q / 4 + 1) ∧ cq_tr (cg_tb t) (cg_L a_litSign a_litPred a_litArg0 a_litArg1 a_predArity (st nc) (st (q / 4) + i') (q / 2 % 2) (q % 2)))) →
      wX_makeInstance_16 post (nI q) (nI (q / 4)) (nI (st (q / 4 + 1) - st (q / 4))) (nI nl) (nI nc) f_stepCount f_bufferSealed f_lastCheckStep f_keptCount f_proofKept f_openCount (nI (cg_sz (cg_oc a_litArg0 a_litArg1 0 (st nc) && cg_oc a_litArg0 a_litArg1 1 (st nc)))) f_neededInstances f_givenLiterals (d + 1) w (nI i) a_litSign a_litPred a_litArg0 a_litArg1 a_clauseStart a_predArity a_stepKind a_stepA a_stepB a_binding a_keptKind a_keptA a_keptB a_keptInstance a_openCopy a_openLit a_parentCopy a_parentLit a_pathLength a_atomBase il a_instanceHolds a_literalHolds a_restInstances a_pathLiterals := by
    intro d
    induction d with
    | zero =>
      intro i hi w il hil hrow hbits
      have ei : i = 3 := by omega
      subst ei
      refine br_t (nI_le (a := 3) (b := 3) (Nat.le_refl _) (by decide)) ⟨vp_in_nI (by omega) (by decide), ?_⟩
      rw [nI_clamp (show q < 2 ^ 31 by omega)]
      refine nm_e (h il _ hil (fun n hn => pk_un (by omega)) ⟨hrow, fun t ht => ?_⟩)
      rw [pk_us, hbits t ht]
      constructor
      · intro ⟨i', _, h2, h3⟩
        exact ⟨_, ⟨st (q / 4) + i', by omega, h2, rfl⟩, h3⟩
      · intro ⟨m, ⟨j, h1, h2, e⟩, h3⟩
        refine ⟨j - st (q / 4), by omega, by omega, ?_⟩
        have ej : st (q / 4) + (j - st (q / 4)) = j := by omega
        rw [ej, ← e]
        exact h3
    | succ d ih =>
      intro i hi w il hil hrow hbits
      have hi3 : i < 3 := by omega
      have inL : vp_in (nI (3 * q + i)) 96 := vp_in_nI (by omega) (by decide)
      have clL : (nI (3 * q + i)).toNatClampNeg = 3 * q + i := nI_clamp (by omega)
      have eix : (3 * nI q) + nI i = nI (3 * q + i) := by
        rw [show (3 : Int32) = nI 3 from rfl, pk_mul, nI_add]
      -- behind the literal x
      have tail : ∀ (x w' : Int32), x = (if st (q / 4) + i < st (q / 4 + 1) then nI (cg_L a_litSign a_litPred a_litArg0 a_litArg1 a_predArity (st nc) (st (q / 4) + i) (q / 2 % 2) (q % 2)) else -1) →
          (∀ t, t < 32 → (bt w' t = true ↔ ∃ i', i' < i + 1 ∧ st (q / 4) + i' < st (q / 4 + 1) ∧ cq_tr (cg_tb t) (cg_L a_litSign a_litPred a_litArg0 a_litArg1 a_predArity (st nc) (st (q / 4) + i') (q / 2 % 2) (q % 2)))) →
          wX_makeInstance_59 post (wX_makeInstance_16 post (nI q) (nI (q / 4)) (nI (st (q / 4 + 1) - st (q / 4))) (nI nl) (nI nc) f_stepCount f_bufferSealed f_lastCheckStep f_keptCount f_proofKept f_openCount (nI (cg_sz (cg_oc a_litArg0 a_litArg1 0 (st nc) && cg_oc a_litArg0 a_litArg1 1 (st nc)))) f_neededInstances f_givenLiterals (d + 1)) (nI q) (nI (q / 4)) (nI (st (q / 4 + 1) - st (q / 4))) w' (nI i) x (nI nl) (nI nc) f_stepCount f_bufferSealed f_lastCheckStep f_keptCount f_proofKept f_openCount (nI (cg_sz (cg_oc a_litArg0 a_litArg1 0 (st nc) && cg_oc a_litArg0 a_litArg1 1 (st nc)))) f_neededInstances f_givenLiterals a_litSign a_litPred a_litArg0 a_litArg1 a_clauseStart a_predArity a_stepKind a_stepA a_stepB a_binding a_keptKind a_keptA a_keptB a_keptInstance a_openCopy a_openLit a_parentCopy a_parentLit a_pathLength a_atomBase il a_instanceHolds a_literalHolds a_restInstances a_pathLiterals := by
        intro x w' ex hw'
        unfold wX_makeInstance_59
        rw [eix, clL]
        refine ⟨inL, nm_e (nm_r (nI_1 i) (ih (i + 1) (by omega) w' _ (fun n hn => ?_) (fun i' hi' => ?_) hw'))⟩
        · rw [pk_un (by omega)]
          exact hil n hn
        · by_cases e : i' = i
          · subst e
            rw [pk_us]
            exact ex
          · rw [pk_un (by omega)]
            exact hrow i' (by omega)
      refine br_f (nI_ge (b := 3) hi3 (by decide)) ?_
      refine pk_le (st (q / 4 + 1) - st (q / 4)) i (fun z => ?_) (fun z => ?_)
      · refine tail (-1) w (by rw [if_neg (by omega)]) (fun t ht => ?_)
        rw [hbits t ht]
        constructor
        · intro ⟨i', h1, h2, h3⟩
          exact ⟨i', by omega, h2, h3⟩
        · intro ⟨i', h1, h2, h3⟩
          exact ⟨i', by omega, h2, h3⟩
      · refine ⟨vp_in_nI (by omega) (by decide), ?_⟩
        rw [nI_clamp (show q / 4 < 2 ^ 31 by omega), hcs (q / 4) (by omega), nI_add]
        refine xi_lit hw hab (show st (q / 4) + i < st nc by omega) (by omega) ?_
        have hlt := cg_HX_lt hw h5 hq ⟨st (q / 4) + i, by omega, by omega, rfl⟩
        refine ⟨vp_in_nI hlt (by decide), ?_⟩
        rw [nI_clamp (Nat.lt_trans hlt (by decide))]
        refine nm_e (tail _ _ (by rw [if_pos (by omega)]) (fun t ht => ?_))
        rw [b_or, Bool.or_eq_true, hbits t ht, xs_lh hfx hlt ht]
        constructor
        · intro hh
          rcases hh with ⟨i', h1, h2, h3⟩ | hh
          · exact ⟨i', by omega, h2, h3⟩
          · exact ⟨i, by omega, by omega, hh⟩
        · intro ⟨i', h1, h2, h3⟩
          by_cases e : i' = i
          · subst e
            exact Or.inr h3
          · exact Or.inl ⟨i', by omega, h2, h3⟩
  refine ⟨4, key 3 0 (by omega) 0 a_instanceLits (fun _ _ => rfl) (fun i' hi' => absurd hi' (Nat.not_lt_zero i')) (fun t ht => ?_)⟩
  rw [b_0]
  constructor
  · intro z
    exact absurd z (by decide)
  · intro ⟨i', h1, _⟩
    exact absurd h1 (Nat.not_lt_zero i')
end
theorem cg_Utest : ∀ o0 o1 : Bool, ∀ x, x < 2 → ∀ y, y < 2 → ((((nI (cg_con o0 o1) >>> (nI x &&& 31)) &&& (nI (cg_con o0 o1) >>> (nI y &&& 31))) &&& 1) = 0 ↔ ¬ (cg_U o0 o1 x ∧ cg_U o0 o1 y)) := by
  intro o0 o1 x hx y hy
  have ex : x = 0 ∨ x = 1 := by omega
  have ey : y = 0 ∨ y = 1 := by omega
  unfold cg_U
  rcases ex with rfl | rfl <;> rcases ey with rfl | rfl <;> cases o0 <;> cases o1 <;> decide
section
variable {f_litCount f_clauseCount f_stepCount f_bufferSealed f_lastCheckStep f_keptCount f_proofKept f_openCount f_universeSize f_neededInstances f_givenLiterals : Int32} {a_litSign a_litPred a_litArg0 a_litArg1 a_clauseStart a_predArity a_stepKind a_stepA a_stepB a_binding a_keptKind a_keptA a_keptB a_keptInstance a_openCopy a_openLit a_parentCopy a_parentLit a_pathLength a_atomBase a_instanceLits a_instanceHolds a_literalHolds a_restInstances a_pathLiterals : Nat → Int32}
theorem xi_rows {post : Int32 → St1 → Prop} {nc nl : Nat} {st : Nat → Nat} (hw : cd_wf nc nl st a_litSign a_litPred a_litArg0 a_litArg1 a_predArity) (hcs : ∀ c, c ≤ nc → a_clauseStart c = nI (st c))
    (hfx : cr_fix a_literalHolds a_pathLength)
    (hab : ∀ p, p < 4 → a_atomBase p = nI (cg_base a_litPred a_predArity (st nc) (cg_oc a_litArg0 a_litArg1 0 (st nc) && cg_oc a_litArg0 a_litArg1 1 (st nc)) p))
    (h5 : cg_base a_litPred a_predArity (st nc) (cg_oc a_litArg0 a_litArg1 0 (st nc) && cg_oc a_litArg0 a_litArg1 1 (st nc)) 4 ≤ 5)
    (h : ∀ (R : Int32) (il ih : Nat → Int32), (∀ q, xs_R R q ↔ cg_RX nc st a_litArg0 a_litArg1 q) → xi_tab nc st a_litSign a_litPred a_litArg0 a_litArg1 a_predArity il ih →
      post R (nI nl, nI nc, f_stepCount, f_bufferSealed, f_lastCheckStep, f_keptCount, f_proofKept, f_openCount, nI (cg_sz (cg_oc a_litArg0 a_litArg1 0 (st nc) && cg_oc a_litArg0 a_litArg1 1 (st nc))), f_neededInstances, f_givenLiterals, a_litSign, a_litPred, a_litArg0, a_litArg1, a_clauseStart, a_predArity, a_stepKind, a_stepA, a_stepB, a_binding, a_keptKind, a_keptA, a_keptB, a_keptInstance, a_openCopy, a_openLit, a_parentCopy, a_parentLit, a_pathLength, a_atomBase, il, ih, a_literalHolds, a_restInstances, a_pathLiterals)) :
    ∀ d q : Nat, q + d = 4 * nc → ∀ (R : Int32) (il ih : Nat → Int32), (∀ q', xs_R R q' ↔ q' < q ∧ cg_RX nc st a_litArg0 a_litArg1 q') →
      (∀ q', q' < q → cg_RX nc st a_litArg0 a_litArg1 q' → xi_row nc st a_litSign a_litPred a_litArg0 a_litArg1 a_predArity il ih q') →
      wX_makeInstances_53 post (nI (cg_con (cg_oc a_litArg0 a_litArg1 0 (st nc)) (cg_oc a_litArg0 a_litArg1 1 (st nc)))) (d + 1) R (nI q) (nI nl) (nI nc) f_stepCount f_bufferSealed f_lastCheckStep f_keptCount f_proofKept f_openCount (nI (cg_sz (cg_oc a_litArg0 a_litArg1 0 (st nc) && cg_oc a_litArg0 a_litArg1 1 (st nc)))) f_neededInstances f_givenLiterals a_litSign a_litPred a_litArg0 a_litArg1 a_clauseStart a_predArity a_stepKind a_stepA a_stepB a_binding a_keptKind a_keptA a_keptB a_keptInstance a_openCopy a_openLit a_parentCopy a_parentLit a_pathLength a_atomBase il ih a_literalHolds a_restInstances a_pathLiterals := by
  have hnc := hw.1
  have e4 : 4 * nI nc = nI (4 * nc) := by rw [show (4 : Int32) = nI 4 from rfl, pk_mul]
  intro d
  induction d with
  | zero =>
    intro q hq R il ih hR hrow
    have eq : q = 4 * nc := by omega
    subst eq
    refine br_t (by rw [e4]; exact nI_le (Nat.le_refl _) (by omega)) (h R il ih (fun q' => ?_) (fun q' hq' => hrow q' hq'.1 hq'))
    rw [hR q']
    exact ⟨fun z => z.2, fun z => ⟨z.1, z⟩⟩
  | succ d IH =>
    intro q hq R il ih hR hrow
    have hq4 : q < 4 * nc := by omega
    have hq32 : q < 32 := by omega
    refine br_f (by rw [e4]; exact nI_ge hq4 (by omega)) ?_
    refine xd_v2 hq32 (xd_v3 hq32 ?_)
    refine ek_if (cg_Utest _ _ (q / 2 % 2) (by omega) (q % 2) (by omega)) (fun z => nm_r (nI_1 q) ?_) (fun z => ?_)
    · refine IH (q + 1) (by omega) R il ih (fun q' => ?_) (fun q' hq' hX => ?_)
      · rw [hR q']
        constructor
        · intro ⟨y1, y2⟩
          exact ⟨by omega, y2⟩
        · intro ⟨y1, y2⟩
          refine ⟨?_, y2⟩
          by_cases e : q' = q
          · subst e
            exact absurd ⟨y2.2.1, y2.2.2⟩ z
          · omega
      · by_cases e : q' = q
        · subst e
          exact absurd ⟨hX.2.1, hX.2.2⟩ z
        · exact hrow q' (by omega) hX
    · have z' := Classical.byContradiction z
      refine xi_make hw hcs hfx hab h5 hq4 (fun il' ih' hil hih hnew => nm_e (nm_r (nI_1 q) ?_))
      refine IH (q + 1) (by omega) _ il' ih' (fun q' => ?_) (fun q' hq' hX => ?_)
      · unfold xs_R
        constructor
        · intro ⟨y1, y2⟩
          rw [b_or, xs_one hq32 y1, Bool.or_eq_true] at y2
          rcases y2 with y2 | y2
          · have := (hR q').mp ⟨y1, y2⟩
            exact ⟨by omega, this.2⟩
          · have e := of_decide_eq_true y2
            subst e
            exact ⟨by omega, hq4, z'.1, z'.2⟩
        · intro ⟨y1, y2⟩
          have hl : q' < 32 := by have := y2.1; omega
          refine ⟨hl, ?_⟩
          rw [b_or, xs_one hq32 hl]
          by_cases e : q' = q
          · rw [decide_eq_true e, Bool.or_true]
          · rw [((hR q').mpr ⟨by omega, y2⟩).2]
            rfl
      · by_cases e : q' = q
        · subst e
          exact hnew
        · obtain ⟨r1, r2⟩ := hrow q' (by omega) hX
          refine ⟨fun i hi => ?_, fun t ht => ?_⟩
          · rw [hil (3 * q' + i) (by omega)]
            exact r1 i hi
          · rw [hih q' (by omega)]
            exact r2 t ht
theorem xi_all {post : Int32 → St1 → Prop} {nc nl : Nat} {st : Nat → Nat} (hw : cd_wf nc nl st a_litSign a_litPred a_litArg0 a_litArg1 a_predArity) (hcs : ∀ c, c ≤ nc → a_clauseStart c = nI (st c))
    (hfx : cr_fix a_literalHolds a_pathLength)
    (h5 : cg_base a_litPred a_predArity (st nc) (cg_oc a_litArg0 a_litArg1 0 (st nc) && cg_oc a_litArg0 a_litArg1 1 (st nc)) 4 ≤ 5)
    (h : ∀ (R x1 : Int32) (ab il ih : Nat → Int32), (∀ q, xs_R R q ↔ cg_RX nc st a_litArg0 a_litArg1 q) → xi_tab nc st a_litSign a_litPred a_litArg0 a_litArg1 a_predArity il ih →
      post R (nI nl, nI nc, f_stepCount, f_bufferSealed, f_lastCheckStep, f_keptCount, f_proofKept, f_openCount, x1, f_neededInstances, f_givenLiterals, a_litSign, a_litPred, a_litArg0, a_litArg1, a_clauseStart, a_predArity, a_stepKind, a_stepA, a_stepB, a_binding, a_keptKind, a_keptA, a_keptB, a_keptInstance, a_openCopy, a_openLit, a_parentCopy, a_parentLit, a_pathLength, ab, il, ih, a_literalHolds, a_restInstances, a_pathLiterals)) :
    wpX_makeInstances post (nI nl, nI nc, f_stepCount, f_bufferSealed, f_lastCheckStep, f_keptCount, f_proofKept, f_openCount, f_universeSize, f_neededInstances, f_givenLiterals, a_litSign, a_litPred, a_litArg0, a_litArg1, a_clauseStart, a_predArity, a_stepKind, a_stepA, a_stepB, a_binding, a_keptKind, a_keptA, a_keptB, a_keptInstance, a_openCopy, a_openLit, a_parentCopy, a_parentLit, a_pathLength, a_atomBase, a_instanceLits, a_instanceHolds, a_literalHolds, a_restInstances, a_pathLiterals) := by
  refine xu_univ hw hcs (xu_size ?_)
  have key : ∀ d p : Nat, p + d = 4 → ∀ ab : Nat → Int32, (∀ p', p' < p → ab p' = nI (cg_base a_litPred a_predArity (st nc) (cg_oc a_litArg0 a_litArg1 0 (st nc) && cg_oc a_litArg0 a_litArg1 1 (st nc)) p')) →
      wX_makeInstances_18 post (nI (cg_con (cg_oc a_litArg0 a_litArg1 0 (st nc)) (cg_oc a_litArg0 a_litArg1 1 (st nc)))) (nI nl) (nI nc) f_stepCount f_bufferSealed f_lastCheckStep f_keptCount f_proofKept f_openCount (nI (cg_sz (cg_oc a_litArg0 a_litArg1 0 (st nc) && cg_oc a_litArg0 a_litArg1 1 (st nc)))) f_neededInstances f_givenLiterals (d + 1) (nI (cg_base a_litPred a_predArity (st nc) (cg_oc a_litArg0 a_litArg1 0 (st nc) && cg_oc a_litArg0 a_litArg1 1 (st nc)) p)) (nI p) a_litSign a_litPred a_litArg0 a_litArg1 a_clauseStart a_predArity a_stepKind a_stepA a_stepB a_binding a_keptKind a_keptA a_keptB a_keptInstance a_openCopy a_openLit a_parentCopy a_parentLit a_pathLength ab a_instanceLits a_instanceHolds a_literalHolds a_restInstances a_pathLiterals := by
    intro d
    induction d with
    | zero =>
      intro p hp ab hab
      have : p = 4 := by omega
      subst this
      refine br_t (nI_le (a := 4) (b := 4) (Nat.le_refl _) (by decide)) ⟨4 * nc + 1, ?_⟩
      refine xi_rows hw hcs hfx hab h5 (fun R il ih hR htab => h R _ ab il ih hR htab) (4 * nc) 0 (by omega) 0 _ _ (fun q' => ?_) (fun q' hq' => absurd hq' (Nat.not_lt_zero q'))
      constructor
      · intro z
        have := z.2
        rw [b_0] at this
        exact absurd this (by decide)
      · intro z
        exact absurd z.1 (Nat.not_lt_zero q')
    | succ d ih =>
      intro p hp ab hab
      refine br_f (nI_ge (b := 4) (by omega) (by decide)) ⟨vp_in_nI (by omega) (by decide), ?_⟩
      rw [nI_clamp (show p < 2 ^ 31 by omega)]
      refine nm_e ?_
      refine xu_atoms hw hcs (by omega) (nm_r (nI_add _ _) (nm_r (nI_1 p) (ih (p + 1) (by omega) _ (fun p' hp' => ?_))))
      by_cases e : p' = p
      · subst e
        exact pk_us
      · rw [pk_un e]
        exact hab p' (by omega)
  exact ⟨_, key 4 0 (by omega) a_atomBase (fun p' hp' => absurd hp' (Nat.not_lt_zero p'))⟩
/-! where things hold -/
theorem xs_where {post : Int32 → Prop} {R : Int32} (h : ∀ w : Int32, (∀ t, t < 32 → (bt w t = true ↔ (∀ q, xs_R R q → bt (a_instanceHolds q) t = true) ∧ (∀ m, xs_G f_givenLiterals m → bt (a_literalHolds m) t = true))) → post w) :
    wpX_whereHold post (f_litCount, f_clauseCount, f_stepCount, f_bufferSealed, f_lastCheckStep, f_keptCount, f_proofKept, f_openCount, f_universeSize, f_neededInstances, f_givenLiterals, a_litSign, a_litPred, a_litArg0, a_litArg1, a_clauseStart, a_predArity, a_stepKind, a_stepA, a_stepB, a_binding, a_keptKind, a_keptA, a_keptB, a_keptInstance, a_openCopy, a_openLit, a_parentCopy, a_parentLit, a_pathLength, a_atomBase, a_instanceLits, a_instanceHolds, a_literalHolds, a_restInstances, a_pathLiterals) R := by
  have lits : ∀ d k : Nat, k + d = 10 → ∀ w : Int32, (∀ t, t < 32 → (bt w t = true ↔ (∀ q, xs_R R q → bt (a_instanceHolds q) t = true) ∧ (∀ m, m < k → xs_G f_givenLiterals m → bt (a_literalHolds m) t = true))) →
      wX_whereHold_35 post f_litCount f_clauseCount f_stepCount f_bufferSealed f_lastCheckStep f_keptCount f_proofKept f_openCount f_universeSize f_neededInstances f_givenLiterals a_litSign a_litPred a_litArg0 a_litArg1 a_clauseStart a_predArity a_stepKind a_stepA a_stepB a_binding a_keptKind a_keptA a_keptB a_keptInstance a_openCopy a_openLit a_parentCopy a_parentLit a_pathLength a_atomBase a_instanceLits a_instanceHolds a_literalHolds a_restInstances a_pathLiterals (d + 1) w (nI k) := by
    intro d
    induction d with
    | zero =>
      intro k hk w hw
      have : k = 10 := by omega
      subst this
      refine br_t (nI_le (a := 10) (b := 10) (Nat.le_refl _) (by decide)) (h w (fun t ht => ?_))
      rw [hw t ht]
      constructor
      · intro ⟨y1, y2⟩
        exact ⟨y1, fun m hm => y2 m hm.1 hm⟩
      · intro ⟨y1, y2⟩
        exact ⟨y1, fun m _ hm => y2 m hm⟩
    | succ d ih =>
      intro k hk w hw
      refine br_f (nI_ge (b := 10) (by omega) (by decide)) ?_
      refine ek_if (xs_bit f_givenLiterals (show k < 32 by omega)) (fun z => nm_r (nI_1 k) (ih (k + 1) (by omega) w (fun t ht => ?_))) (fun z => ⟨vp_in_nI (by omega) (by decide), ?_⟩)
      · rw [hw t ht]
        constructor
        · intro ⟨y1, y2⟩
          refine ⟨y1, fun m hm hG => ?_⟩
          by_cases e : m = k
          · subst e
            rw [hG.2] at z
            exact absurd z (by decide)
          · exact y2 m (by omega) hG
        · intro ⟨y1, y2⟩
          exact ⟨y1, fun m hm hG => y2 m (by omega) hG⟩
      · rw [nI_clamp (show k < 2 ^ 31 by omega)]
        have z' : bt f_givenLiterals k = true := by
          cases zz : bt f_givenLiterals k
          · exact absurd zz z
          · rfl
        refine nm_e (nm_r (nI_1 k) (ih (k + 1) (by omega) _ (fun t ht => ?_)))
        rw [b_and, Bool.and_eq_true, hw t ht]
        constructor
        · intro ⟨⟨y1, y2⟩, y3⟩
          refine ⟨y1, fun m hm hG => ?_⟩
          by_cases e : m = k
          · subst e
            exact y3
          · exact y2 m (by omega) hG
        · intro ⟨y1, y2⟩
          exact ⟨⟨y1, fun m hm hG => y2 m (by omega) hG⟩, y2 k (by omega) ⟨by omega, z'⟩⟩
  have rows : ∀ d k : Nat, k + d = 32 → ∀ w : Int32, (∀ t, t < 32 → (bt w t = true ↔ (∀ q, q < k → xs_R R q → bt (a_instanceHolds q) t = true))) → wX_whereHold_4 post R f_litCount f_clauseCount f_stepCount f_bufferSealed f_lastCheckStep f_keptCount f_proofKept f_openCount f_universeSize f_neededInstances f_givenLiterals a_litSign a_litPred a_litArg0 a_litArg1 a_clauseStart a_predArity a_stepKind a_stepA a_stepB a_binding a_keptKind a_keptA a_keptB a_keptInstance a_openCopy a_openLit a_parentCopy a_parentLit a_pathLength a_atomBase a_instanceLits a_instanceHolds a_literalHolds a_restInstances a_pathLiterals (d + 1) w (nI k) := by
    intro d
    induction d with
    | zero =>
      intro k hk w hw
      have : k = 32 := by omega
      subst this
      refine br_t (nI_le (a := 32) (b := 32) (Nat.le_refl _) (by decide)) ⟨11, lits 10 0 (by omega) w (fun t ht => ?_)⟩
      rw [hw t ht]
      constructor
      · intro y
        exact ⟨fun q hq => y q hq.1 hq, fun m hm => absurd hm (Nat.not_lt_zero m)⟩
      · intro ⟨y1, _⟩ q _ hq
        exact y1 q hq
    | succ d ih =>
      intro k hk w hw
      refine br_f (nI_ge (b := 32) (by omega) (by decide)) ?_
      refine ek_if (xs_bit R (show k < 32 by omega)) (fun z => nm_r (nI_1 k) (ih (k + 1) (by omega) w (fun t ht => ?_))) (fun z => ⟨vp_in_nI (by omega) (by decide), ?_⟩)
      · rw [hw t ht]
        constructor
        · intro y q hq hR
          by_cases e : q = k
          · subst e
            rw [hR.2] at z
            exact absurd z (by decide)
          · exact y q (by omega) hR
        · intro y q hq hR
          exact y q (by omega) hR
      · rw [nI_clamp (show k < 2 ^ 31 by omega)]
        have z' : bt R k = true := by
          cases zz : bt R k
          · exact absurd zz z
          · rfl
        refine nm_e (nm_r (nI_1 k) (ih (k + 1) (by omega) _ (fun t ht => ?_)))
        rw [b_and, Bool.and_eq_true, hw t ht]
        constructor
        · intro ⟨y1, y3⟩ q hq hR
          by_cases e : q = k
          · subst e
            exact y3
          · exact y1 q (by omega) hR
        · intro y
          exact ⟨fun q hq hR => y q (by omega) hR, y k (by omega) ⟨by omega, z'⟩⟩
  refine ⟨33, rows 32 0 (by omega) (-1) (fun t ht => ?_)⟩
  rw [b_m1 t ht]
  exact ⟨fun _ q hq => absurd hq (Nat.not_lt_zero q), fun _ => rfl⟩
/-- nowhere: the needed ground clauses and the given literals can't hold together -/
theorem xs_test {post : Int32 → Prop} {nc nl : Nat} {st : Nat → Nat} {sg pr a0 a1 ar ph : Nat → Int32} (hw : cd_wf nc nl st sg pr a0 a1 ar) (hfx : cr_fix a_literalHolds ph)
    (h5 : cg_base pr ar (st nc) (cg_oc a0 a1 0 (st nc) && cg_oc a0 a1 1 (st nc)) 4 ≤ 5) (htab : xi_tab nc st sg pr a0 a1 ar a_instanceLits a_instanceHolds)
    {R : Int32} (hR : ∀ q, xs_R R q → cg_RX nc st a0 a1 q) (h0 : ¬ cq_sat (cg_HX nc st sg pr a0 a1 ar) (xs_R R) (xs_G f_givenLiterals) → post 0)
    (h1 : ∀ w : Int32, ¬ w = 0 → cq_sat (cg_HX nc st sg pr a0 a1 ar) (xs_R R) (xs_G f_givenLiterals) → post w) : wpX_whereHold post (f_litCount, f_clauseCount, f_stepCount, f_bufferSealed, f_lastCheckStep, f_keptCount, f_proofKept, f_openCount, f_universeSize, f_neededInstances, f_givenLiterals, a_litSign, a_litPred, a_litArg0, a_litArg1, a_clauseStart, a_predArity, a_stepKind, a_stepA, a_stepB, a_binding, a_keptKind, a_keptA, a_keptB, a_keptInstance, a_openCopy, a_openLit, a_parentCopy, a_parentLit, a_pathLength, a_atomBase, a_instanceLits, a_instanceHolds, a_literalHolds, a_restInstances, a_pathLiterals) R := by
  refine xs_where (fun w hw' => ?_)
  have iff : (∃ t, t < 32 ∧ bt w t = true) ↔ cq_sat (cg_HX nc st sg pr a0 a1 ar) (xs_R R) (xs_G f_givenLiterals) := by
    constructor
    · intro ⟨t, ht, hb⟩
      obtain ⟨y1, y2⟩ := (hw' t ht).mp hb
      exact ⟨cg_tb t, fun q hq => ((htab q (hR q hq)).2 t ht).mp (y1 q hq), fun m hm => (xs_lh hfx hm.1 ht).mp (y2 m hm)⟩
    · intro ⟨f, y1, y2⟩
      obtain ⟨t, ht, hf⟩ := xs_f5 f
      refine ⟨t, ht, (hw' t ht).mpr ⟨fun q hq => ?_, fun m hm => ?_⟩⟩
      · obtain ⟨m, hm, hT⟩ := y1 q hq
        exact ((htab q (hR q hq)).2 t ht).mpr ⟨m, hm, (xs_tr hf (cg_HX_lt hw h5 (hR q hq).1 hm)).mp hT⟩
      · exact (xs_lh hfx hm.1 ht).mpr ((xs_tr hf hm.1).mp (y2 m hm))
  by_cases e : w = 0
  · subst e
    refine h0 (fun s => ?_)
    obtain ⟨t, _, hb⟩ := iff.mpr s
    rw [b_0] at hb
    exact absurd hb (by decide)
  · refine h1 w e (iff.mp (Classical.byContradiction (fun hn => e (b_ext (fun i hi => ?_)))))
    rw [b_0]
    cases hb : bt w i
    · rfl
    · exact absurd ⟨i, hi, hb⟩ hn
theorem xs_keep {post : St1 → Prop} {nc nl : Nat} {st : Nat → Nat} {sg pr a0 a1 ar ph : Nat → Int32} (hw : cd_wf nc nl st sg pr a0 a1 ar) (hfx : cr_fix a_literalHolds ph)
    (h5 : cg_base pr ar (st nc) (cg_oc a0 a1 0 (st nc) && cg_oc a0 a1 1 (st nc)) 4 ≤ 5) (htab : xi_tab nc st sg pr a0 a1 ar a_instanceLits a_instanceHolds)
    {R0 : Int32} (hR0 : ∀ q, xs_R R0 q → cg_RX nc st a0 a1 q) (hu : ¬ cq_sat (cg_HX nc st sg pr a0 a1 ar) (xs_R R0) (xs_G f_givenLiterals))
    (h : ∀ R : Int32, (∀ q, xs_R R q → xs_R R0 q) → ¬ cq_sat (cg_HX nc st sg pr a0 a1 ar) (xs_R R) (xs_G f_givenLiterals) →
      (∀ q, xs_R R q → cq_sat (cg_HX nc st sg pr a0 a1 ar) (cq_del (xs_R R) q) (xs_G f_givenLiterals)) → post (f_litCount, f_clauseCount, f_stepCount, f_bufferSealed, f_lastCheckStep, f_keptCount, f_proofKept, f_openCount, f_universeSize, R, f_givenLiterals, a_litSign, a_litPred, a_litArg0, a_litArg1, a_clauseStart, a_predArity, a_stepKind, a_stepA, a_stepB, a_binding, a_keptKind, a_keptA, a_keptB, a_keptInstance, a_openCopy, a_openLit, a_parentCopy, a_parentLit, a_pathLength, a_atomBase, a_instanceLits, a_instanceHolds, a_literalHolds, a_restInstances, a_pathLiterals)) :
    wpX_keepOnlyNeeded post (f_litCount, f_clauseCount, f_stepCount, f_bufferSealed, f_lastCheckStep, f_keptCount, f_proofKept, f_openCount, f_universeSize, R0, f_givenLiterals, a_litSign, a_litPred, a_litArg0, a_litArg1, a_clauseStart, a_predArity, a_stepKind, a_stepA, a_stepB, a_binding, a_keptKind, a_keptA, a_keptB, a_keptInstance, a_openCopy, a_openLit, a_parentCopy, a_parentLit, a_pathLength, a_atomBase, a_instanceLits, a_instanceHolds, a_literalHolds, a_restInstances, a_pathLiterals) := by
  have key : ∀ d k : Nat, k + d = 32 → ∀ R : Int32, (∀ q, xs_R R q → xs_R R0 q) → ¬ cq_sat (cg_HX nc st sg pr a0 a1 ar) (xs_R R) (xs_G f_givenLiterals) →
      (∀ q, q < k → xs_R R q → cq_sat (cg_HX nc st sg pr a0 a1 ar) (cq_del (xs_R R) q) (xs_G f_givenLiterals)) →
      wX_keepOnlyNeeded_2 post f_litCount f_clauseCount f_stepCount f_bufferSealed f_lastCheckStep f_keptCount f_proofKept f_openCount f_universeSize f_givenLiterals a_litSign a_litPred a_litArg0 a_litArg1 a_clauseStart a_predArity a_stepKind a_stepA a_stepB a_binding a_keptKind a_keptA a_keptB a_keptInstance a_openCopy a_openLit a_parentCopy a_parentLit a_pathLength a_atomBase a_instanceLits a_instanceHolds a_literalHolds a_restInstances a_pathLiterals (d + 1) (nI k) R := by
    intro d
    induction d with
    | zero =>
      intro k hk R y1 y2 y3
      have : k = 32 := by omega
      subst this
      exact br_t (nI_le (a := 32) (b := 32) (Nat.le_refl _) (by decide)) (h R y1 y2 (fun q hq => y3 q hq.1 hq))
    | succ d ih =>
      intro k hk R y1 y2 y3
      have hk32 : k < 32 := by omega
      have hd := xs_R_del (R := R) hk32
      refine br_f (nI_ge (b := 32) hk32 (by decide)) (nm_e ?_)
      refine xs_test hw hfx h5 htab (fun q hq => hR0 q (y1 q ((hd q).mp hq).1)) (fun z => br_t rfl (nm_r (nI_1 k) ?_)) (fun w hw0 z => br_f hw0 (nm_r (nI_1 k) ?_))
      · refine ih (k + 1) (by omega) _ (fun q hq => y1 q ((hd q).mp hq).1) z (fun q hq hR => ?_)
        obtain ⟨r1, r2⟩ := (hd q).mp hR
        have r2' : ¬ q = k := r2
        refine cq_sat_mono (fun q' hq' => ⟨((hd q').mp hq'.1).1, hq'.2⟩) (fun _ hm => hm) (y3 q (by omega) r1)
      · refine ih (k + 1) (by omega) R y1 y2 (fun q hq hR => ?_)
        by_cases e : q = k
        · subst e
          exact cq_sat_mono (fun q' hq' => (hd q').mpr hq') (fun _ hm => hm) z
        · exact y3 q (by omega) hR
  exact ⟨_, key 32 0 (by omega) R0 (fun _ z => z) hu (fun q hq => absurd hq (Nat.not_lt_zero q))⟩
theorem xs_low {post : Int32 → Prop} {q0 : Nat} (hq0 : xs_R f_neededInstances q0) (h : ∀ q, xs_R f_neededInstances q → post (nI q)) : wpX_lowestInstance post (f_litCount, f_clauseCount, f_stepCount, f_bufferSealed, f_lastCheckStep, f_keptCount, f_proofKept, f_openCount, f_universeSize, f_neededInstances, f_givenLiterals, a_litSign, a_litPred, a_litArg0, a_litArg1, a_clauseStart, a_predArity, a_stepKind, a_stepA, a_stepB, a_binding, a_keptKind, a_keptA, a_keptB, a_keptInstance, a_openCopy, a_openLit, a_parentCopy, a_parentLit, a_pathLength, a_atomBase, a_instanceLits, a_instanceHolds, a_literalHolds, a_restInstances, a_pathLiterals) := by
  have key : ∀ k : Nat, k ≤ 32 → ∀ x : Nat, ((∃ q, k ≤ q ∧ xs_R f_neededInstances q) → xs_R f_neededInstances x) → wX_lowestInstance_5 post f_litCount f_clauseCount f_stepCount f_bufferSealed f_lastCheckStep f_keptCount f_proofKept f_openCount f_universeSize f_neededInstances f_givenLiterals a_litSign a_litPred a_litArg0 a_litArg1 a_clauseStart a_predArity a_stepKind a_stepA a_stepB a_binding a_keptKind a_keptA a_keptB a_keptInstance a_openCopy a_openLit a_parentCopy a_parentLit a_pathLength a_atomBase a_instanceLits a_instanceHolds a_literalHolds a_restInstances a_pathLiterals (k + 1) (nI x) (nI k + (-1)) := by
    intro k
    induction k with
    | zero =>
      intro _ x hx
      exact br_t (by decide) (h x (hx ⟨q0, Nat.zero_le _, hq0⟩))
    | succ k ih =>
      intro hk x hx
      rw [pk_m1]
      refine br_f (nI_pos (by omega)) ?_
      refine ek_if (xs_bit f_neededInstances (show k < 32 by omega)) (fun z => nm_e (ih (by omega) x (fun ⟨q, y1, y2⟩ => hx ⟨q, ?_, y2⟩))) (fun z => nm_e (ih (by omega) k (fun _ => ⟨by omega, ?_⟩)))
      · by_cases e : q = k
        · subst e
          rw [y2.2] at z
          exact absurd z (by decide)
        · omega
      · cases zz : bt f_neededInstances k
        · exact absurd zz z
        · rfl
  refine ⟨33, key 32 (Nat.le_refl _) 0 (fun ⟨q, y1, y2⟩ => ?_)⟩
  have := y2.1
  omega
theorem xs_find {post : Int32 → Prop} {m k0 : Nat} (hk0 : k0 < 96) (hn0 : bt f_neededInstances (k0 / 3) = true) (he0 : a_instanceLits k0 = nI m)
    (h : ∀ k, k < 96 → bt f_neededInstances (k / 3) = true → a_instanceLits k = nI m → post (nI k)) : wpX_findNeeded post (f_litCount, f_clauseCount, f_stepCount, f_bufferSealed, f_lastCheckStep, f_keptCount, f_proofKept, f_openCount, f_universeSize, f_neededInstances, f_givenLiterals, a_litSign, a_litPred, a_litArg0, a_litArg1, a_clauseStart, a_predArity, a_stepKind, a_stepA, a_stepB, a_binding, a_keptKind, a_keptA, a_keptB, a_keptInstance, a_openCopy, a_openLit, a_parentCopy, a_parentLit, a_pathLength, a_atomBase, a_instanceLits, a_instanceHolds, a_literalHolds, a_restInstances, a_pathLiterals) (nI m) := by
  have key : ∀ d k : Nat, k + d = 96 → ∀ x : Nat, (k0 < k → x < 96 ∧ bt f_neededInstances (x / 3) = true ∧ a_instanceLits x = nI m) → wX_findNeeded_4 post (nI m) f_litCount f_clauseCount f_stepCount f_bufferSealed f_lastCheckStep f_keptCount f_proofKept f_openCount f_universeSize f_neededInstances f_givenLiterals a_litSign a_litPred a_litArg0 a_litArg1 a_clauseStart a_predArity a_stepKind a_stepA a_stepB a_binding a_keptKind a_keptA a_keptB a_keptInstance a_openCopy a_openLit a_parentCopy a_parentLit a_pathLength a_atomBase a_instanceLits a_instanceHolds a_literalHolds a_restInstances a_pathLiterals (d + 1) (nI x) (nI k) := by
    intro d
    induction d with
    | zero =>
      intro k hk x hx
      obtain ⟨y1, y2, y3⟩ := hx (by omega)
      exact br_t (nI_le (a := 96) (by omega) (by omega)) (h x y1 y2 y3)
    | succ d ih =>
      intro k hk x hx
      have ed : nI k / 3 = nI (k / 3) := by
        rw [show (3 : Int32) = nI 3 from rfl, pk_div (by omega) (by omega) (by omega)]
      refine br_f (nI_ge (b := 96) (by omega) (by decide)) ⟨by decide, ?_⟩
      rw [ed]
      refine ek_if (xs_bit f_neededInstances (show k / 3 < 32 by omega)) (fun z => br_t rfl (nm_r (nI_1 k) (ih (k + 1) (by omega) x (fun hlt => hx ?_)))) (fun z => br_f (by decide) ⟨vp_in_nI (by omega) (by decide), ?_⟩)
      · by_cases e : k0 = k
        · rw [e, z] at hn0
          exact absurd hn0 (by decide)
        · omega
      · rw [nI_clamp (show k < 2 ^ 31 by omega)]
        refine br_c (fun e => nm_r (nI_1 k) (ih (k + 1) (by omega) k (fun _ => ⟨by omega, ?_, e⟩))) (fun e => nm_r (nI_1 k) (ih (k + 1) (by omega) x (fun hlt => hx ?_)))
        · cases zz : bt f_neededInstances (k / 3)
          · exact absurd zz z
          · rfl
        · by_cases e2 : k0 = k
          · rw [e2] at he0
            exact absurd he0 e
          · omega
  exact ⟨_, key 96 0 (by omega) 0 (fun z => absurd z (Nat.not_lt_zero k0))⟩
end
