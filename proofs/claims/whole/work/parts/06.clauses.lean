/-! Y's two scans of the owners -/
section
variable {f_clauseCount f_litCount f_kept f_kN f_bN f_sealed f_lastStep f_cNodes f_cSp f_pNodes f_pSp : Int32} {a_lSign a_lPred a_lA0 a_lA1 a_lOwner a_arity a_kKind a_kA a_kB a_kBind a_bKind a_bA a_bB a_bBind a_cCopy a_cLit a_cPar a_cStk a_cl a_gtab a_pLit a_pPar a_pStk : Nat → Int32}
theorem yl_lenOf {post : Int32 → Prop} {nc nl : Nat} {st : Nat → Nat} {sg pr a0 a1 ar : Nat → Int32} (hw : cd_wf nc nl st sg pr a0 a1 ar) (ho : cd_own nc nl st a_lOwner)
    {c : Nat} (hc : c ≤ nc) (h : post (nI (cd_en nc nl st c - st c))) : wpY_lenOf post (f_clauseCount, nI nl, f_kept, f_kN, f_bN, f_sealed, f_lastStep, f_cNodes, f_cSp, f_pNodes, f_pSp, a_lSign, a_lPred, a_lA0, a_lA1, a_lOwner, a_arity, a_kKind, a_kA, a_kB, a_kBind, a_bKind, a_bA, a_bB, a_bBind, a_cCopy, a_cLit, a_cPar, a_cStk, a_cl, a_gtab, a_pLit, a_pPar, a_pStk) (nI c) := by
  obtain ⟨b1, b2, b3⟩ := cd_en_bd hw hc
  have hnl := hw.2.1
  have key : ∀ d j : Nat, j + d = nl → wY_lenOf_4 post (nI c) f_clauseCount (nI nl) f_kept f_kN f_bN f_sealed f_lastStep f_cNodes f_cSp f_pNodes f_pSp a_lSign a_lPred a_lA0 a_lA1 a_lOwner a_arity a_kKind a_kA a_kB a_kBind a_bKind a_bA a_bB a_bBind a_cCopy a_cLit a_cPar a_cStk a_cl a_gtab a_pLit a_pPar a_pStk (d + 1) (nI (min j (cd_en nc nl st c) - st c)) (nI j) := by
    intro d
    induction d with
    | zero =>
      intro j hj
      have e : min j (cd_en nc nl st c) - st c = cd_en nc nl st c - st c := by omega
      rw [e]
      exact br_t (nI_le (by omega) (by omega)) h
    | succ d ih =>
      intro j hj
      have hj2 : j < nl := by omega
      refine br_f (nI_ge hj2 (by omega)) ⟨vp_in_nI (by omega) (by decide), ?_⟩
      rw [nI_clamp (show j < 2 ^ 31 by omega)]
      refine ek_if (cd_own_iff hw ho hj2 hc) (fun z => ?_) (fun z => ?_)
      · have e : min j (cd_en nc nl st c) - st c + 1 = min (j + 1) (cd_en nc nl st c) - st c := by omega
        refine nm_r (nI_1 _) (nm_r (nI_1 _) ?_)
        rw [e]
        exact ih (j + 1) (by omega)
      · have e : min j (cd_en nc nl st c) - st c = min (j + 1) (cd_en nc nl st c) - st c := by omega
        refine nm_r (nI_1 _) ?_
        rw [e]
        exact ih (j + 1) (by omega)
  have e : min 0 (cd_en nc nl st c) - st c = 0 := by omega
  have := key nl 0 (by omega)
  rw [e] at this
  exact ⟨_, this⟩
theorem yl_nth {post : Int32 → Prop} {nc nl : Nat} {st : Nat → Nat} {sg pr a0 a1 ar : Nat → Int32} (hw : cd_wf nc nl st sg pr a0 a1 ar) (ho : cd_own nc nl st a_lOwner)
    {c i : Nat} (hc : c ≤ nc) (hi : i < cd_en nc nl st c - st c) (h : post (nI (st c + i))) : wpY_nthLit post (f_clauseCount, nI nl, f_kept, f_kN, f_bN, f_sealed, f_lastStep, f_cNodes, f_cSp, f_pNodes, f_pSp, a_lSign, a_lPred, a_lA0, a_lA1, a_lOwner, a_arity, a_kKind, a_kA, a_kB, a_kBind, a_bKind, a_bA, a_bB, a_bBind, a_cCopy, a_cLit, a_cPar, a_cStk, a_cl, a_gtab, a_pLit, a_pPar, a_pStk) (nI c) (nI i) := by
  obtain ⟨b1, b2, b3⟩ := cd_en_bd hw hc
  have hnl := hw.2.1
  have key : ∀ d j : Nat, j + d = st c + i → wY_nthLit_5 post (nI c) (nI i) f_clauseCount (nI nl) f_kept f_kN f_bN f_sealed f_lastStep f_cNodes f_cSp f_pNodes f_pSp a_lSign a_lPred a_lA0 a_lA1 a_lOwner a_arity a_kKind a_kA a_kB a_kBind a_bKind a_bA a_bB a_bBind a_cCopy a_cLit a_cPar a_cStk a_cl a_gtab a_pLit a_pPar a_pStk (d + 1) (nI (j - st c)) (nI j) := by
    intro d
    induction d with
    | zero =>
      intro j hj
      refine br_f (nI_ge (show j < nl by omega) (by omega)) ⟨vp_in_nI (by omega) (by decide), ?_⟩
      rw [nI_clamp (show j < 2 ^ 31 by omega)]
      have e1 : j - st c = i := by omega
      have e2 : j = st c + i := by omega
      refine br_t ((cd_own_iff hw ho (by omega) hc).mpr ⟨by omega, by omega⟩) (br_t (by rw [e1]) ?_)
      rw [e2]
      exact h
    | succ d ih =>
      intro j hj
      refine br_f (nI_ge (show j < nl by omega) (by omega)) ⟨vp_in_nI (by omega) (by decide), ?_⟩
      rw [nI_clamp (show j < 2 ^ 31 by omega)]
      refine ek_if (cd_own_iff hw ho (by omega) hc) (fun z => ?_) (fun z => ?_)
      · refine br_f (fun e => ?_) ?_
        · rw [nI_eq (by omega) (by omega)] at e
          omega
        · have e : j - st c + 1 = j + 1 - st c := by omega
          refine nm_r (nI_1 _) (nm_r (nI_1 _) ?_)
          rw [e]
          exact ih (j + 1) (by omega)
      · have e : j - st c = j + 1 - st c := by omega
        refine nm_r (nI_1 _) ?_
        rw [e]
        exact ih (j + 1) (by omega)
  have e : 0 - st c = 0 := by omega
  have := key (st c + i) 0 (by omega)
  rw [e] at this
  exact ⟨_, this⟩
theorem yl_nth_no {post : Int32 → Prop} {nc nl : Nat} {st : Nat → Nat} {sg pr a0 a1 ar : Nat → Int32} (hw : cd_wf nc nl st sg pr a0 a1 ar) (ho : cd_own nc nl st a_lOwner)
    {c : Nat} {i : Int32} (hc : c ≤ nc) (hi : ∀ n, n < cd_en nc nl st c - st c → ¬ nI n = i) (h : post (-1)) : wpY_nthLit post (f_clauseCount, nI nl, f_kept, f_kN, f_bN, f_sealed, f_lastStep, f_cNodes, f_cSp, f_pNodes, f_pSp, a_lSign, a_lPred, a_lA0, a_lA1, a_lOwner, a_arity, a_kKind, a_kA, a_kB, a_kBind, a_bKind, a_bA, a_bB, a_bBind, a_cCopy, a_cLit, a_cPar, a_cStk, a_cl, a_gtab, a_pLit, a_pPar, a_pStk) (nI c) i := by
  obtain ⟨b1, b2, b3⟩ := cd_en_bd hw hc
  have hnl := hw.2.1
  have key : ∀ d j : Nat, j + d = nl → wY_nthLit_5 post (nI c) i f_clauseCount (nI nl) f_kept f_kN f_bN f_sealed f_lastStep f_cNodes f_cSp f_pNodes f_pSp a_lSign a_lPred a_lA0 a_lA1 a_lOwner a_arity a_kKind a_kA a_kB a_kBind a_bKind a_bA a_bB a_bBind a_cCopy a_cLit a_cPar a_cStk a_cl a_gtab a_pLit a_pPar a_pStk (d + 1) (nI (min j (cd_en nc nl st c) - st c)) (nI j) := by
    intro d
    induction d with
    | zero =>
      intro j hj
      exact br_t (nI_le (by omega) (by omega)) h
    | succ d ih =>
      intro j hj
      have hj2 : j < nl := by omega
      refine br_f (nI_ge hj2 (by omega)) ⟨vp_in_nI (by omega) (by decide), ?_⟩
      rw [nI_clamp (show j < 2 ^ 31 by omega)]
      refine ek_if (cd_own_iff hw ho hj2 hc) (fun z => ?_) (fun z => ?_)
      · have e : min j (cd_en nc nl st c) - st c + 1 = min (j + 1) (cd_en nc nl st c) - st c := by omega
        refine br_f (hi _ (by omega)) (nm_r (nI_1 _) (nm_r (nI_1 _) ?_))
        rw [e]
        exact ih (j + 1) (by omega)
      · have e : min j (cd_en nc nl st c) - st c = min (j + 1) (cd_en nc nl st c) - st c := by omega
        refine nm_r (nI_1 _) ?_
        rw [e]
        exact ih (j + 1) (by omega)
  have e : min 0 (cd_en nc nl st c) - st c = 0 := by omega
  have := key nl 0 (by omega)
  rw [e] at this
  exact ⟨_, this⟩
end
/-! X's length -/
section
variable {f_litCount f_clauseCount f_stepCount f_bufferSealed f_lastCheckStep f_keptCount f_proofKept f_openCount f_universeSize f_neededInstances f_givenLiterals : Int32} {a_litSign a_litPred a_litArg0 a_litArg1 a_clauseStart a_predArity a_stepKind a_stepA a_stepB a_binding a_keptKind a_keptA a_keptB a_keptInstance a_openCopy a_openLit a_parentCopy a_parentLit a_pathLength a_atomBase a_instanceLits a_instanceHolds a_literalHolds a_restInstances a_pathLiterals : Nat → Int32}
theorem xl_len {post : Int32 → Prop} {nc nl : Nat} {st : Nat → Nat} {sg pr a0 a1 ar : Nat → Int32} (hw : cd_wf nc nl st sg pr a0 a1 ar) (hcs : ∀ c, c ≤ nc → a_clauseStart c = nI (st c))
    {c : Nat} (hc : c ≤ nc) (h : post (nI (cd_en nc nl st c - st c))) : wpX_getClauseLength post (nI nl, nI nc, f_stepCount, f_bufferSealed, f_lastCheckStep, f_keptCount, f_proofKept, f_openCount, f_universeSize, f_neededInstances, f_givenLiterals, a_litSign, a_litPred, a_litArg0, a_litArg1, a_clauseStart, a_predArity, a_stepKind, a_stepA, a_stepB, a_binding, a_keptKind, a_keptA, a_keptB, a_keptInstance, a_openCopy, a_openLit, a_parentCopy, a_parentLit, a_pathLength, a_atomBase, a_instanceLits, a_instanceHolds, a_literalHolds, a_restInstances, a_pathLiterals) (nI c) := by
  obtain ⟨b1, b2, b3⟩ := cd_en_bd hw hc
  have hnc := hw.1
  have hnl := hw.2.1
  refine br_f (nI_pos (by omega)) (br_t (nI_le hc (by omega)) ?_)
  refine pk_eq c nc (fun e => ?_) (fun e => ?_)
  · refine ⟨vp_in_nI (by omega) (by decide), ?_⟩
    rw [nI_clamp (show c < 2 ^ 31 by omega), hcs c hc]
    rw [e, cd_en_nc] at h
    rw [e] at b1 ⊢
    rw [cd_en_nc] at b1
    rw [pk_sub b1]
    exact h
  · have hlt : c < nc := by omega
    refine ⟨?_, vp_in_nI (by omega) (by decide), ?_⟩
    · rw [nI_1]
      exact vp_in_nI (by omega) (by decide)
    · rw [nI_1, nI_clamp (show c + 1 < 2 ^ 31 by omega), nI_clamp (show c < 2 ^ 31 by omega), hcs c hc, hcs (c + 1) hlt]
      rw [cd_en_lt hlt] at b1 h
      rw [pk_sub b1]
      exact h
theorem xl_len_no {post : Int32 → Prop} {nc : Nat} (hnc : nc ≤ 8) {x : Int32} (hx : x < 0 ∨ ¬ x ≤ nI nc) (h : post (-1)) : wpX_getClauseLength post (f_litCount, nI nc, f_stepCount, f_bufferSealed, f_lastCheckStep, f_keptCount, f_proofKept, f_openCount, f_universeSize, f_neededInstances, f_givenLiterals, a_litSign, a_litPred, a_litArg0, a_litArg1, a_clauseStart, a_predArity, a_stepKind, a_stepA, a_stepB, a_binding, a_keptKind, a_keptA, a_keptB, a_keptInstance, a_openCopy, a_openLit, a_parentCopy, a_parentLit, a_pathLength, a_atomBase, a_instanceLits, a_instanceHolds, a_literalHolds, a_restInstances, a_pathLiterals) x := by
  by_cases h0 : x < 0
  · exact br_t h0 h
  · exact br_f h0 (br_f (hx.elim (fun z => absurd z h0) (fun z => z)) h)
end
theorem cd_cases (x : Int32) (nc : Nat) (hnc : nc ≤ 8) : (x < 0 ∨ ¬ x ≤ nI nc) ∨ ∃ c, c ≤ nc ∧ x = nI c := by
  rcases pk_ix x (n := nc + 1) (by omega) with h | h | ⟨j, hj, e⟩
  · exact Or.inl (Or.inl h)
  · by_cases h0 : x < 0
    · exact Or.inl (Or.inl h0)
    · obtain ⟨j, hj, e⟩ := nI_of h0
      refine Or.inl (Or.inr ?_)
      rw [e, nI_leI (by omega) hj] at h
      rw [e, nI_leI hj (by omega)]
      omega
  · exact Or.inr ⟨j, by omega, e⟩
theorem i_vc_getClauseLength {k : Nat} {u : SX} {v : SY} (I : i_Rel k u v) (hk : k + 5 ≤ 2560) (v1 : Int32) : wpX_getClauseLength (fun r => wpY_getClauseLength (fun r' => r' = r ∧ i_Rel (k + 5) u v) v v1) u v1 := by
  obtain ⟨nc, nl, st, sl, kp, ls, ns, bn, kc, kn, sg, pr, a0, a1, ar, cs, ow, xK, xA, xB, bd, yK, yA, yB, yb, kK, kA, kB, kI, zK, zA, zB, zb, lh, ph, x0, x1, x2, x3, y0, y1, y2, y3, X0, X1, X2, X3, X4, X5, X6, X7, X8, Y0, Y1, Y2, Y3, Y4, Y5, Y6, Y7, Y8, rfl, rfl, h⟩ := I
  obtain ⟨hw, hcs, how⟩ := h.1
  have hnc := hw.1
  rcases cd_cases v1 nc hnc with hx | ⟨c, hc, rfl⟩
  · refine xl_len_no hnc hx ?_
    by_cases h0 : v1 < 0
    · exact br_t h0 ⟨rfl, i_mk h⟩
    · exact br_f h0 (br_f (hx.elim (fun z => absurd z h0) (fun z => z)) ⟨rfl, i_mk h⟩)
  · refine xl_len hw hcs hc ?_
    refine br_f (nI_pos (by omega)) (br_t (nI_le hc (by omega)) ?_)
    exact yl_lenOf (post := fun r_3 => r_3 = nI (cd_en nc nl st c - st c) ∧ i_Rel (k + 5) (nI nl, nI nc, nI ns, sl, ls, nI kc, kp, x0, x1, x2, x3, sg, pr, a0, a1, cs, ar, xK, xA, xB, bd, kK, kA, kB, kI, X0, X1, X2, X3, ph, X4, X5, X6, lh, X7, X8) (nI nc, nI nl, kp, nI kn, nI bn, sl, ls, y0, y1, y2, y3, sg, pr, a0, a1, ow, ar, zK, zA, zB, zb, yK, yA, yB, yb, Y0, Y1, Y2, Y3, Y4, Y5, Y6, Y7, Y8)) hw how hc ⟨rfl, i_mk h⟩
theorem i_vc_getLiteral {k : Nat} {u : SX} {v : SY} (I : i_Rel k u v) (hk : k + 5 ≤ 2560) (v1 : Int32) (v2 : Int32) : wpX_getLiteral (fun r => wpY_getLiteral (fun r' => r' = r ∧ i_Rel (k + 5) u v) v v1 v2) u v1 v2 := by
  obtain ⟨nc, nl, st, sl, kp, ls, ns, bn, kc, kn, sg, pr, a0, a1, ar, cs, ow, xK, xA, xB, bd, yK, yA, yB, yb, kK, kA, kB, kI, zK, zA, zB, zb, lh, ph, x0, x1, x2, x3, y0, y1, y2, y3, X0, X1, X2, X3, X4, X5, X6, X7, X8, Y0, Y1, Y2, Y3, Y4, Y5, Y6, Y7, Y8, rfl, rfl, h⟩ := I
  obtain ⟨hw, hcs, how⟩ := id h.1
  have hnc := hw.1
  have hnl := hw.2.1
  have R : i_Rel (k + 5) (nI nl, nI nc, nI ns, sl, ls, nI kc, kp, x0, x1, x2, x3, sg, pr, a0, a1, cs, ar, xK, xA, xB, bd, kK, kA, kB, kI, X0, X1, X2, X3, ph, X4, X5, X6, lh, X7, X8) (nI nc, nI nl, kp, nI kn, nI bn, sl, ls, y0, y1, y2, y3, sg, pr, a0, a1, ow, ar, zK, zA, zB, zb, yK, yA, yB, yb, Y0, Y1, Y2, Y3, Y4, Y5, Y6, Y7, Y8) := i_mk h
  -- what the reference answers where there is no such literal
  have noY : ∀ r : Int32, r = -1 → (∀ c, c ≤ nc → v1 = nI c → ∀ n, n < cd_en nc nl st c - st c → ¬ nI n = v2) → wpY_getLiteral (fun r' => r' = r ∧ i_Rel (k + 5) (nI nl, nI nc, nI ns, sl, ls, nI kc, kp, x0, x1, x2, x3, sg, pr, a0, a1, cs, ar, xK, xA, xB, bd, kK, kA, kB, kI, X0, X1, X2, X3, ph, X4, X5, X6, lh, X7, X8) (nI nc, nI nl, kp, nI kn, nI bn, sl, ls, y0, y1, y2, y3, sg, pr, a0, a1, ow, ar, zK, zA, zB, zb, yK, yA, yB, yb, Y0, Y1, Y2, Y3, Y4, Y5, Y6, Y7, Y8)) (nI nc, nI nl, kp, nI kn, nI bn, sl, ls, y0, y1, y2, y3, sg, pr, a0, a1, ow, ar, zK, zA, zB, zb, yK, yA, yB, yb, Y0, Y1, Y2, Y3, Y4, Y5, Y6, Y7, Y8) v1 v2 := by
    intro r er hno
    subst er
    rcases cd_cases v1 nc hnc with hx | ⟨c, hc, rfl⟩
    · by_cases h0 : v1 < 0
      · exact br_t h0 ⟨rfl, R⟩
      · exact br_f h0 (br_f (hx.elim (fun z => absurd z h0) (fun z => z)) ⟨rfl, R⟩)
    · refine br_f (nI_pos (by omega)) (br_t (nI_le hc (by omega)) ?_)
      refine yl_nth_no hw how hc (hno c hc rfl) ?_
      exact br_f (by decide) ⟨rfl, R⟩
  by_cases hv2 : v2 < 0
  · refine br_t hv2 (noY _ rfl (fun c hc e n hn e2 => ?_))
    rw [← e2] at hv2
    obtain ⟨_, b2, _⟩ := cd_en_bd hw hc
    exact nI_pos (by omega) hv2
  · refine br_f hv2 ?_
    obtain ⟨i, hi, rfl⟩ := nI_of hv2
    rcases cd_cases v1 nc hnc with hx | ⟨c, hc, rfl⟩
    · refine xl_len_no hnc hx ?_
      refine br_f ?_ (noY _ rfl (fun c hc e => ?_))
      · intro z
        rw [Int32.lt_iff_toInt_lt, nI_toInt hi] at z
        have : (-1 : Int32).toInt = -1 := by decide
        omega
      · exfalso
        rw [e] at hx
        rcases hx with hx | hx
        · exact nI_pos (by omega) hx
        · exact hx (nI_le hc (by omega))
    · obtain ⟨b1, b2, b3⟩ := cd_en_bd hw hc
      refine xl_len hw hcs hc ?_
      refine pk_lt i (cd_en nc nl st c - st c) (fun hlt => ?_) (fun hge => ?_)
      · refine ⟨vp_in_nI (by omega) (by decide), ?_⟩
        rw [nI_clamp (show c < 2 ^ 31 by omega), hcs c hc]
        refine nm_r (nI_add _ _) ?_
        have hin : vp_in (nI (st c + i)) 16 := vp_in_nI (by omega) (by decide)
        rw [nI_clamp (show st c + i < 2 ^ 31 by omega)]
        refine ⟨hin, hin, hin, hin, ?_⟩
        refine br_f (nI_pos (by omega)) (br_t (nI_le hc (by omega)) ?_)
        refine yl_nth hw how hc hlt ?_
        refine br_t (nI_pos' (by omega)) ⟨hin, hin, hin, hin, ?_, R⟩
        rw [nI_clamp (show st c + i < 2 ^ 31 by omega)]
        exact (Int32.add_assoc _ _ _).symm
      · refine noY _ rfl (fun c' hc' e n hn e2 => ?_)
        rw [nI_eq (by omega) (by omega)] at e
        subst e
        rw [nI_eq (by omega) hi] at e2
        omega
