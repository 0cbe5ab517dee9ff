/-! fills -/
def xe_fill (i : Nat) (a : Nat → Int32) : Nat → Int32 := fun j => if j < i then nI j else a j
def xe_m1 (i : Nat) (a : Nat → Int32) : Nat → Int32 := fun j => if j < i then -1 else a j
theorem xe_fill_0 (a : Nat → Int32) : a = xe_fill 0 a := by
  funext j; unfold xe_fill; rw [if_neg (Nat.not_lt_zero j)]
theorem xe_m1_0 (a : Nat → Int32) : a = xe_m1 0 a := by
  funext j; unfold xe_m1; rw [if_neg (Nat.not_lt_zero j)]
theorem xe_fill_s {i : Nat} {a : Nat → Int32} (h : i < 2 ^ 31) : upd (xe_fill i a) (nI i).toNatClampNeg (nI i) = xe_fill (i + 1) a := by
  rw [nI_clamp h]
  funext j
  unfold xe_fill upd
  dsimp only
  by_cases e : j = i
  · rw [if_pos e, if_pos (by omega), e]
  · rw [if_neg e]
    by_cases l : j < i
    · rw [if_pos l, if_pos (by omega)]
    · rw [if_neg l, if_neg (by omega)]
theorem xe_m1_s {i : Nat} {a : Nat → Int32} (h : i < 2 ^ 31) : upd (xe_m1 i a) (nI i).toNatClampNeg (-1) = xe_m1 (i + 1) a := by
  rw [nI_clamp h]
  funext j
  unfold xe_m1 upd
  dsimp only
  by_cases e : j = i
  · rw [if_pos e, if_pos (by omega)]
  · rw [if_neg e]
    by_cases l : j < i
    · rw [if_pos l, if_pos (by omega)]
    · rw [if_neg l, if_neg (by omega)]
section
variable {f_litCount f_clauseCount f_stepCount f_bufferSealed f_lastCheckStep f_keptCount f_proofKept f_openCount f_universeSize f_neededInstances f_givenLiterals : Int32} {a_litSign a_litPred a_litArg0 a_litArg1 a_clauseStart a_predArity a_stepKind a_stepA a_stepB a_binding a_keptKind a_keptA a_keptB a_keptInstance a_openCopy a_openLit a_parentCopy a_parentLit a_pathLength a_atomBase a_instanceLits a_instanceHolds a_literalHolds a_restInstances a_pathLiterals : Nat → Int32}
theorem xe_empty {post : SX → Prop} (h : post (f_litCount, f_clauseCount, 0, 0, f_lastCheckStep, f_keptCount, f_proofKept, f_openCount, f_universeSize, f_neededInstances, f_givenLiterals, a_litSign, a_litPred, a_litArg0, a_litArg1, a_clauseStart, a_predArity, a_stepKind, a_stepA, a_stepB, xe_fill 514 a_binding, a_keptKind, a_keptA, a_keptB, a_keptInstance, a_openCopy, a_openLit, a_parentCopy, a_parentLit, a_pathLength, a_atomBase, a_instanceLits, a_instanceHolds, a_literalHolds, a_restInstances, a_pathLiterals)) : wpX_emptyBuffer post (f_litCount, f_clauseCount, f_stepCount, f_bufferSealed, f_lastCheckStep, f_keptCount, f_proofKept, f_openCount, f_universeSize, f_neededInstances, f_givenLiterals, a_litSign, a_litPred, a_litArg0, a_litArg1, a_clauseStart, a_predArity, a_stepKind, a_stepA, a_stepB, a_binding, a_keptKind, a_keptA, a_keptB, a_keptInstance, a_openCopy, a_openLit, a_parentCopy, a_parentLit, a_pathLength, a_atomBase, a_instanceLits, a_instanceHolds, a_literalHolds, a_restInstances, a_pathLiterals) := by
  refine loop_0 (fun n i s => wX_emptyBuffer_12 post f_litCount f_clauseCount 0 0 f_lastCheckStep f_keptCount f_proofKept f_openCount f_universeSize f_neededInstances f_givenLiterals n (nI i) a_litSign a_litPred a_litArg0 a_litArg1 a_clauseStart a_predArity a_stepKind a_stepA a_stepB s a_keptKind a_keptA a_keptB a_keptInstance a_openCopy a_openLit a_parentCopy a_parentLit a_pathLength a_atomBase a_instanceLits a_instanceHolds a_literalHolds a_restInstances a_pathLiterals) (fun i s => s = xe_fill i a_binding) 514 a_binding (xe_fill_0 _) ?_ ?_
  · intro n s e
    subst e
    exact br_t (nI_le (a := 514) (b := 514) (Nat.le_refl _) (by decide)) h
  · intro n i s hi e ih
    subst e
    exact br_f (nI_ge (b := 514) hi (by decide)) ⟨vp_in_nI hi (by decide), nm_r (xe_fill_s (by omega)) (nm_r (nI_1 i) (ih _ rfl))⟩
theorem xe_remove {post : SX → Prop} (h : post (0, 0, f_stepCount, f_bufferSealed, f_lastCheckStep, f_keptCount, f_proofKept, f_openCount, f_universeSize, f_neededInstances, f_givenLiterals, a_litSign, a_litPred, a_litArg0, a_litArg1, a_clauseStart, xe_m1 4 a_predArity, a_stepKind, a_stepA, a_stepB, a_binding, a_keptKind, a_keptA, a_keptB, a_keptInstance, a_openCopy, a_openLit, a_parentCopy, a_parentLit, a_pathLength, a_atomBase, a_instanceLits, a_instanceHolds, a_literalHolds, a_restInstances, a_pathLiterals)) : wpX_removeClauses post (f_litCount, f_clauseCount, f_stepCount, f_bufferSealed, f_lastCheckStep, f_keptCount, f_proofKept, f_openCount, f_universeSize, f_neededInstances, f_givenLiterals, a_litSign, a_litPred, a_litArg0, a_litArg1, a_clauseStart, a_predArity, a_stepKind, a_stepA, a_stepB, a_binding, a_keptKind, a_keptA, a_keptB, a_keptInstance, a_openCopy, a_openLit, a_parentCopy, a_parentLit, a_pathLength, a_atomBase, a_instanceLits, a_instanceHolds, a_literalHolds, a_restInstances, a_pathLiterals) := by
  refine loop_0 (fun n i s => wX_removeClauses_12 post 0 0 f_stepCount f_bufferSealed f_lastCheckStep f_keptCount f_proofKept f_openCount f_universeSize f_neededInstances f_givenLiterals n (nI i) a_litSign a_litPred a_litArg0 a_litArg1 a_clauseStart s a_stepKind a_stepA a_stepB a_binding a_keptKind a_keptA a_keptB a_keptInstance a_openCopy a_openLit a_parentCopy a_parentLit a_pathLength a_atomBase a_instanceLits a_instanceHolds a_literalHolds a_restInstances a_pathLiterals) (fun i s => s = xe_m1 i a_predArity) 4 a_predArity (xe_m1_0 _) ?_ ?_
  · intro n s e
    subst e
    exact br_t (nI_le (a := 4) (b := 4) (Nat.le_refl _) (by decide)) h
  · intro n i s hi e ih
    subst e
    exact br_f (nI_ge (b := 4) hi (by decide)) ⟨vp_in_nI hi (by decide), nm_r (xe_m1_s (by omega)) (nm_r (nI_1 i) (ih _ rfl))⟩
theorem xe_forget {post : SX → Prop} (h0 : f_bufferSealed = 0 → post (f_litCount, f_clauseCount, f_stepCount, f_bufferSealed, f_lastCheckStep, f_keptCount, 0, f_openCount, f_universeSize, f_neededInstances, f_givenLiterals, a_litSign, a_litPred, a_litArg0, a_litArg1, a_clauseStart, a_predArity, a_stepKind, a_stepA, a_stepB, a_binding, a_keptKind, a_keptA, a_keptB, a_keptInstance, a_openCopy, a_openLit, a_parentCopy, a_parentLit, a_pathLength, a_atomBase, a_instanceLits, a_instanceHolds, a_literalHolds, a_restInstances, a_pathLiterals))
    (h1 : ¬ f_bufferSealed = 0 → post (f_litCount, f_clauseCount, 0, 0, f_lastCheckStep, f_keptCount, 0, f_openCount, f_universeSize, f_neededInstances, f_givenLiterals, a_litSign, a_litPred, a_litArg0, a_litArg1, a_clauseStart, a_predArity, a_stepKind, a_stepA, a_stepB, xe_fill 514 a_binding, a_keptKind, a_keptA, a_keptB, a_keptInstance, a_openCopy, a_openLit, a_parentCopy, a_parentLit, a_pathLength, a_atomBase, a_instanceLits, a_instanceHolds, a_literalHolds, a_restInstances, a_pathLiterals)) : wpX_forgetProofs post (f_litCount, f_clauseCount, f_stepCount, f_bufferSealed, f_lastCheckStep, f_keptCount, f_proofKept, f_openCount, f_universeSize, f_neededInstances, f_givenLiterals, a_litSign, a_litPred, a_litArg0, a_litArg1, a_clauseStart, a_predArity, a_stepKind, a_stepA, a_stepB, a_binding, a_keptKind, a_keptA, a_keptB, a_keptInstance, a_openCopy, a_openLit, a_parentCopy, a_parentLit, a_pathLength, a_atomBase, a_instanceLits, a_instanceHolds, a_literalHolds, a_restInstances, a_pathLiterals) := by
  refine br_c h0 (fun h => ?_)
  exact xe_empty (post := fun u => post u) (h1 h)
end
section
variable {f_clauseCount f_litCount f_kept f_kN f_bN f_sealed f_lastStep f_cNodes f_cSp f_pNodes f_pSp : Int32} {a_lSign a_lPred a_lA0 a_lA1 a_lOwner a_arity a_kKind a_kA a_kB a_kBind a_bKind a_bA a_bB a_bBind a_cCopy a_cLit a_cPar a_cStk a_cl a_gtab a_pLit a_pPar a_pStk : Nat → Int32}
theorem ye_clear {post : SY → Prop} (h : post (f_clauseCount, f_litCount, f_kept, f_kN, 0, 0, f_lastStep, f_cNodes, f_cSp, f_pNodes, f_pSp, a_lSign, a_lPred, a_lA0, a_lA1, a_lOwner, a_arity, a_kKind, a_kA, a_kB, a_kBind, a_bKind, a_bA, a_bB, xe_m1 512 a_bBind, a_cCopy, a_cLit, a_cPar, a_cStk, a_cl, a_gtab, a_pLit, a_pPar, a_pStk)) : wpY_clearProof post (f_clauseCount, f_litCount, f_kept, f_kN, f_bN, f_sealed, f_lastStep, f_cNodes, f_cSp, f_pNodes, f_pSp, a_lSign, a_lPred, a_lA0, a_lA1, a_lOwner, a_arity, a_kKind, a_kA, a_kB, a_kBind, a_bKind, a_bA, a_bB, a_bBind, a_cCopy, a_cLit, a_cPar, a_cStk, a_cl, a_gtab, a_pLit, a_pPar, a_pStk) := by
  refine loop_0 (fun n i s => wY_clearProof_7 post f_clauseCount f_litCount f_kept f_kN 0 f_sealed f_lastStep f_cNodes f_cSp f_pNodes f_pSp n (nI i) a_lSign a_lPred a_lA0 a_lA1 a_lOwner a_arity a_kKind a_kA a_kB a_kBind a_bKind a_bA a_bB s a_cCopy a_cLit a_cPar a_cStk a_cl a_gtab a_pLit a_pPar a_pStk) (fun i s => s = xe_m1 i a_bBind) 512 a_bBind (xe_m1_0 _) ?_ ?_
  · intro n s e
    subst e
    exact br_t (nI_le (a := 512) (b := 512) (Nat.le_refl _) (by decide)) h
  · intro n i s hi e ih
    subst e
    exact br_f (nI_ge (b := 512) hi (by decide)) ⟨vp_in_nI hi (by decide), nm_r (xe_m1_s (by omega)) (nm_r (nI_1 i) (ih _ rfl))⟩
theorem ye_clearCl {post : SY → Prop} (h0 : f_sealed = 0 → post (0, 0, 0, f_kN, f_bN, f_sealed, f_lastStep, f_cNodes, f_cSp, f_pNodes, f_pSp, a_lSign, a_lPred, a_lA0, a_lA1, a_lOwner, xe_m1 4 a_arity, a_kKind, a_kA, a_kB, a_kBind, a_bKind, a_bA, a_bB, a_bBind, a_cCopy, a_cLit, a_cPar, a_cStk, a_cl, a_gtab, a_pLit, a_pPar, a_pStk))
    (h1 : ¬ f_sealed = 0 → post (0, 0, 0, f_kN, 0, 0, f_lastStep, f_cNodes, f_cSp, f_pNodes, f_pSp, a_lSign, a_lPred, a_lA0, a_lA1, a_lOwner, xe_m1 4 a_arity, a_kKind, a_kA, a_kB, a_kBind, a_bKind, a_bA, a_bB, xe_m1 512 a_bBind, a_cCopy, a_cLit, a_cPar, a_cStk, a_cl, a_gtab, a_pLit, a_pPar, a_pStk)) : wpY_clearClauses post (f_clauseCount, f_litCount, f_kept, f_kN, f_bN, f_sealed, f_lastStep, f_cNodes, f_cSp, f_pNodes, f_pSp, a_lSign, a_lPred, a_lA0, a_lA1, a_lOwner, a_arity, a_kKind, a_kA, a_kB, a_kBind, a_bKind, a_bA, a_bB, a_bBind, a_cCopy, a_cLit, a_cPar, a_cStk, a_cl, a_gtab, a_pLit, a_pPar, a_pStk) := by
  refine loop_0 (fun n i s => wY_clearClauses_12 post 0 0 f_kept f_kN f_bN f_sealed f_lastStep f_cNodes f_cSp f_pNodes f_pSp n (nI i) a_lSign a_lPred a_lA0 a_lA1 a_lOwner s a_kKind a_kA a_kB a_kBind a_bKind a_bA a_bB a_bBind a_cCopy a_cLit a_cPar a_cStk a_cl a_gtab a_pLit a_pPar a_pStk) (fun i s => s = xe_m1 i a_arity) 4 a_arity (xe_m1_0 _) ?_ ?_
  · intro n s e
    subst e
    refine br_t (nI_le (a := 4) (b := 4) (Nat.le_refl _) (by decide)) (br_c h0 (fun h => ?_))
    exact ye_clear (post := fun u => post u) (h1 h)
  · intro n i s hi e ih
    subst e
    exact br_f (nI_ge (b := 4) hi (by decide)) ⟨vp_in_nI hi (by decide), nm_r (xe_m1_s (by omega)) (nm_r (nI_1 i) (ih _ rfl))⟩
end
/-! the emptied buffer -/
theorem cr_bx_id (a : Nat → Int32) : cr_bx (fun t => t) (xe_fill 514 a) :=
  ⟨rfl, rfl, fun t ht => ⟨ht, if_pos ht⟩⟩
theorem cr_by_id (a : Nat → Int32) : cr_by (fun t => t) (xe_m1 512 a) := by
  refine ⟨rfl, rfl, fun t ht => ⟨ht, fun h2 => ?_⟩⟩
  show xe_m1 512 a (t - 2) = if t = t then -1 else nI t
  rw [if_pos rfl]
  exact if_pos (by omega)
theorem cr_buf_0 {nc : Nat} {st : Nat → Nat} {sg pr a0 a1 xK xA xB bd yK yA yB yb : Nat → Int32} :
    cr_buf nc st sg pr a0 a1 0 0 0 xK xA xB (xe_fill 514 bd) yK yA yB (xe_m1 512 yb) :=
  ⟨by omega, by omega, Or.inl ⟨rfl, rfl, fun i hi => absurd hi (Nat.not_lt_zero i), _, cr_bx_id bd, cr_by_id yb⟩⟩
/-- an unsealed buffer doesn't depend on the clauses -/
theorem cr_buf_u {nc nc' : Nat} {st st' : Nat → Nat} {sg pr a0 a1 sg' pr' a0' a1' xK xA xB bd yK yA yB yb : Nat → Int32} {ns bn : Nat}
    (h : cr_buf nc st sg pr a0 a1 0 ns bn xK xA xB bd yK yA yB yb) : cr_buf nc' st' sg' pr' a0' a1' 0 ns bn xK xA xB bd yK yA yB yb := by
  obtain ⟨h1, h2, h3 | h3⟩ := h
  · exact ⟨h1, h2, Or.inl h3⟩
  · exact absurd h3.1 (by decide)
theorem cr_sl {nc : Nat} {st : Nat → Nat} {sg pr a0 a1 : Nat → Int32} {sl : Int32} {ns bn : Nat} {xK xA xB bd yK yA yB yb : Nat → Int32}
    (h : cr_buf nc st sg pr a0 a1 sl ns bn xK xA xB bd yK yA yB yb) : sl = 0 ∨ sl = 1 := by
  obtain ⟨_, _, h | h⟩ := h
  · exact Or.inl h.1
  · exact Or.inr h.1
theorem cr_kp {nc : Nat} {st : Nat → Nat} {sg pr a0 a1 : Nat → Int32} {kp : Int32} {kc kn : Nat} {kK kA kB kI yK yA yB yb : Nat → Int32}
    (h : cr_kept nc st sg pr a0 a1 kp kc kK kA kB kI kn yK yA yB yb) : kp = 0 ∨ kp = 1 := by
  rcases h with h | h
  · exact Or.inl h
  · exact Or.inr h.1
theorem cr_bool {x : Int32} (h : x = 0 ∨ x = 1) : narrow .boolean (.int x) = .int x := by
  rcases h with e | e <;> rw [e] <;> rfl
/-! calls that read a field -/
theorem i_vc_getClauseCount {k : Nat} {u : SX} {v : SY} (I : i_Rel k u v) (hk : k + 5 ≤ 2560) : wpX_getClauseCount (fun r => wpY_getClauseCount (fun r' => r' = r ∧ i_Rel (k + 5) u v) v) u := by
  obtain ⟨nc, nl, st, sl, kp, ls, ns, bn, kc, kn, sg, pr, a0, a1, ar, cs, ow, xK, xA, xB, bd, yK, yA, yB, yb, kK, kA, kB, kI, zK, zA, zB, zb, lh, ph, x0, x1, x2, x3, y0, y1, y2, y3, X0, X1, X2, X3, X4, X5, X6, X7, X8, Y0, Y1, Y2, Y3, Y4, Y5, Y6, Y7, Y8, rfl, rfl, h⟩ := I
  exact ⟨rfl, i_mk h⟩
theorem i_vc_hasProof {k : Nat} {u : SX} {v : SY} (I : i_Rel k u v) (hk : k + 5 ≤ 2560) : wpX_hasProof (fun r => wpY_hasProof (fun r' => r' = r ∧ i_Rel (k + 5) u v) v) u := by
  obtain ⟨nc, nl, st, sl, kp, ls, ns, bn, kc, kn, sg, pr, a0, a1, ar, cs, ow, xK, xA, xB, bd, yK, yA, yB, yb, kK, kA, kB, kI, zK, zA, zB, zb, lh, ph, x0, x1, x2, x3, y0, y1, y2, y3, X0, X1, X2, X3, X4, X5, X6, X7, X8, Y0, Y1, Y2, Y3, Y4, Y5, Y6, Y7, Y8, rfl, rfl, h⟩ := I
  have hb := cr_bool (cr_kp h.2.2.2)
  exact ⟨hb, hb, rfl, i_mk h⟩
theorem i_vc_isSealed {k : Nat} {u : SX} {v : SY} (I : i_Rel k u v) (hk : k + 5 ≤ 2560) : wpX_isSealed (fun r => wpY_isSealed (fun r' => r' = r ∧ i_Rel (k + 5) u v) v) u := by
  obtain ⟨nc, nl, st, sl, kp, ls, ns, bn, kc, kn, sg, pr, a0, a1, ar, cs, ow, xK, xA, xB, bd, yK, yA, yB, yb, kK, kA, kB, kI, zK, zA, zB, zb, lh, ph, x0, x1, x2, x3, y0, y1, y2, y3, X0, X1, X2, X3, X4, X5, X6, X7, X8, Y0, Y1, Y2, Y3, Y4, Y5, Y6, Y7, Y8, rfl, rfl, h⟩ := I
  have hb := cr_bool (cr_sl h.2.2.1)
  exact ⟨hb, hb, rfl, i_mk h⟩
theorem i_vc_getCheckStep {k : Nat} {u : SX} {v : SY} (I : i_Rel k u v) (hk : k + 5 ≤ 2560) : wpX_getCheckStep (fun r => wpY_getCheckStep (fun r' => r' = r ∧ i_Rel (k + 5) u v) v) u := by
  obtain ⟨nc, nl, st, sl, kp, ls, ns, bn, kc, kn, sg, pr, a0, a1, ar, cs, ow, xK, xA, xB, bd, yK, yA, yB, yb, kK, kA, kB, kI, zK, zA, zB, zb, lh, ph, x0, x1, x2, x3, y0, y1, y2, y3, X0, X1, X2, X3, X4, X5, X6, X7, X8, Y0, Y1, Y2, Y3, Y4, Y5, Y6, Y7, Y8, rfl, rfl, h⟩ := I
  exact ⟨rfl, i_mk h⟩
theorem i_vc_clearProof {k : Nat} {u : SX} {v : SY} (I : i_Rel k u v) (hk : k + 5 ≤ 2560) : wpX_clearProof (fun u' => wpY_clearProof (fun v' => i_Rel (k + 5) u' v') v) u := by
  obtain ⟨nc, nl, st, sl, kp, ls, ns, bn, kc, kn, sg, pr, a0, a1, ar, cs, ow, xK, xA, xB, bd, yK, yA, yB, yb, kK, kA, kB, kI, zK, zA, zB, zb, lh, ph, x0, x1, x2, x3, y0, y1, y2, y3, X0, X1, X2, X3, X4, X5, X6, X7, X8, Y0, Y1, Y2, Y3, Y4, Y5, Y6, Y7, Y8, rfl, rfl, h⟩ := I
  obtain ⟨h1, h2, h3, h4⟩ := h
  unfold wpX_clearProof
  dsimp only
  refine xe_empty (post := fun u' => wpY_clearProof (fun v' => i_Rel (k + 5) u' v') (nI nc, nI nl, kp, nI kn, nI bn, sl, ls, y0, y1, y2, y3, sg, pr, a0, a1, ow, ar, zK, zA, zB, zb, yK, yA, yB, yb, Y0, Y1, Y2, Y3, Y4, Y5, Y6, Y7, Y8)) ?_
  refine ye_clear ?_
  exact i_mk (ns := 0) (bn := 0) ⟨h1, h2, cr_buf_0, h4⟩
theorem i_vc_clearClauses {k : Nat} {u : SX} {v : SY} (I : i_Rel k u v) (hk : k + 5 ≤ 2560) : wpX_clearClauses (fun u' => wpY_clearClauses (fun v' => i_Rel (k + 5) u' v') v) u := by
  obtain ⟨nc, nl, st, sl, kp, ls, ns, bn, kc, kn, sg, pr, a0, a1, ar, cs, ow, xK, xA, xB, bd, yK, yA, yB, yb, kK, kA, kB, kI, zK, zA, zB, zb, lh, ph, x0, x1, x2, x3, y0, y1, y2, y3, X0, X1, X2, X3, X4, X5, X6, X7, X8, Y0, Y1, Y2, Y3, Y4, Y5, Y6, Y7, Y8, rfl, rfl, h⟩ := I
  obtain ⟨⟨hw, hcs, how⟩, h2, h3, h4⟩ := h
  have hsl := cr_sl h3
  have hwf : cr_cls 0 0 (fun _ => 0) (fun c => cs 0) ow sg pr a0 a1 (xe_m1 4 ar) := by
    have e0 : cs 0 = nI 0 := by rw [hcs 0 (Nat.zero_le _), hw.2.2.1]
    refine ⟨⟨Nat.zero_le _, Nat.zero_le _, rfl, fun c hc => absurd hc (Nat.not_lt_zero c), Nat.zero_le _, Nat.zero_le _, fun j hj => absurd hj (Nat.not_lt_zero j), fun p hp => Or.inl (if_pos hp)⟩, fun c hc => e0, fun j hj => absurd hj (Nat.not_lt_zero j)⟩
  have hwf' : cr_cls 0 0 (fun _ => 0) cs ow sg pr a0 a1 (xe_m1 4 ar) := by
    refine ⟨hwf.1, fun c hc => ?_, hwf.2.2⟩
    have : c = 0 := by omega
    rw [this]
    exact hwf.2.1 0 (Nat.le_refl 0)
  unfold wpX_clearClauses
  dsimp only
  refine xe_remove (post := fun u => wpX_forgetProofs (fun u' => wpY_clearClauses (fun v' => i_Rel (k + 5) u' v') (nI nc, nI nl, kp, nI kn, nI bn, sl, ls, y0, y1, y2, y3, sg, pr, a0, a1, ow, ar, zK, zA, zB, zb, yK, yA, yB, yb, Y0, Y1, Y2, Y3, Y4, Y5, Y6, Y7, Y8)) u) ?_
  rcases hsl with rfl | rfl
  · refine xe_forget (fun _ => ?_) (fun e => absurd rfl e)
    refine ye_clearCl (fun _ => ?_) (fun e => absurd rfl e)
    exact i_mk (nl := 0) (nc := 0) (st := fun _ => 0) ⟨hwf', h2, cr_buf_u h3, Or.inl rfl⟩
  · refine xe_forget (fun e => absurd e (by decide)) (fun _ => ?_)
    refine ye_clearCl (fun e => absurd e (by decide)) (fun _ => ?_)
    exact i_mk (nl := 0) (nc := 0) (st := fun _ => 0) (ns := 0) (bn := 0) ⟨hwf', h2, cr_buf_0, Or.inl rfl⟩
