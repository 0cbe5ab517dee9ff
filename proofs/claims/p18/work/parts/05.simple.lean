/-! fills -/
def xe_fill (i : Nat) (a : Nat → Int32) : Nat → Int32 := fun j => if j < i then nI j else a j
def xe_m1 (i : Nat) (a : Nat → Int32) : Nat → Int32 := fun j => if j < i then -1 else a j
theorem xe_fill_0 (a : Nat → Int32) : a = xe_fill 0 a := by
  funext j; unfold xe_fill; rw [if_neg (Nat.not_lt_zero j)]
theorem xe_m1_0 (a : Nat → Int32) : a = xe_m1 0 a := by
  funext j; unfold xe_m1; rw [if_neg (Nat.not_lt_zero j)]
theorem xe_fill_s {i : Nat} {a : Nat → Int32} (h : i < 2 ^ 31) : upd (xe_fill i a) (nI i).toNatClampNeg (nI i) = xe_fill (i + 1) a := by
  rw [nI_clamp h]
  funext j
  unfold xe_fill upd
  dsimp only
  by_cases e : j = i
  · rw [if_pos e, if_pos (by omega), e]
  · rw [if_neg e]
    by_cases l : j < i
    · rw [if_pos l, if_pos (by omega)]
    · rw [if_neg l, if_neg (by omega)]
theorem xe_m1_s {i : Nat} {a : Nat → Int32} (h : i < 2 ^ 31) : upd (xe_m1 i a) (nI i).toNatClampNeg (-1) = xe_m1 (i + 1) a := by
  rw [nI_clamp h]
  funext j
  unfold xe_m1 upd
  dsimp only
  by_cases e : j = i
  · rw [if_pos e, if_pos (by omega)]
  · rw [if_neg e]
    by_cases l : j < i
    · rw [if_pos l, if_pos (by omega)]
    · rw [if_neg l, if_neg (by omega)]
section
variable {f_litCount f_clauseCount f_stepCount f_bufferSealed f_lastCheckStep f_keptCount f_proofKept f_openCount f_universeSize f_neededInstances f_givenLiterals : Int32} {a_litSign a_litPred a_litArg0 a_litArg1 a_clauseStart a_predArity a_stepKind a_stepA a_stepB a_binding a_keptKind a_keptA a_keptB a_keptInstance a_openCopy a_openLit a_parentCopy a_parentLit a_pathLength a_atomBase a_instanceLits a_instanceHolds a_literalHolds a_restInstances a_pathLiterals : Nat → Int32}
theorem xe_empty {post : St1 → Prop} (h : post (f_litCount, f_clauseCount, 0, 0, f_lastCheckStep, f_keptCount, f_proofKept, f_openCount, f_universeSize, f_neededInstances, f_givenLiterals, a_litSign, a_litPred, a_litArg0, a_litArg1, a_clauseStart, a_predArity, a_stepKind, a_stepA, a_stepB, xe_fill 514 a_binding, a_keptKind, a_keptA, a_keptB, a_keptInstance, a_openCopy, a_openLit, a_parentCopy, a_parentLit, a_pathLength, a_atomBase, a_instanceLits, a_instanceHolds, a_literalHolds, a_restInstances, a_pathLiterals)) : wpX_emptyBuffer post (f_litCount, f_clauseCount, f_stepCount, f_bufferSealed, f_lastCheckStep, f_keptCount, f_proofKept, f_openCount, f_universeSize, f_neededInstances, f_givenLiterals, a_litSign, a_litPred, a_litArg0, a_litArg1, a_clauseStart, a_predArity, a_stepKind, a_stepA, a_stepB, a_binding, a_keptKind, a_keptA, a_keptB, a_keptInstance, a_openCopy, a_openLit, a_parentCopy, a_parentLit, a_pathLength, a_atomBase, a_instanceLits, a_instanceHolds, a_literalHolds, a_restInstances, a_pathLiterals) := by
  refine loop_0 (fun n i s => wX_emptyBuffer_12 post f_litCount f_clauseCount 0 0 f_lastCheckStep f_keptCount f_proofKept f_openCount f_universeSize f_neededInstances f_givenLiterals n (nI i) a_litSign a_litPred a_litArg0 a_litArg1 a_clauseStart a_predArity a_stepKind a_stepA a_stepB s a_keptKind a_keptA a_keptB a_keptInstance a_openCopy a_openLit a_parentCopy a_parentLit a_pathLength a_atomBase a_instanceLits a_instanceHolds a_literalHolds a_restInstances a_pathLiterals) (fun i s => s = xe_fill i a_binding) 514 a_binding (xe_fill_0 _) ?_ ?_
  · intro n s e
    subst e
    exact br_t (nI_le (a := 514) (b := 514) (Nat.le_refl _) (by decide)) h
  · intro n i s hi e ih
    subst e
    exact br_f (nI_ge (b := 514) hi (by decide)) ⟨vp_in_nI hi (by decide), nm_r (xe_fill_s (by omega)) (nm_r (nI_1 i) (ih _ rfl))⟩
theorem xe_remove {post : St1 → Prop} (h : post (0, 0, f_stepCount, f_bufferSealed, f_lastCheckStep, f_keptCount, f_proofKept, f_openCount, f_universeSize, f_neededInstances, f_givenLiterals, a_litSign, a_litPred, a_litArg0, a_litArg1, a_clauseStart, xe_m1 4 a_predArity, a_stepKind, a_stepA, a_stepB, a_binding, a_keptKind, a_keptA, a_keptB, a_keptInstance, a_openCopy, a_openLit, a_parentCopy, a_parentLit, a_pathLength, a_atomBase, a_instanceLits, a_instanceHolds, a_literalHolds, a_restInstances, a_pathLiterals)) : wpX_removeClauses post (f_litCount, f_clauseCount, f_stepCount, f_bufferSealed, f_lastCheckStep, f_keptCount, f_proofKept, f_openCount, f_universeSize, f_neededInstances, f_givenLiterals, a_litSign, a_litPred, a_litArg0, a_litArg1, a_clauseStart, a_predArity, a_stepKind, a_stepA, a_stepB, a_binding, a_keptKind, a_keptA, a_keptB, a_keptInstance, a_openCopy, a_openLit, a_parentCopy, a_parentLit, a_pathLength, a_atomBase, a_instanceLits, a_instanceHolds, a_literalHolds, a_restInstances, a_pathLiterals) := by
  refine loop_0 (fun n i s => wX_removeClauses_12 post 0 0 f_stepCount f_bufferSealed f_lastCheckStep f_keptCount f_proofKept f_openCount f_universeSize f_neededInstances f_givenLiterals n (nI i) a_litSign a_litPred a_litArg0 a_litArg1 a_clauseStart s a_stepKind a_stepA a_stepB a_binding a_keptKind a_keptA a_keptB a_keptInstance a_openCopy a_openLit a_parentCopy a_parentLit a_pathLength a_atomBase a_instanceLits a_instanceHolds a_literalHolds a_restInstances a_pathLiterals) (fun i s => s = xe_m1 i a_predArity) 4 a_predArity (xe_m1_0 _) ?_ ?_
  · intro n s e
    subst e
    exact br_t (nI_le (a := 4) (b := 4) (Nat.le_refl _) (by decide)) h
  · intro n i s hi e ih
    subst e
    exact br_f (nI_ge (b := 4) hi (by decide)) ⟨vp_in_nI hi (by decide), nm_r (xe_m1_s (by omega)) (nm_r (nI_1 i) (ih _ rfl))⟩
theorem xe_forget {post : St1 → Prop} (h0 : f_bufferSealed = 0 → post (f_litCount, f_clauseCount, f_stepCount, f_bufferSealed, f_lastCheckStep, f_keptCount, 0, f_openCount, f_universeSize, f_neededInstances, f_givenLiterals, a_litSign, a_litPred, a_litArg0, a_litArg1, a_clauseStart, a_predArity, a_stepKind, a_stepA, a_stepB, a_binding, a_keptKind, a_keptA, a_keptB, a_keptInstance, a_openCopy, a_openLit, a_parentCopy, a_parentLit, a_pathLength, a_atomBase, a_instanceLits, a_instanceHolds, a_literalHolds, a_restInstances, a_pathLiterals))
    (h1 : ¬ f_bufferSealed = 0 → post (f_litCount, f_clauseCount, 0, 0, f_lastCheckStep, f_keptCount, 0, f_openCount, f_universeSize, f_neededInstances, f_givenLiterals, a_litSign, a_litPred, a_litArg0, a_litArg1, a_clauseStart, a_predArity, a_stepKind, a_stepA, a_stepB, xe_fill 514 a_binding, a_keptKind, a_keptA, a_keptB, a_keptInstance, a_openCopy, a_openLit, a_parentCopy, a_parentLit, a_pathLength, a_atomBase, a_instanceLits, a_instanceHolds, a_literalHolds, a_restInstances, a_pathLiterals)) : wpX_forgetProofs post (f_litCount, f_clauseCount, f_stepCount, f_bufferSealed, f_lastCheckStep, f_keptCount, f_proofKept, f_openCount, f_universeSize, f_neededInstances, f_givenLiterals, a_litSign, a_litPred, a_litArg0, a_litArg1, a_clauseStart, a_predArity, a_stepKind, a_stepA, a_stepB, a_binding, a_keptKind, a_keptA, a_keptB, a_keptInstance, a_openCopy, a_openLit, a_parentCopy, a_parentLit, a_pathLength, a_atomBase, a_instanceLits, a_instanceHolds, a_literalHolds, a_restInstances, a_pathLiterals) := by
  refine br_c h0 (fun h => ?_)
  exact xe_empty (post := fun u => post u) (h1 h)
end
/-! the emptied buffer -/
theorem cr_bx_id (a : Nat → Int32) : cr_bx (fun t => t) (xe_fill 514 a) :=
  ⟨rfl, rfl, fun t ht => ⟨ht, if_pos ht⟩⟩
theorem cr_by_id (a : Nat → Int32) : cr_by (fun t => t) (xe_m1 512 a) := by
  refine ⟨rfl, rfl, fun t ht => ⟨ht, fun h2 => ?_⟩⟩
  show xe_m1 512 a (t - 2) = if t = t then -1 else nI t
  rw [if_pos rfl]
  exact if_pos (by omega)
theorem cr_buf_0 {nc : Nat} {st : Nat → Nat} {sg pr a0 a1 xK xA xB bd yK yA yB yb : Nat → Int32} :
    cr_buf nc st sg pr a0 a1 0 0 0 xK xA xB (xe_fill 514 bd) yK yA yB (xe_m1 512 yb) :=
  ⟨by omega, by omega, Or.inl ⟨rfl, rfl, fun i hi => absurd hi (Nat.not_lt_zero i), _, cr_bx_id bd, cr_by_id yb⟩⟩
/-- an unsealed buffer doesn't depend on the clauses -/
theorem cr_buf_u {nc nc' : Nat} {st st' : Nat → Nat} {sg pr a0 a1 sg' pr' a0' a1' xK xA xB bd yK yA yB yb : Nat → Int32} {ns bn : Nat}
    (h : cr_buf nc st sg pr a0 a1 0 ns bn xK xA xB bd yK yA yB yb) : cr_buf nc' st' sg' pr' a0' a1' 0 ns bn xK xA xB bd yK yA yB yb := by
  obtain ⟨h1, h2, h3 | h3⟩ := h
  · exact ⟨h1, h2, Or.inl h3⟩
  · exact absurd h3.1 (by decide)
theorem cr_sl {nc : Nat} {st : Nat → Nat} {sg pr a0 a1 : Nat → Int32} {sl : Int32} {ns bn : Nat} {xK xA xB bd yK yA yB yb : Nat → Int32}
    (h : cr_buf nc st sg pr a0 a1 sl ns bn xK xA xB bd yK yA yB yb) : sl = 0 ∨ sl = 1 := by
  obtain ⟨_, _, h | h⟩ := h
  · exact Or.inl h.1
  · exact Or.inr h.1
theorem cr_kp {nc : Nat} {st : Nat → Nat} {sg pr a0 a1 : Nat → Int32} {kp : Int32} {kc kn : Nat} {kK kA kB kI yK yA yB yb : Nat → Int32}
    (h : cr_kept nc st sg pr a0 a1 kp kc kK kA kB kI kn yK yA yB yb) : kp = 0 ∨ kp = 1 := by
  rcases h with h | h
  · exact Or.inl h
  · exact Or.inr h.1
theorem cr_bool {x : Int32} (h : x = 0 ∨ x = 1) : narrow .boolean (.int x) = .int x := by
  rcases h with e | e <;> rw [e] <;> rfl
/-! calls that read a field -/