section
variable {f_litCount f_clauseCount f_stepCount f_bufferSealed f_lastCheckStep f_keptCount f_proofKept f_openCount f_universeSize f_neededInstances f_givenLiterals : Int32} {a_litSign a_litPred a_litArg0 a_litArg1 a_clauseStart a_predArity a_stepKind a_stepA a_stepB a_binding a_keptKind a_keptA a_keptB a_keptInstance a_openCopy a_openLit a_parentCopy a_parentLit a_pathLength a_atomBase a_instanceLits a_instanceHolds a_literalHolds a_restInstances a_pathLiterals : Nat → Int32}
theorem xt_tab {post : St1 → Prop} (h : ∀ lh : Nat → Int32, (∀ a, a < 5 → lh (2 * a) = xt_in a 32 ∧ lh (2 * a + 1) = xt_in a 32 ^^^ (-1)) → post (f_litCount, f_clauseCount, f_stepCount, f_bufferSealed, f_lastCheckStep, f_keptCount, f_proofKept, f_openCount, f_universeSize, f_neededInstances, f_givenLiterals, a_litSign, a_litPred, a_litArg0, a_litArg1, a_clauseStart, a_predArity, a_stepKind, a_stepA, a_stepB, a_binding, a_keptKind, a_keptA, a_keptB, a_keptInstance, a_openCopy, a_openLit, a_parentCopy, a_parentLit, a_pathLength, a_atomBase, a_instanceLits, a_instanceHolds, lh, a_restInstances, a_pathLiterals)) : wpX_tabulateLiterals post (f_litCount, f_clauseCount, f_stepCount, f_bufferSealed, f_lastCheckStep, f_keptCount, f_proofKept, f_openCount, f_universeSize, f_neededInstances, f_givenLiterals, a_litSign, a_litPred, a_litArg0, a_litArg1, a_clauseStart, a_predArity, a_stepKind, a_stepA, a_stepB, a_binding, a_keptKind, a_keptA, a_keptB, a_keptInstance, a_openCopy, a_openLit, a_parentCopy, a_parentLit, a_pathLength, a_atomBase, a_instanceLits, a_instanceHolds, a_literalHolds, a_restInstances, a_pathLiterals) := by
  refine loop_0 (fun n i s => wX_tabulateLiterals_2 post f_litCount f_clauseCount f_stepCount f_bufferSealed f_lastCheckStep f_keptCount f_proofKept f_openCount f_universeSize f_neededInstances f_givenLiterals n (nI i) a_litSign a_litPred a_litArg0 a_litArg1 a_clauseStart a_predArity a_stepKind a_stepA a_stepB a_binding a_keptKind a_keptA a_keptB a_keptInstance a_openCopy a_openLit a_parentCopy a_parentLit a_pathLength a_atomBase a_instanceLits a_instanceHolds s a_restInstances a_pathLiterals) (fun i s => ∀ a, a < i → s (2 * a) = xt_in a 32 ∧ s (2 * a + 1) = xt_in a 32 ^^^ (-1)) 5 a_literalHolds (fun a ha => absurd ha (Nat.not_lt_zero a)) ?_ ?_
  · intro n s hs
    exact br_t (nI_le (a := 5) (b := 5) (Nat.le_refl _) (by decide)) (h s hs)
  · intro n i s hi hs ih
    refine br_f (nI_ge (b := 5) hi (by decide)) ?_
    have key : ∀ d k : Nat, k + d = 32 → wX_tabulateLiterals_11 post (wX_tabulateLiterals_2 post f_litCount f_clauseCount f_stepCount f_bufferSealed f_lastCheckStep f_keptCount f_proofKept f_openCount f_universeSize f_neededInstances f_givenLiterals n) (nI i) f_litCount f_clauseCount f_stepCount f_bufferSealed f_lastCheckStep f_keptCount f_proofKept f_openCount f_universeSize f_neededInstances f_givenLiterals a_litSign a_litPred a_litArg0 a_litArg1 a_clauseStart a_predArity a_stepKind a_stepA a_stepB a_binding a_keptKind a_keptA a_keptB a_keptInstance a_openCopy a_openLit a_parentCopy a_parentLit a_pathLength a_atomBase a_instanceLits a_instanceHolds s a_restInstances a_pathLiterals (d + 1) (xt_in i k) (nI k) := by
      intro d
      induction d with
      | zero =>
        intro k hk
        have : k = 32 := by omega
        subst this
        have e2 : (2 : Int32) * nI i = nI (2 * i) := by
          rw [show (2 : Int32) = nI 2 from rfl, pk_mul]
        refine br_t (nI_le (a := 32) (b := 32) (Nat.le_refl _) (by decide)) ?_
        rw [e2, nI_1, nI_clamp (show 2 * i < 2 ^ 31 by omega), nI_clamp (show 2 * i + 1 < 2 ^ 31 by omega)]
        refine ⟨vp_in_nI (by omega) (by decide), nm_e ⟨vp_in_nI (by omega) (by decide), nm_e (nm_r (nI_1 i) (ih _ (fun a ha => ?_)))⟩⟩
        by_cases e : a = i
        · subst e
          rw [pk_us, pk_un (by omega), pk_us]
          exact ⟨rfl, rfl⟩
        · rw [pk_un (by omega), pk_un (by omega), pk_un (by omega), pk_un (by omega)]
          exact hs a (by omega)
      | succ d IH =>
        intro k hk
        exact br_f (nI_ge (b := 32) (by omega) (by decide)) (nm_e (nm_r (nI_1 k) (IH (k + 1) (by omega))))
    exact ⟨_, key 32 0 (by omega)⟩
end