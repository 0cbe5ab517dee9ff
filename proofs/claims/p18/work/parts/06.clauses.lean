/-! Y's two scans of the owners -/
/-! X's length -/
section
variable {f_litCount f_clauseCount f_stepCount f_bufferSealed f_lastCheckStep f_keptCount f_proofKept f_openCount f_universeSize f_neededInstances f_givenLiterals : Int32} {a_litSign a_litPred a_litArg0 a_litArg1 a_clauseStart a_predArity a_stepKind a_stepA a_stepB a_binding a_keptKind a_keptA a_keptB a_keptInstance a_openCopy a_openLit a_parentCopy a_parentLit a_pathLength a_atomBase a_instanceLits a_instanceHolds a_literalHolds a_restInstances a_pathLiterals : Nat → Int32}
theorem xl_len {post : Int32 → Prop} {nc nl : Nat} {st : Nat → Nat} {sg pr a0 a1 ar : Nat → Int32} (hw : cd_wf nc nl st sg pr a0 a1 ar) (hcs : ∀ c, c ≤ nc → a_clauseStart c = nI (st c))
    {c : Nat} (hc : c ≤ nc) (h : post (nI (cd_en nc nl st c - st c))) : wpX_getClauseLength post (nI nl, nI nc, f_stepCount, f_bufferSealed, f_lastCheckStep, f_keptCount, f_proofKept, f_openCount, f_universeSize, f_neededInstances, f_givenLiterals, a_litSign, a_litPred, a_litArg0, a_litArg1, a_clauseStart, a_predArity, a_stepKind, a_stepA, a_stepB, a_binding, a_keptKind, a_keptA, a_keptB, a_keptInstance, a_openCopy, a_openLit, a_parentCopy, a_parentLit, a_pathLength, a_atomBase, a_instanceLits, a_instanceHolds, a_literalHolds, a_restInstances, a_pathLiterals) (nI c) := by
  obtain ⟨b1, b2, b3⟩ := cd_en_bd hw hc
  have hnc := hw.1
  have hnl := hw.2.1
  refine br_f (nI_pos (by omega)) (br_t (nI_le hc (by omega)) ?_)
  refine pk_eq c nc (fun e => ?_) (fun e => ?_)
  · refine ⟨vp_in_nI (by omega) (by decide), ?_⟩
    rw [nI_clamp (show c < 2 ^ 31 by omega), hcs c hc]
    rw [e, cd_en_nc] at h
    rw [e] at b1 ⊢
    rw [cd_en_nc] at b1
    rw [pk_sub b1]
    exact h
  · have hlt : c < nc := by omega
    refine ⟨?_, vp_in_nI (by omega) (by decide), ?_⟩
    · rw [nI_1]
      exact vp_in_nI (by omega) (by decide)
    · rw [nI_1, nI_clamp (show c + 1 < 2 ^ 31 by omega), nI_clamp (show c < 2 ^ 31 by omega), hcs c hc, hcs (c + 1) hlt]
      rw [cd_en_lt hlt] at b1 h
      rw [pk_sub b1]
      exact h
theorem xl_len_no {post : Int32 → Prop} {nc : Nat} (hnc : nc ≤ 8) {x : Int32} (hx : x < 0 ∨ ¬ x ≤ nI nc) (h : post (-1)) : wpX_getClauseLength post (f_litCount, nI nc, f_stepCount, f_bufferSealed, f_lastCheckStep, f_keptCount, f_proofKept, f_openCount, f_universeSize, f_neededInstances, f_givenLiterals, a_litSign, a_litPred, a_litArg0, a_litArg1, a_clauseStart, a_predArity, a_stepKind, a_stepA, a_stepB, a_binding, a_keptKind, a_keptA, a_keptB, a_keptInstance, a_openCopy, a_openLit, a_parentCopy, a_parentLit, a_pathLength, a_atomBase, a_instanceLits, a_instanceHolds, a_literalHolds, a_restInstances, a_pathLiterals) x := by
  by_cases h0 : x < 0
  · exact br_t h0 h
  · exact br_f h0 (br_f (hx.elim (fun z => absurd z h0) (fun z => z)) h)
end
theorem cd_cases (x : Int32) (nc : Nat) (hnc : nc ≤ 8) : (x < 0 ∨ ¬ x ≤ nI nc) ∨ ∃ c, c ≤ nc ∧ x = nI c := by
  rcases pk_ix x (n := nc + 1) (by omega) with h | h | ⟨j, hj, e⟩
  · exact Or.inl (Or.inl h)
  · by_cases h0 : x < 0
    · exact Or.inl (Or.inl h0)
    · obtain ⟨j, hj, e⟩ := nI_of h0
      refine Or.inl (Or.inr ?_)
      rw [e, nI_leI (by omega) hj] at h
      rw [e, nI_leI hj (by omega)]
      omega
  · exact Or.inr ⟨j, by omega, e⟩