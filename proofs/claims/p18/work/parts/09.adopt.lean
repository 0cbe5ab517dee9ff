/-! adoptProof -/
theorem xd_bits : ∀ q, q < 32 → (nI q >>> ((1 : Int32) &&& 31)) &&& 1 = nI (q / 2 % 2) ∧ nI q &&& 1 = nI (q % 2) := by decide +kernel
theorem xd_ix (i : Nat) : (2 : Int32) * nI i + 2 = nI (2 * i + 2) := by
  rw [show (2 : Int32) = nI 2 from rfl, pk_mul, nI_add]
theorem xd_ix3 (i : Nat) : (2 : Int32) * nI i + 3 = nI (2 * i + 3) := by
  rw [show (2 : Int32) = nI 2 from rfl, show (3 : Int32) = nI 3 from rfl, pk_mul, nI_add]
section
variable {f_litCount f_clauseCount f_stepCount f_bufferSealed f_lastCheckStep f_keptCount f_proofKept f_openCount f_universeSize f_neededInstances f_givenLiterals : Int32} {a_litSign a_litPred a_litArg0 a_litArg1 a_clauseStart a_predArity a_stepKind a_stepA a_stepB a_binding a_keptKind a_keptA a_keptB a_keptInstance a_openCopy a_openLit a_parentCopy a_parentLit a_pathLength a_atomBase a_instanceLits a_instanceHolds a_literalHolds a_restInstances a_pathLiterals : Nat → Int32}
theorem xd_v2 {post : Int32 → Prop} {q : Nat} (hq : q < 32) (h : post (nI (q / 2 % 2))) : wpX_valueIn post (f_litCount, f_clauseCount, f_stepCount, f_bufferSealed, f_lastCheckStep, f_keptCount, f_proofKept, f_openCount, f_universeSize, f_neededInstances, f_givenLiterals, a_litSign, a_litPred, a_litArg0, a_litArg1, a_clauseStart, a_predArity, a_stepKind, a_stepA, a_stepB, a_binding, a_keptKind, a_keptA, a_keptB, a_keptInstance, a_openCopy, a_openLit, a_parentCopy, a_parentLit, a_pathLength, a_atomBase, a_instanceLits, a_instanceHolds, a_literalHolds, a_restInstances, a_pathLiterals) (nI q) 2 := by
  refine br_t rfl ?_
  rw [(xd_bits q hq).1]
  exact h
theorem xd_v3 {post : Int32 → Prop} {q : Nat} (hq : q < 32) (h : post (nI (q % 2))) : wpX_valueIn post (f_litCount, f_clauseCount, f_stepCount, f_bufferSealed, f_lastCheckStep, f_keptCount, f_proofKept, f_openCount, f_universeSize, f_neededInstances, f_givenLiterals, a_litSign, a_litPred, a_litArg0, a_litArg1, a_clauseStart, a_predArity, a_stepKind, a_stepA, a_stepB, a_binding, a_keptKind, a_keptA, a_keptB, a_keptInstance, a_openCopy, a_openLit, a_parentCopy, a_parentLit, a_pathLength, a_atomBase, a_instanceLits, a_instanceHolds, a_literalHolds, a_restInstances, a_pathLiterals) (nI q) 3 := by
  refine br_f (by decide) (br_t rfl ?_)
  rw [(xd_bits q hq).2]
  exact h
theorem xd_adopt {post : Int32 → St1 → Prop} {nc kc : Nat} {st : Nat → Nat} {sg pr a0 a1 : Nat → Int32} (hx : cr_kx nc st sg pr a0 a1 kc a_keptKind a_keptA a_keptB a_keptInstance)
    (hp : ∀ (xK xA xB bd : Nat → Int32) (b : Nat → Nat), cr_bx b bd → cr_ok nc st sg pr a0 a1 xK xA xB b kc → post 0 (f_litCount, f_clauseCount, nI kc, 1, f_lastCheckStep, nI kc, 1, f_openCount, f_universeSize, f_neededInstances, f_givenLiterals, a_litSign, a_litPred, a_litArg0, a_litArg1, a_clauseStart, a_predArity, xK, xA, xB, bd, a_keptKind, a_keptA, a_keptB, a_keptInstance, a_openCopy, a_openLit, a_parentCopy, a_parentLit, a_pathLength, a_atomBase, a_instanceLits, a_instanceHolds, a_literalHolds, a_restInstances, a_pathLiterals)) :
    wpX_adoptProof post (f_litCount, f_clauseCount, f_stepCount, f_bufferSealed, f_lastCheckStep, nI kc, 1, f_openCount, f_universeSize, f_neededInstances, f_givenLiterals, a_litSign, a_litPred, a_litArg0, a_litArg1, a_clauseStart, a_predArity, a_stepKind, a_stepA, a_stepB, a_binding, a_keptKind, a_keptA, a_keptB, a_keptInstance, a_openCopy, a_openLit, a_parentCopy, a_parentLit, a_pathLength, a_atomBase, a_instanceLits, a_instanceHolds, a_literalHolds, a_restInstances, a_pathLiterals) := by
  obtain ⟨q, hkc, hq, hval⟩ := hx
  refine br_f (by decide) ?_
  refine xe_empty ?_
  refine loop_0 (fun n i (s : (Nat → Int32) × (Nat → Int32) × (Nat → Int32) × (Nat → Int32)) => wX_adoptProof_16 post f_litCount f_clauseCount 0 0 f_lastCheckStep (nI kc) 1 f_openCount f_universeSize f_neededInstances f_givenLiterals n (nI i) a_litSign a_litPred a_litArg0 a_litArg1 a_clauseStart a_predArity s.1 s.2.1 s.2.2.1 s.2.2.2 a_keptKind a_keptA a_keptB a_keptInstance a_openCopy a_openLit a_parentCopy a_parentLit a_pathLength a_atomBase a_instanceLits a_instanceHolds a_literalHolds a_restInstances a_pathLiterals)
    (fun i s => (∀ j, j < i → s.1 j = a_keptKind j ∧ s.2.1 j = a_keptA j ∧ s.2.2.1 j = a_keptB j) ∧ ∃ b, cr_bx b s.2.2.2 ∧ ck_bok a_keptKind (fun j => q j / 2 % 2) (fun j => q j % 2) i b) kc
    (a_stepKind, a_stepA, a_stepB, xe_fill 514 a_binding) ?_ ?_ ?_
  · exact ⟨fun j hj => absurd hj (Nat.not_lt_zero j), _, cr_bx_id _, rfl, rfl, fun j hj => absurd hj (Nat.not_lt_zero j)⟩
  · intro n s hs
    obtain ⟨hag, b, hbx, hbo⟩ := hs
    refine br_t (nI_le (Nat.le_refl kc) (by omega)) ?_
    exact hp _ _ _ _ b hbx (hval _ _ _ b hag hbo)
  · intro n i s hi hs ih
    obtain ⟨hag, b, hbx, hbo⟩ := hs
    have hin : vp_in (nI i) 256 := vp_in_nI (by omega) (by decide)
    have cl : (nI i).toNatClampNeg = i := nI_clamp (by omega)
    have ag' : ∀ j, j < i + 1 → upd s.1 i (a_keptKind i) j = a_keptKind j ∧ upd s.2.1 i (a_keptA i) j = a_keptA j ∧ upd s.2.2.1 i (a_keptB i) j = a_keptB j := by
      intro j hj
      by_cases e : j = i
      · subst e
        rw [pk_us, pk_us, pk_us]
        exact ⟨rfl, rfl, rfl⟩
      · rw [pk_un e, pk_un e, pk_un e]
        exact hag j (by omega)
    refine br_f (nI_ge hi (by omega)) ?_
    rw [cl]
    refine ⟨hin, hin, nm_e ⟨hin, hin, nm_e ⟨hin, hin, nm_e ⟨hin, br_c (fun e2 => ?_) (fun e2 => ⟨hin, ?_⟩)⟩⟩⟩⟩
    · refine nm_r (nI_1 i) (ih (upd s.1 i (a_keptKind i), upd s.2.1 i (a_keptA i), upd s.2.2.1 i (a_keptB i), s.2.2.2) ⟨ag', b, hbx, hbo.1, hbo.2.1, fun j hj hK => ?_⟩)
      by_cases e : j = i
      · exact absurd (e ▸ e2) hK
      · exact hbo.2.2 j (by omega) hK
    · obtain ⟨hqi, eqi⟩ := hq i hi e2
      rw [eqi]
      refine xd_v2 hqi ?_
      rw [xd_ix, nI_clamp (show 2 * i + 2 < 2 ^ 31 by omega)]
      refine ⟨vp_in_nI (by omega) (by decide), nm_e ⟨hin, ?_⟩⟩
      refine xd_v3 hqi ?_
      rw [xd_ix3, nI_clamp (show 2 * i + 3 < 2 ^ 31 by omega)]
      refine ⟨vp_in_nI (by omega) (by decide), nm_e (nm_r (nI_1 i) ?_)⟩
      refine ih (upd s.1 i (a_keptKind i), upd s.2.1 i (a_keptA i), upd s.2.2.1 i (a_keptB i), upd (upd s.2.2.2 (2 * i + 2) (nI (q i / 2 % 2))) (2 * i + 3) (nI (q i % 2)))
        ⟨ag', cd_put (cd_put b (2 * i + 2) (q i / 2 % 2)) (2 * i + 3) (q i % 2), cr_bx_put (cr_bx_put hbx (by omega) (by omega)) (by omega) (by omega), ?_, ?_, fun j hj hK => ?_⟩
      · rw [cd_put_n (by omega), cd_put_n (by omega)]
        exact hbo.1
      · rw [cd_put_n (by omega), cd_put_n (by omega)]
        exact hbo.2.1
      · by_cases e : j = i
        · subst e
          rw [cd_put_s, cd_put_n (by omega), cd_put_s]
          exact ⟨rfl, rfl⟩
        · rw [cd_put_n (by omega), cd_put_n (by omega), cd_put_n (by omega), cd_put_n (by omega)]
          exact hbo.2.2 j (by omega) hK
end