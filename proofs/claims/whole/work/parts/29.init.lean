section
variable {f_litCount f_clauseCount f_stepCount f_bufferSealed f_lastCheckStep f_keptCount f_proofKept f_openCount f_universeSize f_neededInstances f_givenLiterals : Int32} {a_litSign a_litPred a_litArg0 a_litArg1 a_clauseStart a_predArity a_stepKind a_stepA a_stepB a_binding a_keptKind a_keptA a_keptB a_keptInstance a_openCopy a_openLit a_parentCopy a_parentLit a_pathLength a_atomBase a_instanceLits a_instanceHolds a_literalHolds a_restInstances a_pathLiterals : Nat → Int32}
theorem xt_tab {post : SX → Prop} (h : ∀ lh : Nat → Int32, (∀ a, a < 5 → lh (2 * a) = xt_in a 32 ∧ lh (2 * a + 1) = xt_in a 32 ^^^ (-1)) → post (f_litCount, f_clauseCount, f_stepCount, f_bufferSealed, f_lastCheckStep, f_keptCount, f_proofKept, f_openCount, f_universeSize, f_neededInstances, f_givenLiterals, a_litSign, a_litPred, a_litArg0, a_litArg1, a_clauseStart, a_predArity, a_stepKind, a_stepA, a_stepB, a_binding, a_keptKind, a_keptA, a_keptB, a_keptInstance, a_openCopy, a_openLit, a_parentCopy, a_parentLit, a_pathLength, a_atomBase, a_instanceLits, a_instanceHolds, lh, a_restInstances, a_pathLiterals)) : wpX_tabulateLiterals post (f_litCount, f_clauseCount, f_stepCount, f_bufferSealed, f_lastCheckStep, f_keptCount, f_proofKept, f_openCount, f_universeSize, f_neededInstances, f_givenLiterals, a_litSign, a_litPred, a_litArg0, a_litArg1, a_clauseStart, a_predArity, a_stepKind, a_stepA, a_stepB, a_binding, a_keptKind, a_keptA, a_keptB, a_keptInstance, a_openCopy, a_openLit, a_parentCopy, a_parentLit, a_pathLength, a_atomBase, a_instanceLits, a_instanceHolds, a_literalHolds, a_restInstances, a_pathLiterals) := by
  refine loop_0 (fun n i s => wX_tabulateLiterals_2 post f_litCount f_clauseCount f_stepCount f_bufferSealed f_lastCheckStep f_keptCount f_proofKept f_openCount f_universeSize f_neededInstances f_givenLiterals n (nI i) a_litSign a_litPred a_litArg0 a_litArg1 a_clauseStart a_predArity a_stepKind a_stepA a_stepB a_binding a_keptKind a_keptA a_keptB a_keptInstance a_openCopy a_openLit a_parentCopy a_parentLit a_pathLength a_atomBase a_instanceLits a_instanceHolds s a_restInstances a_pathLiterals) (fun i s => ∀ a, a < i → s (2 * a) = xt_in a 32 ∧ s (2 * a + 1) = xt_in a 32 ^^^ (-1)) 5 a_literalHolds (fun a ha => absurd ha (Nat.not_lt_zero a)) ?_ ?_
  · intro n s hs
    exact br_t (nI_le (a := 5) (b := 5) (Nat.le_refl _) (by decide)) (h s hs)
  · intro n i s hi hs ih
    refine br_f (nI_ge (b := 5) hi (by decide)) ?_
    have key : ∀ d k : Nat, k + d = 32 → wX_tabulateLiterals_11 post (wX_tabulateLiterals_2 post f_litCount f_clauseCount f_stepCount f_bufferSealed f_lastCheckStep f_keptCount f_proofKept f_openCount f_universeSize f_neededInstances f_givenLiterals n) (nI i) f_litCount f_clauseCount f_stepCount f_bufferSealed f_lastCheckStep f_keptCount f_proofKept f_openCount f_universeSize f_neededInstances f_givenLiterals a_litSign a_litPred a_litArg0 a_litArg1 a_clauseStart a_predArity a_stepKind a_stepA a_stepB a_binding a_keptKind a_keptA a_keptB a_keptInstance a_openCopy a_openLit a_parentCopy a_parentLit a_pathLength a_atomBase a_instanceLits a_instanceHolds s a_restInstances a_pathLiterals (d + 1) (xt_in i k) (nI k) := by
      intro d
      induction d with
      | zero =>
        intro k hk
        have : k = 32 := by omega
        subst this
        have e2 : (2 : Int32) * nI i = nI (2 * i) := by
          rw [show (2 : Int32) = nI 2 from rfl, pk_mul]
        refine br_t (nI_le (a := 32) (b := 32) (Nat.le_refl _) (by decide)) ?_
        rw [e2, nI_1, nI_clamp (show 2 * i < 2 ^ 31 by omega), nI_clamp (show 2 * i + 1 < 2 ^ 31 by omega)]
        refine ⟨vp_in_nI (by omega) (by decide), nm_e ⟨vp_in_nI (by omega) (by decide), nm_e (nm_r (nI_1 i) (ih _ (fun a ha => ?_)))⟩⟩
        by_cases e : a = i
        · subst e
          rw [pk_us, pk_un (by omega), pk_us]
          exact ⟨rfl, rfl⟩
        · rw [pk_un (by omega), pk_un (by omega), pk_un (by omega), pk_un (by omega)]
          exact hs a (by omega)
      | succ d IH =>
        intro k hk
        exact br_f (nI_ge (b := 32) (by omega) (by decide)) (nm_e (nm_r (nI_1 k) (IH (k + 1) (by omega))))
    exact ⟨_, key 32 0 (by omega)⟩
end
section
variable {f_clauseCount f_litCount f_kept f_kN f_bN f_sealed f_lastStep f_cNodes f_cSp f_pNodes f_pSp : Int32} {a_lSign a_lPred a_lA0 a_lA1 a_lOwner a_arity a_kKind a_kA a_kB a_kBind a_bKind a_bA a_bB a_bBind a_cCopy a_cLit a_cPar a_cStk a_cl a_gtab a_pLit a_pPar a_pStk : Nat → Int32}
theorem yt_init {post : SY → Prop} (h : ∀ ar kb bb : Nat → Int32, (∀ p, p < 4 → ar p = -1) → (∀ p, 4 ≤ p → ar p = a_arity p) → (∀ t, t < 512 → bb t = -1) → post (f_clauseCount, f_litCount, f_kept, f_kN, f_bN, f_sealed, -1, f_cNodes, f_cSp, f_pNodes, f_pSp, a_lSign, a_lPred, a_lA0, a_lA1, a_lOwner, ar, a_kKind, a_kA, a_kB, kb, a_bKind, a_bA, a_bB, bb, a_cCopy, a_cLit, a_cPar, a_cStk, a_cl, a_gtab, a_pLit, a_pPar, a_pStk)) :
    ∃ n205 : Nat, wY_init_205 post f_clauseCount f_litCount f_kept f_kN f_bN f_sealed f_lastStep f_cNodes f_cSp f_pNodes f_pSp n205 0 a_lSign a_lPred a_lA0 a_lA1 a_lOwner a_arity a_kKind a_kA a_kB a_kBind a_bKind a_bA a_bB a_bBind a_cCopy a_cLit a_cPar a_cStk a_cl a_gtab a_pLit a_pPar a_pStk := by
  refine loop_0 (fun n i s => wY_init_205 post f_clauseCount f_litCount f_kept f_kN f_bN f_sealed f_lastStep f_cNodes f_cSp f_pNodes f_pSp n (nI i) a_lSign a_lPred a_lA0 a_lA1 a_lOwner s a_kKind a_kA a_kB a_kBind a_bKind a_bA a_bB a_bBind a_cCopy a_cLit a_cPar a_cStk a_cl a_gtab a_pLit a_pPar a_pStk) (fun i s => s = xe_m1 i a_arity) 4 a_arity (xe_m1_0 _) ?_ ?_
  · intro n s hs
    subst hs
    refine br_t (nI_le (a := 4) (b := 4) (Nat.le_refl _) (by decide)) ?_
    refine loop_0 (fun n i (t : (Nat → Int32) × (Nat → Int32)) => wY_init_225 post f_clauseCount f_litCount f_kept f_kN f_bN f_sealed f_lastStep f_cNodes f_cSp f_pNodes f_pSp n (nI i) a_lSign a_lPred a_lA0 a_lA1 a_lOwner (xe_m1 4 a_arity) a_kKind a_kA a_kB t.1 a_bKind a_bA a_bB t.2 a_cCopy a_cLit a_cPar a_cStk a_cl a_gtab a_pLit a_pPar a_pStk) (fun i t => ∀ j, j < i → t.2 j = -1) 512 (a_kBind, a_bBind) (fun j hj => absurd hj (Nat.not_lt_zero j)) ?_ ?_
    · intro n t ht
      exact br_t (nI_le (a := 512) (b := 512) (Nat.le_refl _) (by decide)) (h _ _ _ (fun p hp => if_pos hp) (fun p hp => if_neg (by omega)) ht)
    · intro n i t hi ht ih
      have hin : vp_in (nI i) 512 := vp_in_nI hi (by decide)
      refine br_f (nI_ge (b := 512) hi (by decide)) ⟨hin, ?_⟩
      rw [nI_clamp (show i < 2 ^ 31 by omega)]
      refine nm_e ⟨hin, nm_e (nm_r (nI_1 i) (ih (upd t.1 i (-1), upd t.2 i (-1)) (fun j hj => ?_)))⟩
      try dsimp only
      by_cases e : j = i
      · rw [e, pk_us]
      · rw [pk_un e]
        exact ht j (by omega)
  · intro n i s hi hs ih
    subst hs
    exact br_f (nI_ge (b := 4) hi (by decide)) ⟨vp_in_nI hi (by decide), nm_r (xe_m1_s (by omega)) (nm_r (nI_1 i) (ih _ rfl))⟩
end
theorem i_vc0 : wpX_init (fun u => wpY_init (fun v => i_Rel 0 u v)) := by
  refine xt_tab (fun lh hlh => ?_)
  refine xe_empty (xe_remove ?_)
  refine yt_init (fun ar kb bb har har2 hbb => ?_)
  have ear : ar = xe_m1 4 (fun _ => 0) := by
    funext p
    by_cases hp : p < 4
    · rw [har p hp]
      exact (if_pos hp).symm
    · rw [har2 p (by omega)]
      exact (if_neg hp).symm
  subst ear
  refine i_mk (nc := 0) (nl := 0) (st := fun _ => 0) (ns := 0) (bn := 0) (kc := 0) (kn := 0) ⟨⟨⟨Nat.zero_le _, Nat.zero_le _, rfl, fun c hc => absurd hc (Nat.not_lt_zero c), Nat.zero_le _, Nat.zero_le _, fun j hj => absurd hj (Nat.not_lt_zero j), fun p hp => Or.inl (if_pos hp)⟩, fun c hc => rfl, fun j hj => absurd hj (Nat.not_lt_zero j)⟩, ⟨hlh, rfl⟩, ⟨by omega, by omega, Or.inl ⟨rfl, rfl, fun i hi => absurd hi (Nat.not_lt_zero i), fun t => t, cr_bx_id _, ?_⟩⟩, Or.inl rfl⟩
  refine ⟨rfl, rfl, fun t ht => ⟨ht, fun h2 => ?_⟩⟩
  show bb (t - 2) = if t = t then -1 else nI t
  rw [if_pos rfl]
  exact hbb (t - 2) (by omega)
