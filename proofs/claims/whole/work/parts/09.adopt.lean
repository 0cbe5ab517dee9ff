/-! adoptProof -/
theorem xd_bits : ∀ q, q < 32 → (nI q >>> ((1 : Int32) &&& 31)) &&& 1 = nI (q / 2 % 2) ∧ nI q &&& 1 = nI (q % 2) := by decide +kernel
theorem xd_ix (i : Nat) : (2 : Int32) * nI i + 2 = nI (2 * i + 2) := by
  rw [show (2 : Int32) = nI 2 from rfl, pk_mul, nI_add]
theorem xd_ix3 (i : Nat) : (2 : Int32) * nI i + 3 = nI (2 * i + 3) := by
  rw [show (2 : Int32) = nI 2 from rfl, show (3 : Int32) = nI 3 from rfl, pk_mul, nI_add]
section
variable {f_litCount f_clauseCount f_stepCount f_bufferSealed f_lastCheckStep f_keptCount f_proofKept f_openCount f_universeSize f_neededInstances f_givenLiterals : Int32} {a_litSign a_litPred a_litArg0 a_litArg1 a_clauseStart a_predArity a_stepKind a_stepA a_stepB a_binding a_keptKind a_keptA a_keptB a_keptInstance a_openCopy a_openLit a_parentCopy a_parentLit a_pathLength a_atomBase a_instanceLits a_instanceHolds a_literalHolds a_restInstances a_pathLiterals : Nat → Int32}
theorem xd_v2 {post : Int32 → Prop} {q : Nat} (hq : q < 32) (h : post (nI (q / 2 % 2))) : wpX_valueIn post (f_litCount, f_clauseCount, f_stepCount, f_bufferSealed, f_lastCheckStep, f_keptCount, f_proofKept, f_openCount, f_universeSize, f_neededInstances, f_givenLiterals, a_litSign, a_litPred, a_litArg0, a_litArg1, a_clauseStart, a_predArity, a_stepKind, a_stepA, a_stepB, a_binding, a_keptKind, a_keptA, a_keptB, a_keptInstance, a_openCopy, a_openLit, a_parentCopy, a_parentLit, a_pathLength, a_atomBase, a_instanceLits, a_instanceHolds, a_literalHolds, a_restInstances, a_pathLiterals) (nI q) 2 := by
  refine br_t rfl ?_
  rw [(xd_bits q hq).1]
  exact h
theorem xd_v3 {post : Int32 → Prop} {q : Nat} (hq : q < 32) (h : post (nI (q % 2))) : wpX_valueIn post (f_litCount, f_clauseCount, f_stepCount, f_bufferSealed, f_lastCheckStep, f_keptCount, f_proofKept, f_openCount, f_universeSize, f_neededInstances, f_givenLiterals, a_litSign, a_litPred, a_litArg0, a_litArg1, a_clauseStart, a_predArity, a_stepKind, a_stepA, a_stepB, a_binding, a_keptKind, a_keptA, a_keptB, a_keptInstance, a_openCopy, a_openLit, a_parentCopy, a_parentLit, a_pathLength, a_atomBase, a_instanceLits, a_instanceHolds, a_literalHolds, a_restInstances, a_pathLiterals) (nI q) 3 := by
  refine br_f (by decide) (br_t rfl ?_)
  rw [(xd_bits q hq).2]
  exact h
theorem xd_adopt {post : Int32 → SX → Prop} {nc kc : Nat} {st : Nat → Nat} {sg pr a0 a1 : Nat → Int32} (hx : cr_kx nc st sg pr a0 a1 kc a_keptKind a_keptA a_keptB a_keptInstance)
    (hp : ∀ (xK xA xB bd : Nat → Int32) (b : Nat → Nat), cr_bx b bd → cr_ok nc st sg pr a0 a1 xK xA xB b kc → post 0 (f_litCount, f_clauseCount, nI kc, 1, f_lastCheckStep, nI kc, 1, f_openCount, f_universeSize, f_neededInstances, f_givenLiterals, a_litSign, a_litPred, a_litArg0, a_litArg1, a_clauseStart, a_predArity, xK, xA, xB, bd, a_keptKind, a_keptA, a_keptB, a_keptInstance, a_openCopy, a_openLit, a_parentCopy, a_parentLit, a_pathLength, a_atomBase, a_instanceLits, a_instanceHolds, a_literalHolds, a_restInstances, a_pathLiterals)) :
    wpX_adoptProof post (f_litCount, f_clauseCount, f_stepCount, f_bufferSealed, f_lastCheckStep, nI kc, 1, f_openCount, f_universeSize, f_neededInstances, f_givenLiterals, a_litSign, a_litPred, a_litArg0, a_litArg1, a_clauseStart, a_predArity, a_stepKind, a_stepA, a_stepB, a_binding, a_keptKind, a_keptA, a_keptB, a_keptInstance, a_openCopy, a_openLit, a_parentCopy, a_parentLit, a_pathLength, a_atomBase, a_instanceLits, a_instanceHolds, a_literalHolds, a_restInstances, a_pathLiterals) := by
  obtain ⟨q, hkc, hq, hval⟩ := hx
  refine br_f (by decide) ?_
  refine xe_empty ?_
  refine loop_0 (fun n i (s : (Nat → Int32) × (Nat → Int32) × (Nat → Int32) × (Nat → Int32)) => wX_adoptProof_16 post f_litCount f_clauseCount 0 0 f_lastCheckStep (nI kc) 1 f_openCount f_universeSize f_neededInstances f_givenLiterals n (nI i) a_litSign a_litPred a_litArg0 a_litArg1 a_clauseStart a_predArity s.1 s.2.1 s.2.2.1 s.2.2.2 a_keptKind a_keptA a_keptB a_keptInstance a_openCopy a_openLit a_parentCopy a_parentLit a_pathLength a_atomBase a_instanceLits a_instanceHolds a_literalHolds a_restInstances a_pathLiterals)
    (fun i s => (∀ j, j < i → s.1 j = a_keptKind j ∧ s.2.1 j = a_keptA j ∧ s.2.2.1 j = a_keptB j) ∧ ∃ b, cr_bx b s.2.2.2 ∧ ck_bok a_keptKind (fun j => q j / 2 % 2) (fun j => q j % 2) i b) kc
    (a_stepKind, a_stepA, a_stepB, xe_fill 514 a_binding) ?_ ?_ ?_
  · exact ⟨fun j hj => absurd hj (Nat.not_lt_zero j), _, cr_bx_id _, rfl, rfl, fun j hj => absurd hj (Nat.not_lt_zero j)⟩
  · intro n s hs
    obtain ⟨hag, b, hbx, hbo⟩ := hs
    refine br_t (nI_le (Nat.le_refl kc) (by omega)) ?_
    exact hp _ _ _ _ b hbx (hval _ _ _ b hag hbo)
  · intro n i s hi hs ih
    obtain ⟨hag, b, hbx, hbo⟩ := hs
    have hin : vp_in (nI i) 256 := vp_in_nI (by omega) (by decide)
    have cl : (nI i).toNatClampNeg = i := nI_clamp (by omega)
    have ag' : ∀ j, j < i + 1 → upd s.1 i (a_keptKind i) j = a_keptKind j ∧ upd s.2.1 i (a_keptA i) j = a_keptA j ∧ upd s.2.2.1 i (a_keptB i) j = a_keptB j := by
      intro j hj
      by_cases e : j = i
      · subst e
        rw [pk_us, pk_us, pk_us]
        exact ⟨rfl, rfl, rfl⟩
      · rw [pk_un e, pk_un e, pk_un e]
        exact hag j (by omega)
    refine br_f (nI_ge hi (by omega)) ?_
    rw [cl]
    refine ⟨hin, hin, nm_e ⟨hin, hin, nm_e ⟨hin, hin, nm_e ⟨hin, br_c (fun e2 => ?_) (fun e2 => ⟨hin, ?_⟩)⟩⟩⟩⟩
    · refine nm_r (nI_1 i) (ih (upd s.1 i (a_keptKind i), upd s.2.1 i (a_keptA i), upd s.2.2.1 i (a_keptB i), s.2.2.2) ⟨ag', b, hbx, hbo.1, hbo.2.1, fun j hj hK => ?_⟩)
      by_cases e : j = i
      · exact absurd (e ▸ e2) hK
      · exact hbo.2.2 j (by omega) hK
    · obtain ⟨hqi, eqi⟩ := hq i hi e2
      rw [eqi]
      refine xd_v2 hqi ?_
      rw [xd_ix, nI_clamp (show 2 * i + 2 < 2 ^ 31 by omega)]
      refine ⟨vp_in_nI (by omega) (by decide), nm_e ⟨hin, ?_⟩⟩
      refine xd_v3 hqi ?_
      rw [xd_ix3, nI_clamp (show 2 * i + 3 < 2 ^ 31 by omega)]
      refine ⟨vp_in_nI (by omega) (by decide), nm_e (nm_r (nI_1 i) ?_)⟩
      refine ih (upd s.1 i (a_keptKind i), upd s.2.1 i (a_keptA i), upd s.2.2.1 i (a_keptB i), upd (upd s.2.2.2 (2 * i + 2) (nI (q i / 2 % 2))) (2 * i + 3) (nI (q i % 2)))
        ⟨ag', cd_put (cd_put b (2 * i + 2) (q i / 2 % 2)) (2 * i + 3) (q i % 2), cr_bx_put (cr_bx_put hbx (by omega) (by omega)) (by omega) (by omega), ?_, ?_, fun j hj hK => ?_⟩
      · rw [cd_put_n (by omega), cd_put_n (by omega)]
        exact hbo.1
      · rw [cd_put_n (by omega), cd_put_n (by omega)]
        exact hbo.2.1
      · by_cases e : j = i
        · subst e
          rw [cd_put_s, cd_put_n (by omega), cd_put_s]
          exact ⟨rfl, rfl⟩
        · rw [cd_put_n (by omega), cd_put_n (by omega), cd_put_n (by omega), cd_put_n (by omega)]
          exact hbo.2.2 j (by omega) hK
end
/-- the binding that the reference's array means -/
def yd_b (yb : Nat → Int32) : Nat → Nat := fun t => if t < 2 then t else if yb (t - 2) = -1 then t else (yb (t - 2)).toNatClampNeg
theorem yd_by {kb yb : Nat → Int32} (h : ∀ t, t < 512 → kb t = -1 ∨ kb t = 0 ∨ kb t = 1) (he : ∀ t, t < 512 → yb t = kb t) : cr_by (yd_b kb) yb := by
  refine ⟨rfl, rfl, fun t ht => ?_⟩
  by_cases h2 : t < 2
  · have e : yd_b kb t = t := by unfold yd_b; rw [if_pos h2]
    rw [e]
    exact ⟨ht, fun z => absurd h2 (by omega)⟩
  · rw [he (t - 2) (by omega)]
    rcases h (t - 2) (by omega) with z | z | z
    · have e : yd_b kb t = t := by unfold yd_b; rw [if_neg h2, z, if_pos rfl]
      rw [e, z]
      exact ⟨ht, fun _ => by rw [if_pos rfl]⟩
    · have e : yd_b kb t = 0 := by unfold yd_b; rw [if_neg h2, z, if_neg (by decide)]; rfl
      rw [e, z]
      exact ⟨by omega, fun _ => by rw [if_neg (by omega)]; rfl⟩
    · have e : yd_b kb t = 1 := by unfold yd_b; rw [if_neg h2, z, if_neg (by decide)]; rfl
      rw [e, z]
      exact ⟨by omega, fun _ => by rw [if_neg (by omega)]; rfl⟩
theorem yd_bok {kK kb : Nat → Int32} {W0 W1 : Nat → Nat} {kn : Nat} (h : ∀ j, j < kn → ¬ kK j = 2 → W0 j < 2 ∧ W1 j < 2 ∧ kb (2 * j) = nI (W0 j) ∧ kb (2 * j + 1) = nI (W1 j)) :
    ck_bok kK W0 W1 kn (yd_b kb) := by
  have val : ∀ (t w : Nat), w < 2 → kb t = nI w → yd_b kb (t + 2) = w := by
    intro t w hw e
    unfold yd_b
    have e1 : t + 2 - 2 = t := by omega
    rw [if_neg (by omega), e1, e, if_neg, nI_clamp (by omega)]
    have : w = 0 ∨ w = 1 := by omega
    rcases this with z | z <;> rw [z] <;> decide
  refine ⟨rfl, rfl, fun j hj hK => ?_⟩
  obtain ⟨w0, w1, e0, e1⟩ := h j hj hK
  exact ⟨val (2 * j) _ w0 e0, val (2 * j + 1) _ w1 e1⟩
section
variable {f_clauseCount f_litCount f_kept f_kN f_bN f_sealed f_lastStep f_cNodes f_cSp f_pNodes f_pSp : Int32} {a_lSign a_lPred a_lA0 a_lA1 a_lOwner a_arity a_kKind a_kA a_kB a_kBind a_bKind a_bA a_bB a_bBind a_cCopy a_cLit a_cPar a_cStk a_cl a_gtab a_pLit a_pPar a_pStk : Nat → Int32}
theorem yd_adopt {post : Int32 → SY → Prop} {nc kn : Nat} {st : Nat → Nat} {sg pr a0 a1 : Nat → Int32} (hy : cr_ky nc st sg pr a0 a1 kn a_kKind a_kA a_kB a_kBind)
    (hp : ∀ (yK yA yB yb : Nat → Int32) (b : Nat → Nat), cr_by b yb → cr_ok nc st sg pr a0 a1 yK yA yB b kn → post 0 (f_clauseCount, f_litCount, 1, nI kn, nI kn, 1, f_lastStep, f_cNodes, f_cSp, f_pNodes, f_pSp, a_lSign, a_lPred, a_lA0, a_lA1, a_lOwner, a_arity, a_kKind, a_kA, a_kB, a_kBind, yK, yA, yB, yb, a_cCopy, a_cLit, a_cPar, a_cStk, a_cl, a_gtab, a_pLit, a_pPar, a_pStk)) :
    wpY_adoptProof post (f_clauseCount, f_litCount, 1, nI kn, f_bN, f_sealed, f_lastStep, f_cNodes, f_cSp, f_pNodes, f_pSp, a_lSign, a_lPred, a_lA0, a_lA1, a_lOwner, a_arity, a_kKind, a_kA, a_kB, a_kBind, a_bKind, a_bA, a_bB, a_bBind, a_cCopy, a_cLit, a_cPar, a_cStk, a_cl, a_gtab, a_pLit, a_pPar, a_pStk) := by
  obtain ⟨W0, W1, hkn, hv, hb, hval⟩ := hy
  refine br_f (by decide) ?_
  refine loop_0 (fun n i (s : (Nat → Int32) × (Nat → Int32) × (Nat → Int32)) => wY_adoptProof_20 post f_clauseCount f_litCount 1 (nI kn) (nI kn) f_sealed f_lastStep f_cNodes f_cSp f_pNodes f_pSp n (nI i) a_lSign a_lPred a_lA0 a_lA1 a_lOwner a_arity a_kKind a_kA a_kB a_kBind s.1 s.2.1 s.2.2 a_bBind a_cCopy a_cLit a_cPar a_cStk a_cl a_gtab a_pLit a_pPar a_pStk)
    (fun i s => ∀ j, j < i → s.1 j = a_kKind j ∧ s.2.1 j = a_kA j ∧ s.2.2 j = a_kB j) 256 (a_bKind, a_bA, a_bB) ?_ ?_ ?_
  · exact fun j hj => absurd hj (Nat.not_lt_zero j)
  · intro n s hag
    refine br_t (nI_le (a := 256) (b := 256) (Nat.le_refl _) (by decide)) ?_
    refine loop_0 (fun n i (t : Nat → Int32) => wY_adoptProof_71 post f_clauseCount f_litCount 1 (nI kn) (nI kn) f_sealed f_lastStep f_cNodes f_cSp f_pNodes f_pSp n (nI i) a_lSign a_lPred a_lA0 a_lA1 a_lOwner a_arity a_kKind a_kA a_kB a_kBind s.1 s.2.1 s.2.2 t a_cCopy a_cLit a_cPar a_cStk a_cl a_gtab a_pLit a_pPar a_pStk)
      (fun i t => ∀ j, j < i → t j = a_kBind j) 512 a_bBind ?_ ?_ ?_
    · exact fun j hj => absurd hj (Nat.not_lt_zero j)
    · intro n t ht
      refine br_t (nI_le (a := 512) (b := 512) (Nat.le_refl _) (by decide)) ?_
      exact hp _ _ _ _ _ (yd_by hb ht) (hval _ _ _ _ (fun j hj => hag j (by omega)) (yd_bok hv))
    · intro n i t hi ht ih
      have hin : vp_in (nI i) 512 := vp_in_nI hi (by decide)
      refine br_f (nI_ge (b := 512) hi (by decide)) ⟨hin, hin, nm_e (nm_r (nI_1 i) (ih _ ?_))⟩
      rw [nI_clamp (show i < 2 ^ 31 by omega)]
      intro j hj
      by_cases e : j = i
      · subst e
        exact pk_us
      · rw [pk_un e]
        exact ht j (by omega)
  · intro n i s hi hag ih
    have hin : vp_in (nI i) 256 := vp_in_nI hi (by decide)
    refine br_f (nI_ge (b := 256) hi (by decide)) ?_
    rw [nI_clamp (show i < 2 ^ 31 by omega)]
    refine ⟨hin, hin, nm_e ⟨hin, hin, nm_e ⟨hin, hin, nm_e (nm_r (nI_1 i) (ih (upd s.1 i (a_kKind i), upd s.2.1 i (a_kA i), upd s.2.2 i (a_kB i)) ?_))⟩⟩⟩
    intro j hj
    by_cases e : j = i
    · subst e
      dsimp only
      rw [pk_us, pk_us, pk_us]
      exact ⟨rfl, rfl, rfl⟩
    · dsimp only
      rw [pk_un e, pk_un e, pk_un e]
      exact hag j (by omega)
end
theorem i_vc_adoptProof {k : Nat} {u : SX} {v : SY} (I : i_Rel k u v) (hk : k + 5 ≤ 2560) : wpX_adoptProof (fun r u' => wpY_adoptProof (fun r' v' => r' = r ∧ i_Rel (k + 5) u' v') v) u := by
  obtain ⟨nc, nl, st, sl, kp, ls, ns, bn, kc, kn, sg, pr, a0, a1, ar, cs, ow, xK, xA, xB, bd, yK, yA, yB, yb, kK, kA, kB, kI, zK, zA, zB, zb, lh, ph, x0, x1, x2, x3, y0, y1, y2, y3, X0, X1, X2, X3, X4, X5, X6, X7, X8, Y0, Y1, Y2, Y3, Y4, Y5, Y6, Y7, Y8, rfl, rfl, h⟩ := I
  obtain ⟨h1, h2, h3, h4⟩ := id h
  rcases id h4 with rfl | ⟨rfl, hx, hy⟩
  · exact br_t rfl (br_t rfl ⟨rfl, i_mk h⟩)
  · refine xd_adopt hx (fun xK' xA' xB' bd' b hbx hok => ?_)
    refine yd_adopt hy (fun yK' yA' yB' yb' b' hby hok' => ⟨rfl, ?_⟩)
    obtain ⟨_, hkc, _⟩ := hx
    obtain ⟨_, _, hkn, _⟩ := hy
    exact i_mk (ns := kc) (bn := kn) ⟨h1, h2, ⟨hkc, hkn, Or.inr ⟨rfl, ⟨b, hbx, hok⟩, ⟨b', hby, hok'⟩⟩⟩, h4⟩
