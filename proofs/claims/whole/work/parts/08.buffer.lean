/-! addStep -/
theorem cr_buf_step {nc : Nat} {st : Nat → Nat} {sg pr a0 a1 : Nat → Int32} {ns bn : Nat} {xK xA xB bd yK yA yB yb : Nat → Int32} {p0 p1 p2 : Int32} (hn : ns < 256)
    (h : cr_buf nc st sg pr a0 a1 0 ns bn xK xA xB bd yK yA yB yb) :
    bn = ns ∧ cr_buf nc st sg pr a0 a1 0 (ns + 1) (ns + 1) (upd xK ns p0) (upd xA ns p1) (upd xB ns p2) bd (upd yK ns p0) (upd yA ns p1) (upd yB ns p2) yb := by
  obtain ⟨h1, h2, ⟨_, e, hs, hb⟩ | h3⟩ := h
  · refine ⟨e, by omega, by omega, Or.inl ⟨rfl, rfl, fun i hi => ?_, hb⟩⟩
    by_cases ei : i = ns
    · subst ei
      rw [pk_us, pk_us, pk_us, pk_us, pk_us, pk_us]
      exact ⟨rfl, rfl, rfl⟩
    · rw [pk_un ei, pk_un ei, pk_un ei, pk_un ei, pk_un ei, pk_un ei]
      exact hs i (by omega)
  · exact absurd h3.1 (by decide)
theorem i_vc_addStep {k : Nat} {u : SX} {v : SY} (I : i_Rel k u v) (hk : k + 5 ≤ 2560) (v1 : Int32) (v2 : Int32) (v3 : Int32) : wpX_addStep (fun r u' => wpY_addStep (fun r' v' => r' = r ∧ i_Rel (k + 5) u' v') v v1 v2 v3) u v1 v2 v3 := by
  obtain ⟨nc, nl, st, sl, kp, ls, ns, bn, kc, kn, sg, pr, a0, a1, ar, cs, ow, xK, xA, xB, bd, yK, yA, yB, yb, kK, kA, kB, kI, zK, zA, zB, zb, lh, ph, x0, x1, x2, x3, y0, y1, y2, y3, X0, X1, X2, X3, X4, X5, X6, X7, X8, Y0, Y1, Y2, Y3, Y4, Y5, Y6, Y7, Y8, rfl, rfl, h⟩ := I
  obtain ⟨h1, h2, h3, h4⟩ := id h
  have R : i_Rel (k + 5) (nI nl, nI nc, nI ns, sl, ls, nI kc, kp, x0, x1, x2, x3, sg, pr, a0, a1, cs, ar, xK, xA, xB, bd, kK, kA, kB, kI, X0, X1, X2, X3, ph, X4, X5, X6, lh, X7, X8) (nI nc, nI nl, kp, nI kn, nI bn, sl, ls, y0, y1, y2, y3, sg, pr, a0, a1, ow, ar, zK, zA, zB, zb, yK, yA, yB, yb, Y0, Y1, Y2, Y3, Y4, Y5, Y6, Y7, Y8) := i_mk h
  rcases cr_sl h3 with rfl | rfl
  · refine br_t rfl ?_
    refine br_c (fun e => br_t rfl (br_t e ⟨rfl, R⟩)) (fun e1 => br_c (fun e2 => ?_) (fun e2 => br_t rfl (br_f e1 (br_f e2 ⟨rfl, R⟩))))
    have hns := h3.1
    have ebn : bn = ns := by
      obtain ⟨_, _, ⟨_, e, _⟩ | h3'⟩ := h3
      · exact e
      · exact absurd h3'.1 (by decide)
    subst ebn
    refine pk_lt bn 256 (fun hlt => ?_) (fun hge => ?_)
    · have hin : vp_in (nI bn) 256 := vp_in_nI hlt (by decide)
      have cl : (nI bn).toNatClampNeg = bn := nI_clamp (by omega)
      rw [cl]
      refine ⟨hin, nm_e ⟨hin, nm_e ⟨hin, nm_e (nm_r (nI_1 bn) ?_)⟩⟩⟩
      refine br_t rfl (br_f e1 (br_t e2 (br_f ?_ ?_)))
      · intro e
        rw [show (256 : Int32) = nI 256 from rfl, nI_eq (by omega) (by omega)] at e
        omega
      · rw [cl]
        refine ⟨hin, nm_e ⟨hin, nm_e ⟨hin, nm_e (nm_r (nI_1 bn) ⟨rfl, ?_⟩)⟩⟩⟩
        exact i_mk (ns := bn + 1) (bn := bn + 1) ⟨h1, h2, (cr_buf_step hlt h3).2, h4⟩
    · have e : bn = 256 := by omega
      refine br_t rfl (br_f e1 (br_t e2 (br_t ?_ ⟨rfl, R⟩)))
      rw [e]
      rfl
  · exact br_f (by decide) (br_f (by decide) ⟨rfl, R⟩)
/-! bind -/
def cb_ok (v1 v2 v3 v4 : Int32) : Prop := (∃ c, c < 256 ∧ v1 = nI c) ∧ (v2 = 2 ∨ v2 = 3) ∧ (∃ t, t < 4 ∧ v4 = nI t) ∧ (¬ v4 < 2 → ∃ d, d < 256 ∧ v3 = nI d)
theorem cb_lt {x N : Int32} {n : Nat} (hN : N.toInt = n) (h1 : ¬ x < 0) (h2 : x < N) : ∃ c, c < n ∧ x = nI c := by
  obtain ⟨j, hj, e⟩ := nI_of h1
  rw [Int32.lt_iff_toInt_lt, hN, e, nI_toInt hj] at h2
  exact ⟨j, by omega, e⟩
theorem cb_23 {x : Int32} (h1 : ¬ x < 2) (h2 : x ≤ 3) : x = 2 ∨ x = 3 := by
  have h0 : ¬ x < 0 := fun z => h1 (Int32.lt_trans z (by decide))
  obtain ⟨j, hj, e⟩ := nI_of h0
  rw [Int32.lt_iff_toInt_lt, show (2 : Int32).toInt = 2 from by decide, e, nI_toInt hj] at h1
  rw [Int32.le_iff_toInt_le, show (3 : Int32).toInt = 3 from by decide, e, nI_toInt hj] at h2
  have : j = 2 ∨ j = 3 := by omega
  rcases this with z | z <;> rw [e, z]
  · exact Or.inl rfl
  · exact Or.inr rfl
section
variable {f_litCount f_clauseCount f_stepCount f_bufferSealed f_lastCheckStep f_keptCount f_proofKept f_openCount f_universeSize f_neededInstances f_givenLiterals : Int32} {a_litSign a_litPred a_litArg0 a_litArg1 a_clauseStart a_predArity a_stepKind a_stepA a_stepB a_binding a_keptKind a_keptA a_keptB a_keptInstance a_openCopy a_openLit a_parentCopy a_parentLit a_pathLength a_atomBase a_instanceLits a_instanceHolds a_literalHolds a_restInstances a_pathLiterals : Nat → Int32}
theorem xb_bind {post : Int32 → SX → Prop} {v1 v2 v3 v4 : Int32} (hb : ¬ cb_ok v1 v2 v3 v4 → post (-1) (f_litCount, f_clauseCount, f_stepCount, 0, f_lastCheckStep, f_keptCount, f_proofKept, f_openCount, f_universeSize, f_neededInstances, f_givenLiterals, a_litSign, a_litPred, a_litArg0, a_litArg1, a_clauseStart, a_predArity, a_stepKind, a_stepA, a_stepB, a_binding, a_keptKind, a_keptA, a_keptB, a_keptInstance, a_openCopy, a_openLit, a_parentCopy, a_parentLit, a_pathLength, a_atomBase, a_instanceLits, a_instanceHolds, a_literalHolds, a_restInstances, a_pathLiterals)) (hg : cb_ok v1 v2 v3 v4 → wX_bind_65 post v1 v2 v3 v4 f_litCount f_clauseCount f_stepCount 0 f_lastCheckStep f_keptCount f_proofKept f_openCount f_universeSize f_neededInstances f_givenLiterals a_litSign a_litPred a_litArg0 a_litArg1 a_clauseStart a_predArity a_stepKind a_stepA a_stepB a_binding a_keptKind a_keptA a_keptB a_keptInstance a_openCopy a_openLit a_parentCopy a_parentLit a_pathLength a_atomBase a_instanceLits a_instanceHolds a_literalHolds a_restInstances a_pathLiterals) :
    wpX_bind post (f_litCount, f_clauseCount, f_stepCount, 0, f_lastCheckStep, f_keptCount, f_proofKept, f_openCount, f_universeSize, f_neededInstances, f_givenLiterals, a_litSign, a_litPred, a_litArg0, a_litArg1, a_clauseStart, a_predArity, a_stepKind, a_stepA, a_stepB, a_binding, a_keptKind, a_keptA, a_keptB, a_keptInstance, a_openCopy, a_openLit, a_parentCopy, a_parentLit, a_pathLength, a_atomBase, a_instanceLits, a_instanceHolds, a_literalHolds, a_restInstances, a_pathLiterals) v1 v2 v3 v4 := by
  refine br_t rfl ?_
  refine br_c (fun h => hb (fun z => ?_)) (fun h1 => br_c (fun h => hb (fun z => ?_)) (fun h2 => br_c (fun h => hb (fun z => ?_)) (fun h3 => br_c (fun h4 => br_c (fun h => hb (fun z => ?_)) (fun h5 => br_c (fun h6 =>
    br_c (fun h7 => hg ?_) (fun h7 => br_c (fun h => hb (fun z => ?_)) (fun h8 => br_c (fun h9 => hg ?_) (fun h => hb (fun z => ?_))))) (fun h => hb (fun z => ?_)))) (fun h => hb (fun z => ?_)))))
  · obtain ⟨c, hc, e⟩ := z.1
    rw [e] at h
    exact nI_pos (by omega) h
  · obtain ⟨c, hc, e⟩ := z.1
    rw [e] at h
    exact nI_ge (b := 256) hc (by decide) h
  · rcases z.2.1 with e | e <;> rw [e] at h <;> exact absurd h (by decide)
  · obtain ⟨c, hc, e⟩ := z.2.2.1
    rw [e] at h
    exact nI_pos (by omega) h
  · exact ⟨cb_lt (n := 256) (N := 256) (by decide) h1 (Int32.not_le.mp h2), cb_23 h3 h4, cb_lt (n := 4) (N := 4) (by decide) h5 (Int32.lt_of_le_of_lt h6 (by decide)), fun z => absurd h7 z⟩
  · obtain ⟨c, hc, e⟩ := z.2.2.2 h7
    rw [e] at h
    exact nI_pos (by omega) h
  · exact ⟨cb_lt (n := 256) (N := 256) (by decide) h1 (Int32.not_le.mp h2), cb_23 h3 h4, cb_lt (n := 4) (N := 4) (by decide) h5 (Int32.lt_of_le_of_lt h6 (by decide)), fun _ => cb_lt (n := 256) (N := 256) (by decide) h8 h9⟩
  · obtain ⟨c, hc, e⟩ := z.2.2.2 h7
    rw [e] at h
    exact h (nI_lt (b := 256) hc (by decide))
  · obtain ⟨c, hc, e⟩ := z.2.2.1
    rw [e] at h
    exact h (nI_le (b := 3) (by omega) (by decide))
  · rcases z.2.1 with e | e <;> rw [e] at h <;> exact absurd (by decide) h
end
section
variable {f_clauseCount f_litCount f_kept f_kN f_bN f_sealed f_lastStep f_cNodes f_cSp f_pNodes f_pSp : Int32} {a_lSign a_lPred a_lA0 a_lA1 a_lOwner a_arity a_kKind a_kA a_kB a_kBind a_bKind a_bA a_bB a_bBind a_cCopy a_cLit a_cPar a_cStk a_cl a_gtab a_pLit a_pPar a_pStk : Nat → Int32}
theorem yb_bind {post : Int32 → SY → Prop} {v1 v2 v3 v4 : Int32} (hb : ¬ cb_ok v1 v2 v3 v4 → post (-1) (f_clauseCount, f_litCount, f_kept, f_kN, f_bN, 0, f_lastStep, f_cNodes, f_cSp, f_pNodes, f_pSp, a_lSign, a_lPred, a_lA0, a_lA1, a_lOwner, a_arity, a_kKind, a_kA, a_kB, a_kBind, a_bKind, a_bA, a_bB, a_bBind, a_cCopy, a_cLit, a_cPar, a_cStk, a_cl, a_gtab, a_pLit, a_pPar, a_pStk)) (hg : cb_ok v1 v2 v3 v4 → wY_bind_67 post v1 v2 v3 v4 f_clauseCount f_litCount f_kept f_kN f_bN 0 f_lastStep f_cNodes f_cSp f_pNodes f_pSp a_lSign a_lPred a_lA0 a_lA1 a_lOwner a_arity a_kKind a_kA a_kB a_kBind a_bKind a_bA a_bB a_bBind a_cCopy a_cLit a_cPar a_cStk a_cl a_gtab a_pLit a_pPar a_pStk) :
    wpY_bind post (f_clauseCount, f_litCount, f_kept, f_kN, f_bN, 0, f_lastStep, f_cNodes, f_cSp, f_pNodes, f_pSp, a_lSign, a_lPred, a_lA0, a_lA1, a_lOwner, a_arity, a_kKind, a_kA, a_kB, a_kBind, a_bKind, a_bA, a_bB, a_bBind, a_cCopy, a_cLit, a_cPar, a_cStk, a_cl, a_gtab, a_pLit, a_pPar, a_pStk) v1 v2 v3 v4 := by
  have part : ¬ v1 < 0 → v1 ≤ 255 → (v2 = 2 ∨ v2 = 3) → wY_bind_35 post v1 v2 v3 v4 f_clauseCount f_litCount f_kept f_kN f_bN 0 f_lastStep f_cNodes f_cSp f_pNodes f_pSp a_lSign a_lPred a_lA0 a_lA1 a_lOwner a_arity a_kKind a_kA a_kB a_kBind a_bKind a_bA a_bB a_bBind a_cCopy a_cLit a_cPar a_cStk a_cl a_gtab a_pLit a_pPar a_pStk := by
    intro h1 h2 h3
    have c1 : ∃ c, c < 256 ∧ v1 = nI c := cb_lt (n := 256) (N := 256) (by decide) h1 (Int32.lt_of_le_of_lt h2 (by decide))
    refine br_c (fun h => hb (fun z => ?_)) (fun h5 => br_c (fun h6 => br_c (fun h7 => hg ?_) (fun h7 => br_c (fun h => hb (fun z => ?_)) (fun h8 => br_c (fun h9 => hg ?_) (fun h => hb (fun z => ?_))))) (fun h => hb (fun z => ?_)))
    · obtain ⟨c, hc, e⟩ := z.2.2.1
      rw [e] at h
      exact nI_pos (by omega) h
    · exact ⟨c1, h3, cb_lt (n := 4) (N := 4) (by decide) h5 (Int32.lt_of_le_of_lt h6 (by decide)), fun z => absurd h7 z⟩
    · obtain ⟨c, hc, e⟩ := z.2.2.2 h7
      rw [e] at h
      exact nI_pos (by omega) h
    · exact ⟨c1, h3, cb_lt (n := 4) (N := 4) (by decide) h5 (Int32.lt_of_le_of_lt h6 (by decide)), fun _ => cb_lt (n := 256) (N := 256) (by decide) h8 (Int32.lt_of_le_of_lt h9 (by decide))⟩
    · obtain ⟨c, hc, e⟩ := z.2.2.2 h7
      rw [e] at h
      exact h (nI_le (b := 255) (by omega) (by decide))
    · obtain ⟨c, hc, e⟩ := z.2.2.1
      rw [e] at h
      exact h (nI_le (b := 3) (by omega) (by decide))
  refine br_t rfl ?_
  refine br_c (fun h => hb (fun z => ?_)) (fun h1 => br_c (fun h2 => br_c (fun h3 => part h1 h2 (Or.inl h3)) (fun h3 => br_c (fun h4 => part h1 h2 (Or.inr h4)) (fun h4 => hb (fun z => ?_)))) (fun h => hb (fun z => ?_)))
  · obtain ⟨c, hc, e⟩ := z.1
    rw [e] at h
    exact nI_pos (by omega) h
  · exact z.2.1.elim h3 h4
  · obtain ⟨c, hc, e⟩ := z.1
    rw [e] at h
    exact h (nI_le (b := 255) (by omega) (by decide))
end
theorem cr_bx_put {b : Nat → Nat} {bd : Nat → Int32} (h : cr_bx b bd) {t v : Nat} (h2 : 2 ≤ t) (hv : v < 514) : cr_bx (cd_put b t v) (upd bd t (nI v)) := by
  obtain ⟨b0, b1, hb⟩ := h
  refine ⟨by rw [cd_put_n (by omega)]; exact b0, by rw [cd_put_n (by omega)]; exact b1, fun s hs => ?_⟩
  by_cases e : s = t
  · subst e
    rw [cd_put_s, pk_us]
    exact ⟨hv, rfl⟩
  · rw [cd_put_n e, pk_un e]
    exact hb s hs
theorem cr_by_put {b : Nat → Nat} {yb : Nat → Int32} (h : cr_by b yb) {t v : Nat} {x : Int32} (h2 : 2 ≤ t) (hv : v < 514) (hx : x = if v = t then -1 else nI v) :
    cr_by (cd_put b t v) (upd yb (t - 2) x) := by
  obtain ⟨b0, b1, hb⟩ := h
  refine ⟨by rw [cd_put_n (by omega)]; exact b0, by rw [cd_put_n (by omega)]; exact b1, fun s hs => ?_⟩
  by_cases e : s = t
  · subst e
    rw [cd_put_s]
    exact ⟨hv, fun _ => by rw [pk_us]; exact hx⟩
  · rw [cd_put_n e]
    refine ⟨(hb s hs).1, fun hs2 => ?_⟩
    rw [pk_un (by omega)]
    exact (hb s hs).2 hs2
theorem cr_buf_bind {nc : Nat} {st : Nat → Nat} {sg pr a0 a1 : Nat → Int32} {ns bn : Nat} {xK xA xB bd yK yA yB yb : Nat → Int32} {t v : Nat} {x : Int32} (h2 : 2 ≤ t) (hv : v < 514)
    (hx : x = if v = t then -1 else nI v) (h : cr_buf nc st sg pr a0 a1 0 ns bn xK xA xB bd yK yA yB yb) :
    cr_buf nc st sg pr a0 a1 0 ns bn xK xA xB (upd bd t (nI v)) yK yA yB (upd yb (t - 2) x) := by
  obtain ⟨h1, h2', ⟨_, e, hs, b, hbx, hby⟩ | h3⟩ := h
  · exact ⟨h1, h2', Or.inl ⟨rfl, e, hs, _, cr_bx_put hbx h2 hv, cr_by_put hby h2 hv hx⟩⟩
  · exact absurd h3.1 (by decide)
theorem i_vc_bind {k : Nat} {u : SX} {v : SY} (I : i_Rel k u v) (hk : k + 5 ≤ 2560) (v1 : Int32) (v2 : Int32) (v3 : Int32) (v4 : Int32) : wpX_bind (fun r u' => wpY_bind (fun r' v' => r' = r ∧ i_Rel (k + 5) u' v') v v1 v2 v3 v4) u v1 v2 v3 v4 := by
  obtain ⟨nc, nl, st, sl, kp, ls, ns, bn, kc, kn, sg, pr, a0, a1, ar, cs, ow, xK, xA, xB, bd, yK, yA, yB, yb, kK, kA, kB, kI, zK, zA, zB, zb, lh, ph, x0, x1, x2, x3, y0, y1, y2, y3, X0, X1, X2, X3, X4, X5, X6, X7, X8, Y0, Y1, Y2, Y3, Y4, Y5, Y6, Y7, Y8, rfl, rfl, h⟩ := I
  obtain ⟨h1, h2, h3, h4⟩ := id h
  have R : i_Rel (k + 5) (nI nl, nI nc, nI ns, sl, ls, nI kc, kp, x0, x1, x2, x3, sg, pr, a0, a1, cs, ar, xK, xA, xB, bd, kK, kA, kB, kI, X0, X1, X2, X3, ph, X4, X5, X6, lh, X7, X8) (nI nc, nI nl, kp, nI kn, nI bn, sl, ls, y0, y1, y2, y3, sg, pr, a0, a1, ow, ar, zK, zA, zB, zb, yK, yA, yB, yb, Y0, Y1, Y2, Y3, Y4, Y5, Y6, Y7, Y8) := i_mk h
  rcases cr_sl h3 with rfl | rfl
  · refine xb_bind (fun hz => yb_bind (fun _ => ⟨rfl, R⟩) (fun z => absurd z hz)) (fun hz => ?_)
    have Yg : ∀ {post : Int32 → SY → Prop}, wY_bind_67 post v1 v2 v3 v4 (nI nc) (nI nl) kp (nI kn) (nI bn) 0 ls y0 y1 y2 y3 sg pr a0 a1 ow ar zK zA zB zb yK yA yB yb Y0 Y1 Y2 Y3 Y4 Y5 Y6 Y7 Y8 → wpY_bind post (nI nc, nI nl, kp, nI kn, nI bn, 0, ls, y0, y1, y2, y3, sg, pr, a0, a1, ow, ar, zK, zA, zB, zb, yK, yA, yB, yb, Y0, Y1, Y2, Y3, Y4, Y5, Y6, Y7, Y8) v1 v2 v3 v4 := fun hh => yb_bind (fun z => absurd hz z) (fun _ => hh)
    obtain ⟨⟨c, hc, rfl⟩, hw, ⟨t, ht, rfl⟩, hd⟩ := hz
    obtain ⟨w, hw2, rfl⟩ : ∃ w, (w = 2 ∨ w = 3) ∧ v2 = nI w := by
      rcases hw with e | e
      · exact ⟨2, Or.inl rfl, e⟩
      · exact ⟨3, Or.inr rfl, e⟩
    have hw3 : 2 ≤ w ∧ w ≤ 3 := by omega
    have eX : (2 : Int32) * nI c + nI w = nI (2 * c + w) := by
      rw [show (2 : Int32) = nI 2 from rfl, pk_mul, nI_add]
    have eY : nI c * 2 + (nI w - 2) = nI (2 * c + w - 2) := by
      rw [show (2 : Int32) = nI 2 from rfl, pk_mul, pk_sub hw3.1, nI_add]
      exact congrArg nI (by omega)
    have inX : vp_in (nI (2 * c + w)) 514 := vp_in_nI (by omega) (by decide)
    have inY : vp_in (nI (2 * c + w - 2)) 512 := vp_in_nI (by omega) (by decide)
    have cX : (nI (2 * c + w)).toNatClampNeg = 2 * c + w := nI_clamp (by omega)
    have cY : (nI (2 * c + w - 2)).toNatClampNeg = 2 * c + w - 2 := nI_clamp (by omega)
    by_cases hlt : t < 2
    · have n2 : nI t < 2 := nI_lt (b := 2) hlt (by decide)
      refine br_t n2 ?_
      rw [eX, cX]
      refine ⟨inX, nm_e ?_⟩
      refine Yg (nm_r eY ?_)
      rw [cY]
      refine br_f (nI_ge (b := 2) hlt (by decide)) ⟨inY, nm_e ⟨rfl, ?_⟩⟩
      exact i_mk ⟨h1, h2, cr_buf_bind (by omega) (by omega) (by rw [if_neg (by omega)]) h3, h4⟩
    · have n2 : ¬ nI t < 2 := nI_nlt (b := 2) (by omega) (by omega)
      obtain ⟨d, hd2, rfl⟩ := hd n2
      have eT : (2 : Int32) * nI d + nI t = nI (2 * d + t) := by
        rw [show (2 : Int32) = nI 2 from rfl, pk_mul, nI_add]
      have eT2 : (2 + nI d * 2) + (nI t - 2) = nI (2 * d + t) := by
        rw [show (2 : Int32) = nI 2 from rfl, pk_mul, pk_sub (by omega), nI_add, nI_add]
        exact congrArg nI (by omega)
      refine br_f n2 ?_
      rw [eX, cX, eT]
      refine ⟨inX, nm_e ?_⟩
      refine Yg (nm_r eY ?_)
      refine br_t (nI_le (b := t) (a := 2) (by omega) (by omega)) ?_
      have other : ¬ (2 * d + t = 2 * c + w) → wY_bind_116 (fun r' v' => r' = 0 ∧ i_Rel (k + 5) (nI nl, nI nc, nI ns, 0, ls, nI kc, kp, x0, x1, x2, x3, sg, pr, a0, a1, cs, ar, xK, xA, xB, upd bd (2 * c + w) (nI (2 * d + t)), kK, kA, kB, kI, X0, X1, X2, X3, ph, X4, X5, X6, lh, X7, X8) v') (nI d) (nI t) (nI (2 * c + w - 2)) (nI nc) (nI nl) kp (nI kn) (nI bn) 0 ls y0 y1 y2 y3 sg pr a0 a1 ow ar zK zA zB zb yK yA yB yb Y0 Y1 Y2 Y3 Y4 Y5 Y6 Y7 Y8 := by
        intro hne
        unfold wY_bind_116
        rw [cY, eT2]
        refine ⟨inY, nm_e ⟨rfl, ?_⟩⟩
        exact i_mk ⟨h1, h2, cr_buf_bind (by omega) (by omega) (by rw [if_neg hne]) h3, h4⟩
      refine pk_eq d c (fun e => pk_eq t w (fun e2 => ?_) (fun e2 => other (by omega))) (fun e => other (by omega))
      rw [cY]
      refine ⟨inY, nm_e ⟨rfl, ?_⟩⟩
      exact i_mk ⟨h1, h2, cr_buf_bind (by omega) (by omega) (by rw [if_pos (by omega)]) h3, h4⟩
  · exact br_f (by decide) (br_f (by decide) ⟨rfl, R⟩)
