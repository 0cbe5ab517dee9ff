section
variable {f_clauseCount f_litCount f_kept f_kN f_bN f_sealed f_lastStep f_cNodes f_cSp f_pNodes f_pSp : Int32} {a_lSign a_lPred a_lA0 a_lA1 a_lOwner a_arity a_kKind a_kA a_kB a_kBind a_bKind a_bA a_bB a_bBind a_cCopy a_cLit a_cPar a_cStk a_cl a_gtab a_pLit a_pPar a_pStk : Nat → Int32}
theorem yj_conn {post : Int32 → SY → Prop} {nc nl : Nat} {st : Nat → Nat} (hw : cd_wf nc nl st a_lSign a_lPred a_lA0 a_lA1 a_arity) {b : Nat → Nat} (hb : cr_by b a_bBind)
    {M g c l c2 l2 : Nat} {x1 x3 x4 : Int32} (hM : M ≤ nl) (hg : g < 520) (eC : a_cCopy g = nI c) (eL : a_cLit g = nI l) (hc : c < 256) (hl : l < M) (hc2 : c2 < 256) (hl2 : l2 < M)
    (h0 : ck_conn (cd_mk M a_lSign) (cd_mk M a_lPred) (cd_mk M a_lA0) (cd_mk M a_lA1) b c l c2 l2 = 0 → ((x3 = 1 → (wpY_pushCopy (fun u => post 0 u) (f_clauseCount, f_litCount, f_kept, f_kN, f_bN, f_sealed, f_lastStep, f_cNodes, f_cSp, f_pNodes, f_pSp, a_lSign, a_lPred, a_lA0, a_lA1, a_lOwner, a_arity, a_kKind, a_kA, a_kB, a_kBind, a_bKind, a_bA, a_bB, a_bBind, a_cCopy, a_cLit, a_cPar, a_cStk, a_cl, a_gtab, a_pLit, a_pPar, a_pStk) x1 x4 (nI l2) (nI g))) ∧ (¬ x3 = 1 → (post 0 (f_clauseCount, f_litCount, f_kept, f_kN, f_bN, f_sealed, f_lastStep, f_cNodes, f_cSp, f_pNodes, f_pSp, a_lSign, a_lPred, a_lA0, a_lA1, a_lOwner, a_arity, a_kKind, a_kA, a_kB, a_kBind, a_bKind, a_bA, a_bB, a_bBind, a_cCopy, a_cLit, a_cPar, a_cStk, a_cl, a_gtab, a_pLit, a_pPar, a_pStk)))))
    (h1 : ¬ ck_conn (cd_mk M a_lSign) (cd_mk M a_lPred) (cd_mk M a_lA0) (cd_mk M a_lA1) b c l c2 l2 = 0 → post (ck_conn (cd_mk M a_lSign) (cd_mk M a_lPred) (cd_mk M a_lA0) (cd_mk M a_lA1) b c l c2 l2) (f_clauseCount, f_litCount, f_kept, f_kN, f_bN, f_sealed, f_lastStep, f_cNodes, f_cSp, f_pNodes, f_pSp, a_lSign, a_lPred, a_lA0, a_lA1, a_lOwner, a_arity, a_kKind, a_kA, a_kB, a_kBind, a_bKind, a_bA, a_bB, a_bBind, a_cCopy, a_cLit, a_cPar, a_cStk, a_cl, a_gtab, a_pLit, a_pPar, a_pStk)) :
    wY_stepCheck_192 post x1 (nI g) x3 x4 (nI c2) (nI l2) f_clauseCount f_litCount f_kept f_kN f_bN f_sealed f_lastStep f_cNodes f_cSp f_pNodes f_pSp a_lSign a_lPred a_lA0 a_lA1 a_lOwner a_arity a_kKind a_kA a_kB a_kBind a_bKind a_bA a_bB a_bBind a_cCopy a_cLit a_cPar a_cStk a_cl a_gtab a_pLit a_pPar a_pStk := by
  have hnl := hw.2.1
  have ing : vp_in (nI g) 520 := vp_in_nI hg (by decide)
  have clg : (nI g).toNatClampNeg = g := nI_clamp (by omega)
  have in1 : vp_in (nI l) 16 := vp_in_nI (by omega) (by decide)
  have in2 : vp_in (nI l2) 16 := vp_in_nI (by omega) (by decide)
  have cl1 : (nI l).toNatClampNeg = l := nI_clamp (by omega)
  have cl2 : (nI l2).toNatClampNeg = l2 := nI_clamp (by omega)
  unfold ck_conn at h0 h1
  rw [cd_mk_lt hl, cd_mk_lt hl, cd_mk_lt hl, cd_mk_lt hl, cd_mk_lt hl2, cd_mk_lt hl2] at h0 h1
  refine ⟨ing, ?_⟩
  rw [clg, eL]
  refine nm_e ⟨in1, in2, ?_⟩
  rw [cl1, cl2]
  refine br_c (fun e => ?_) (fun e => ⟨in1, in2, br_c (fun ep => ?_) (fun ep => ?_)⟩)
  · rw [if_pos (Or.inl e)] at h1
    exact h1 (by decide)
  · rw [if_neg (fun z => z.elim e (fun y => y ep))] at h0 h1
    obtain ⟨_, ⟨p, hp4, epr, ear⟩, _⟩ := hw.2.2.2.2.2.2.1 l (by omega)
    obtain ⟨ha2, harg⟩ := cd_arg hw (show l < nl by omega)
    obtain ⟨_, harg2⟩ := cd_arg hw (show l2 < nl by omega)
    rw [← cd_ar_eq hw (by omega) (by omega) ep] at harg2
    rw [epr, nI_clamp (show p < 2 ^ 31 by omega), ear]
    refine ⟨in1, vp_in_nI hp4 (by decide), nm_e ?_⟩
    have key : ∀ (r pos : Nat), pos + r = ck_ar (a_lA0 l) (a_lA1 l) →
        (ck_ps b (fun p => ck_tm c (ck_ag (cd_mk M a_lA0) (cd_mk M a_lA1) l p)) (fun p => ck_tm c2 (ck_ag (cd_mk M a_lA0) (cd_mk M a_lA1) l2 p)) r pos = 0 → ((x3 = 1 → (wpY_pushCopy (fun u => post 0 u) (f_clauseCount, f_litCount, f_kept, f_kN, f_bN, f_sealed, f_lastStep, f_cNodes, f_cSp, f_pNodes, f_pSp, a_lSign, a_lPred, a_lA0, a_lA1, a_lOwner, a_arity, a_kKind, a_kA, a_kB, a_kBind, a_bKind, a_bA, a_bB, a_bBind, a_cCopy, a_cLit, a_cPar, a_cStk, a_cl, a_gtab, a_pLit, a_pPar, a_pStk) x1 x4 (nI l2) (nI g))) ∧ (¬ x3 = 1 → (post 0 (f_clauseCount, f_litCount, f_kept, f_kN, f_bN, f_sealed, f_lastStep, f_cNodes, f_cSp, f_pNodes, f_pSp, a_lSign, a_lPred, a_lA0, a_lA1, a_lOwner, a_arity, a_kKind, a_kA, a_kB, a_kBind, a_bKind, a_bA, a_bB, a_bBind, a_cCopy, a_cLit, a_cPar, a_cStk, a_cl, a_gtab, a_pLit, a_pPar, a_pStk))))) →
        (¬ ck_ps b (fun p => ck_tm c (ck_ag (cd_mk M a_lA0) (cd_mk M a_lA1) l p)) (fun p => ck_tm c2 (ck_ag (cd_mk M a_lA0) (cd_mk M a_lA1) l2 p)) r pos = 0 → post (ck_ps b (fun p => ck_tm c (ck_ag (cd_mk M a_lA0) (cd_mk M a_lA1) l p)) (fun p => ck_tm c2 (ck_ag (cd_mk M a_lA0) (cd_mk M a_lA1) l2 p)) r pos) (f_clauseCount, f_litCount, f_kept, f_kN, f_bN, f_sealed, f_lastStep, f_cNodes, f_cSp, f_pNodes, f_pSp, a_lSign, a_lPred, a_lA0, a_lA1, a_lOwner, a_arity, a_kKind, a_kA, a_kB, a_kBind, a_bKind, a_bA, a_bB, a_bBind, a_cCopy, a_cLit, a_cPar, a_cStk, a_cl, a_gtab, a_pLit, a_pPar, a_pStk)) →
        wY_stepCheck_254 post x1 (nI g) x3 x4 (nI c2) (nI l2) (nI l) (nI (ck_ar (a_lA0 l) (a_lA1 l))) f_clauseCount f_litCount f_kept f_kN f_bN f_sealed f_lastStep f_cNodes f_cSp f_pNodes f_pSp a_lSign a_lPred a_lA0 a_lA1 a_lOwner a_arity a_kKind a_kA a_kB a_kBind a_bKind a_bA a_bB a_bBind a_cCopy a_cLit a_cPar a_cStk a_cl a_gtab a_pLit a_pPar a_pStk (r + 1) (nI pos) := by
      intro r
      induction r with
      | zero =>
        intro pos hpos hh0 _
        exact br_t (nI_le (by omega) (by omega)) (hh0 rfl)
      | succ r ih =>
        intro pos hpos hh0 hh1
        refine br_f (nI_ge (show pos < ck_ar (a_lA0 l) (a_lA1 l) by omega) (by omega)) ⟨ing, ?_⟩
        obtain ⟨t, ht, et, eg⟩ := harg pos (by omega)
        obtain ⟨t2, ht2, et2, eg2⟩ := harg2 pos (by omega)
        have m1 : ck_ag (cd_mk M a_lA0) (cd_mk M a_lA1) l pos = t := by
          rw [← eg]; unfold ck_ag; rw [cd_mk_lt hl, cd_mk_lt hl]
        have m2 : ck_ag (cd_mk M a_lA0) (cd_mk M a_lA1) l2 pos = t2 := by
          rw [← eg2]; unfold ck_ag; rw [cd_mk_lt hl2, cd_mk_lt hl2]
        rw [ck_ps] at hh0 hh1
        try dsimp only at hh0 hh1
        rw [m1, m2] at hh0 hh1
        have hbt : ∀ t, t < 514 → b t < 514 := fun t ht => (hb.2.2 t ht).1
        have tm1 : ck_tm c t < 514 := by unfold ck_tm; split <;> omega
        have tm2 : ck_tm c2 t2 < 514 := by unfold ck_tm; split <;> omega
        -- behind both resolutions
        have tail : (ck_ry (ck_res b 513 (ck_tm c t)) = (-2) → post (-17) (f_clauseCount, f_litCount, f_kept, f_kN, f_bN, f_sealed, f_lastStep, f_cNodes, f_cSp, f_pNodes, f_pSp, a_lSign, a_lPred, a_lA0, a_lA1, a_lOwner, a_arity, a_kKind, a_kA, a_kB, a_kBind, a_bKind, a_bA, a_bB, a_bBind, a_cCopy, a_cLit, a_cPar, a_cStk, a_cl, a_gtab, a_pLit, a_pPar, a_pStk)) ∧ (¬ ck_ry (ck_res b 513 (ck_tm c t)) = (-2) → ((ck_ry (ck_res b 513 (ck_tm c2 t2)) = (-2) → post (-17) (f_clauseCount, f_litCount, f_kept, f_kN, f_bN, f_sealed, f_lastStep, f_cNodes, f_cSp, f_pNodes, f_pSp, a_lSign, a_lPred, a_lA0, a_lA1, a_lOwner, a_arity, a_kKind, a_kA, a_kB, a_kBind, a_bKind, a_bA, a_bB, a_bBind, a_cCopy, a_cLit, a_cPar, a_cStk, a_cl, a_gtab, a_pLit, a_pPar, a_pStk)) ∧ (¬ ck_ry (ck_res b 513 (ck_tm c2 t2)) = (-2) → ((ck_ry (ck_res b 513 (ck_tm c t)) = ck_ry (ck_res b 513 (ck_tm c2 t2)) → (∀ x9_179 : Int32, x9_179 = nI pos + 1 → wY_stepCheck_254 post x1 (nI g) x3 x4 (nI c2) (nI l2) (nI l) (nI (ck_ar (a_lA0 l) (a_lA1 l))) f_clauseCount f_litCount f_kept f_kN f_bN f_sealed f_lastStep f_cNodes f_cSp f_pNodes f_pSp a_lSign a_lPred a_lA0 a_lA1 a_lOwner a_arity a_kKind a_kA a_kB a_kBind a_bKind a_bA a_bB a_bBind a_cCopy a_cLit a_cPar a_cStk a_cl a_gtab a_pLit a_pPar a_pStk (r + 1) x9_179)) ∧ (¬ ck_ry (ck_res b 513 (ck_tm c t)) = ck_ry (ck_res b 513 (ck_tm c2 t2)) → post (-16) (f_clauseCount, f_litCount, f_kept, f_kN, f_bN, f_sealed, f_lastStep, f_cNodes, f_cSp, f_pNodes, f_pSp, a_lSign, a_lPred, a_lA0, a_lA1, a_lOwner, a_arity, a_kKind, a_kA, a_kB, a_kBind, a_bKind, a_bA, a_bB, a_bBind, a_cCopy, a_cLit, a_cPar, a_cStk, a_cl, a_gtab, a_pLit, a_pPar, a_pStk)))))) := by
          cases o1 : ck_res b 513 (ck_tm c t) with
          | none =>
            rw [o1] at hh1
            exact br_t rfl (hh1 (fun z => absurd (show (-17 : Int32) = 0 from z) (by decide)))
          | some x =>
            have hx := ck_res_lt hbt 513 _ tm1 x o1
            rw [o1] at hh0 hh1
            refine br_f (ck_ry_some hx) ?_
            cases o2 : ck_res b 513 (ck_tm c2 t2) with
            | none =>
              rw [o2] at hh1
              exact br_t rfl (hh1 (fun z => absurd (show (-17 : Int32) = 0 from z) (by decide)))
            | some y =>
              have hy := ck_res_lt hbt 513 _ tm2 y o2
              rw [o2] at hh0 hh1
              try dsimp only at hh0 hh1
              refine br_f (ck_ry_some hy) ?_
              refine pk_eq x y (fun e => ?_) (fun e => ?_)
              · rw [if_pos e] at hh0 hh1
                exact nm_r (nI_1 pos) (ih (pos + 1) (by omega) hh0 hh1)
              · rw [if_neg e] at hh1
                exact hh1 (by decide)
        have hp2 : pos = 0 ∨ pos = 1 := by omega
        rcases hp2 with z | z
        · subst z
          rw [if_pos rfl] at et et2
          rw [et] at tail
          refine br_t rfl ⟨in1, ?_⟩
          rw [cl1, et, clg, eC]
          refine yr_res hb hc ht ?_
          refine br_t rfl ⟨in2, ?_⟩
          rw [cl2, et2]
          exact yr_res hb hc2 ht2 tail
        · subst z
          rw [if_neg (by decide)] at et et2
          rw [et] at tail
          refine br_f (by decide) ⟨in1, ?_⟩
          rw [cl1, et, clg, eC]
          refine yr_res hb hc ht ?_
          refine br_f (by decide) ⟨in2, ?_⟩
          rw [cl2, et2]
          exact yr_res hb hc2 ht2 tail
    exact ⟨_, key _ 0 (by omega) h0 h1⟩
  · rw [if_pos (Or.inr ep)] at h1
    exact h1 (by decide)
theorem yj_depth {post : Int32 → Prop} {M m : Nat} : ∀ (p : List (Nat × Nat)) (g c l d t : Nat), yc_nd a_cCopy a_cLit a_cPar M m p g c l → g < 520 → t + p.length ≤ 520 → d + p.length < 2 ^ 30 → post (nI (d + p.length)) →
    wY_cDepth_12 post f_clauseCount f_litCount f_kept f_kN f_bN f_sealed f_lastStep f_cNodes f_cSp f_pNodes f_pSp a_lSign a_lPred a_lA0 a_lA1 a_lOwner a_arity a_kKind a_kA a_kB a_kBind a_bKind a_bA a_bB a_bBind a_cCopy a_cLit a_cPar a_cStk a_cl a_gtab a_pLit a_pPar a_pStk (p.length + 1) (nI d) (a_cPar g) (nI t)
  | [], g, c, l, d, t, h, hg, ht, hd, hp => by
    rw [h.2.2.2.2]
    exact br_c (fun _ => hp) (fun _ => br_t (by decide) hp)
  | e :: p, g, c, l, d, t, h, hg, ht, hd, hp => by
    obtain ⟨_, _, _, _, g', h1, h2, h3⟩ := h
    rw [List.length_cons] at ht hd hp
    rw [h2]
    refine br_f (nI_ge (b := 520) (by omega) (by decide)) (br_f (nI_pos (by omega)) (nm_r (nI_1 d) ⟨vp_in_nI (by omega) (by decide), ?_⟩))
    rw [nI_clamp (show g' < 2 ^ 31 by omega)]
    refine nm_e (nm_r (nI_1 t) ?_)
    refine yj_depth p g' e.1 e.2 (d + 1) (t + 1) h3 (by omega) (by omega) (by omega) ?_
    have e1 : d + 1 + p.length = d + (p.length + 1) := by omega
    rw [e1]
    exact hp
theorem yj_up {post : Int32 → SY → Prop} {M m T : Nat} {x1 x2 x3 x4 x7 : Int32} (eT : x7 - x4 = nI T) (hT : T < 2 ^ 30) : ∀ (n : Nat) (p : List (Nat × Nat)) (g c l t : Nat), yc_nd a_cCopy a_cLit a_cPar M m p g c l → g < 520 → n ≤ p.length → t + n = T →
    wY_stepCheck_192 post x1 x2 x3 x4 (nI (((c, l) :: p).getD n (0, 0)).1) (nI (((c, l) :: p).getD n (0, 0)).2) f_clauseCount f_litCount f_kept f_kN f_bN f_sealed f_lastStep f_cNodes f_cSp f_pNodes f_pSp a_lSign a_lPred a_lA0 a_lA1 a_lOwner a_arity a_kKind a_kA a_kB a_kBind a_bKind a_bA a_bB a_bBind a_cCopy a_cLit a_cPar a_cStk a_cl a_gtab a_pLit a_pPar a_pStk → wY_stepCheck_149 post x1 x2 x3 x4 x7 f_clauseCount f_litCount f_kept f_kN f_bN f_sealed f_lastStep f_cNodes f_cSp f_pNodes f_pSp a_lSign a_lPred a_lA0 a_lA1 a_lOwner a_arity a_kKind a_kA a_kB a_kBind a_bKind a_bA a_bB a_bBind a_cCopy a_cLit a_cPar a_cStk a_cl a_gtab a_pLit a_pPar a_pStk (n + 1) (nI g) (nI t)
  | 0, p, g, c, l, t, h, hg, _, ht, hh => by
    obtain ⟨eC, eL, _, _⟩ := yc_nd_hd h
    have ing : vp_in (nI g) 520 := vp_in_nI hg (by decide)
    have clg : (nI g).toNatClampNeg = g := nI_clamp (by omega)
    refine br_t (by rw [eT]; exact nI_le (by omega) (by omega)) ⟨ing, ?_⟩
    rw [clg, eC, eL]
    exact nm_e ⟨ing, nm_e hh⟩
  | n + 1, [], _, _, _, _, _, _, hn, _, _ => absurd hn (Nat.not_succ_le_zero n)
  | n + 1, e :: p, g, c, l, t, h, hg, hn, ht, hh => by
    obtain ⟨_, _, _, _, g', h1, h2, h3⟩ := h
    rw [List.length_cons] at hn
    refine br_f (by rw [eT]; exact nI_ge (by omega) (by omega)) ⟨vp_in_nI hg (by decide), ?_⟩
    rw [nI_clamp (show g < 2 ^ 31 by omega)]
    refine nm_r h2 (nm_r (nI_1 t) ?_)
    rw [List.getD_cons_succ] at hh
    exact yj_up eT hT n p g' e.1 e.2 (t + 1) h3 (by omega) (by omega) (by omega) hh
/-- one step of the check -/
theorem yj_step {post : Int32 → SY → Prop} {nc nl : Nat} {st : Nat → Nat} (hw : cd_wf nc nl st a_lSign a_lPred a_lA0 a_lA1 a_arity) (how : cd_own nc nl st a_lOwner)
    {b : Nat → Nat} (hb : cr_by b a_bBind) {i N : Nat} (h1 : 1 ≤ i) (hi : i < 256) (hN : N ≤ 2 * i + 1)
    {L : List ck_G} (hL : yc_stk a_cCopy a_cLit a_cPar a_cStk (st nc) i N L) (hlen : L.length ≤ N)
    (h : ∀ (r y0 y1 : Int32) (cC cL cP cS : Nat → Int32), r = (ck_step nc st (cd_mk (st nc) a_lSign) (cd_mk (st nc) a_lPred) (cd_mk (st nc) a_lA0) (cd_mk (st nc) a_lA1) a_bKind a_bA a_bB b i L).1 →
      (r = 0 → ∃ N', y0 = nI N' ∧ N' ≤ 2 * (i + 1) + 1 ∧ y1 = nI (ck_step nc st (cd_mk (st nc) a_lSign) (cd_mk (st nc) a_lPred) (cd_mk (st nc) a_lA0) (cd_mk (st nc) a_lA1) a_bKind a_bA a_bB b i L).2.length ∧
        (ck_step nc st (cd_mk (st nc) a_lSign) (cd_mk (st nc) a_lPred) (cd_mk (st nc) a_lA0) (cd_mk (st nc) a_lA1) a_bKind a_bA a_bB b i L).2.length ≤ N' ∧
        yc_stk cC cL cP cS (st nc) (i + 1) N' (ck_step nc st (cd_mk (st nc) a_lSign) (cd_mk (st nc) a_lPred) (cd_mk (st nc) a_lA0) (cd_mk (st nc) a_lA1) a_bKind a_bA a_bB b i L).2) →
      post r (nI nc, nI nl, f_kept, f_kN, f_bN, f_sealed, f_lastStep, y0, y1, f_pNodes, f_pSp, a_lSign, a_lPred, a_lA0, a_lA1, a_lOwner, a_arity, a_kKind, a_kA, a_kB, a_kBind, a_bKind, a_bA, a_bB, a_bBind, cC, cL, cP, cS, a_cl, a_gtab, a_pLit, a_pPar, a_pStk)) :
    wpY_stepCheck post (nI nc, nI nl, f_kept, f_kN, f_bN, f_sealed, f_lastStep, nI N, nI L.length, f_pNodes, f_pSp, a_lSign, a_lPred, a_lA0, a_lA1, a_lOwner, a_arity, a_kKind, a_kA, a_kB, a_kBind, a_bKind, a_bA, a_bB, a_bBind, a_cCopy, a_cLit, a_cPar, a_cStk, a_cl, a_gtab, a_pLit, a_pPar, a_pStk) (nI i) := by
  have hM := hw.2.2.2.2.1
  have hnl := hw.2.1
  have hnc := hw.1
  match L, hL, hlen, h with
  | [], _, _, h => exact br_t rfl (h _ _ _ _ _ _ _ rfl (fun z => absurd z (by decide)))
  | (c, l, p) :: R, hL, hlen, h =>
    obtain ⟨⟨q, hq, s2, s3⟩, s6⟩ := hL
    try dsimp only at s3
    rw [List.length_cons] at hlen
    obtain ⟨eC, eL, hcm, hlM⟩ := yc_nd_hd s3
    have hpl := yc_nd_len s3
    have hini : vp_in (nI i) 256 := vp_in_nI hi (by decide)
    have cli : (nI i).toNatClampNeg = i := nI_clamp (by omega)
    have hinR : vp_in (nI R.length) 520 := vp_in_nI (by omega) (by decide)
    refine br_f (nI_ne0 (by rw [List.length_cons]; omega) (by rw [List.length_cons]; omega)) ?_
    refine nm_r (by rw [List.length_cons]; exact nI_pred R.length) ⟨hinR, ?_⟩
    rw [nI_clamp (show R.length < 2 ^ 31 by omega), s2, cli]
    refine nm_e ⟨hini, nm_e ?_⟩
    unfold ck_step at h
    try dsimp only at h
    refine br_c (fun k0 => ?_) (fun k0 => ⟨hini, nm_e (br_c (fun k1 => ?_) (fun k1 => ?_))⟩)
    · rw [ck_if_t k0] at h
      exact h _ _ _ _ _ _ _ rfl (fun z => absurd z (by decide))
    · rw [ck_if_f k0, ck_if_t k1] at h
      rcases ck_out_or (a_bA i) (n := nc) (by omega) with ho | ⟨ho, a, ha, ea⟩
      · rw [ck_if_t ho] at h
        have fin := h _ (nI N) (nI R.length) a_cCopy a_cLit a_cPar a_cStk rfl (fun z => absurd (show (-12 : Int32) = 0 from z) (by decide))
        by_cases hn : a_bA i < 0
        · exact br_t hn fin
        · refine br_f hn (br_f (fun z => ?_) fin)
          rcases ho with ho | ho
          · exact hn ho
          · exact absurd z (Int32.not_lt.mpr ho)
      · rw [ck_if_f ho, ea, nI_clamp (show a < 2 ^ 31 by omega)] at h
        rw [ea]
        obtain ⟨b1, b2, b3⟩ := cd_en_bd hw (show a ≤ nc by omega)
        have een : cd_en nc nl st a = st (a + 1) := cd_en_lt ha
        rw [een] at b1 b2 b3
        have hst : st (a + 1) ≤ st nc := cd_mono' hw (by omega) (Nat.le_refl _)
        refine br_f (nI_pos (by omega)) (br_t (nI_lt ha (by omega)) ⟨hini, ?_⟩)
        rcases ck_out_or (a_bB i) (n := st (a + 1) - st a) (by omega) with hob | ⟨hob, bb, hbb, eb⟩
        · rw [ck_if_t hob] at h
          have fin := h _ (nI N) (nI R.length) a_cCopy a_cLit a_cPar a_cStk rfl (fun z => absurd (show (-13 : Int32) = 0 from z) (by decide))
          by_cases hn : a_bB i < 0
          · exact br_t hn fin
          · refine br_f hn ⟨hini, ?_⟩
            refine yl_lenOf hw how (by omega) ?_
            rw [een]
            refine br_f (fun z => ?_) fin
            rcases hob with hob | hob
            · exact hn hob
            · exact absurd z (Int32.not_lt.mpr hob)
        · rw [ck_if_f hob, eb, nI_clamp (show bb < 2 ^ 31 by omega)] at h
          rw [eb]
          refine br_f (nI_pos (by omega)) ⟨hini, ?_⟩
          refine yl_lenOf hw how (by omega) ?_
          rw [een]
          refine br_t (nI_lt hbb (by omega)) ⟨hini, ?_⟩
          refine yl_nth hw how (by omega) (by rw [een]; exact hbb) ?_
          rw [k1]
          refine yj_conn hw hb hM (show q < 520 by omega) eC eL (by omega) hlM hi (show st a + bb < st nc by omega) (fun hcn => br_t rfl ?_) (fun hcn => ?_)
          · rw [ck_if_t hcn] at h
            have lsl' : (xg_ls (st a + bb) (st (a + 1) - st a) (st a)).length ≤ 2 := by
              have := ck_gl_len' (copy := i) (sk := st a + bb) (p := (c, l) :: p) (st (a + 1) - st a) (st a) (by omega) (by omega)
              rw [xg_gl, List.length_map] at this
              omega
            refine yg_push hw how (sk := st a + bb) (by omega) (fun j hj => nI_eq (by omega) (by omega)) (by rw [een]; omega) (by rw [een]; omega) (fun cC cL cP cS hag hs hrep => ?_)
            rw [een] at hrep ⊢
            refine h 0 _ _ cC cL cP cS rfl (fun _ => ⟨_, rfl, by omega, ?_, ?_, ?_⟩)
            · rw [List.length_append, xg_gl, List.length_map, Nat.add_comm]
            · rw [List.length_append, xg_gl, List.length_map]
              omega
            · rw [xg_gl]
              have s3' := yc_nd_fr (m' := i + 1) (by omega) hag hq s3
              have hpar : ∀ q', N ≤ q' → ∀ l', l' < st nc → cC q' = nI i → cL q' = nI l' → cP q' = nI q → yc_nd cC cL cP (st nc) (i + 1) ((c, l) :: p) q' i l' := fun q' hq' l' hl' e1 e2 e3 => ⟨e1, e2, by omega, hl', q, by omega, e3, s3'⟩
              refine yc_stk_app (N := N) (x4 := nI q) (by omega) hpar (yc_stk_fr (by omega) (by omega) hag hs s6) (by omega) (fun l' hl' => ?_) hrep
              have := xg_ls_mem hl'
              omega
          · rw [ck_if_f hcn] at h
            exact h _ _ _ _ _ _ _ rfl (fun z => absurd z hcn)
    · rw [ck_if_f k0, ck_if_f k1] at h
      refine ⟨vp_in_nI (show q < 520 by omega) (by decide), ?_⟩
      rw [nI_clamp (show q < 2 ^ 31 by omega)]
      refine nm_e ⟨_, yj_depth p q c l 0 0 s3 (by omega) (by omega) (by omega) ?_⟩
      rw [Nat.zero_add]
      rcases ck_out_or (a_bA i) (n := p.length) (by omega) with ho | ⟨ho, a, ha, ea⟩
      · rw [ck_if_t ho] at h
        have fin := h _ (nI N) (nI R.length) a_cCopy a_cLit a_cPar a_cStk rfl (fun z => absurd (show (-14 : Int32) = 0 from z) (by decide))
        by_cases hn : a_bA i < 0
        · exact br_t hn fin
        · refine br_f hn (br_f (fun z => ?_) fin)
          rcases ho with ho | ho
          · exact hn ho
          · exact absurd z (Int32.not_lt.mpr ho)
      · rw [ck_if_f ho, ea, nI_clamp (show a < 2 ^ 31 by omega)] at h
        rw [ea]
        refine br_f (nI_pos (by omega)) (br_t (nI_lt ha (by omega)) ⟨p.length - a + 1, ?_⟩)
        have hent := yc_nd_get s3 (p.length - 1 - a) (by omega)
        refine yj_up (T := p.length - a) (pk_sub (by omega)) (by omega) (p.length - a) p q c l 0 s3 (by omega) (by omega) (by omega) ?_
        have e1 : p.length - a = (p.length - 1 - a) + 1 := by omega
        rw [e1, List.getD_cons_succ]
        refine yj_conn hw hb hM (show q < 520 by omega) eC eL (by omega) hlM (by omega) hent.2 (fun hcn => br_f k1 ?_) (fun hcn => ?_)
        · rw [hcn] at h
          refine h 0 _ _ _ _ _ _ rfl (fun _ => ⟨N, rfl, by omega, rfl, by dsimp only; omega, ?_⟩)
          exact yc_stk_fr (by omega) (Nat.le_refl _) (fun _ _ => ⟨rfl, rfl, rfl⟩) (fun _ _ => rfl) s6
        · exact h _ _ _ _ _ _ _ rfl (fun z => absurd z hcn)
theorem yk_loop {post : Int32 → SY → Prop} {nc nl ns : Nat} {st : Nat → Nat} (hw : cd_wf nc nl st a_lSign a_lPred a_lA0 a_lA1 a_arity) (how : cd_own nc nl st a_lOwner)
    {b : Nat → Nat} (hb : cr_by b a_bBind) (hns : ns ≤ 256) : ∀ (r i N : Nat) (L : List ck_G) (y0 y1 : Int32) (cC cL cP cS : Nat → Int32), i + r = ns → 1 ≤ i → N ≤ 2 * i + 1 → y0 = nI N →
    y1 = nI L.length → L.length ≤ N → yc_stk cC cL cP cS (st nc) i N L →
    (∀ (y0 y1 : Int32) (cC cL cP cS : Nat → Int32),
      post (ck_go nc st (cd_mk (st nc) a_lSign) (cd_mk (st nc) a_lPred) (cd_mk (st nc) a_lA0) (cd_mk (st nc) a_lA1) a_bKind a_bA a_bB b r i L).1
        (nI nc, nI nl, f_kept, f_kN, nI ns, f_sealed, (ck_go nc st (cd_mk (st nc) a_lSign) (cd_mk (st nc) a_lPred) (cd_mk (st nc) a_lA0) (cd_mk (st nc) a_lA1) a_bKind a_bA a_bB b r i L).2, y0, y1, f_pNodes, f_pSp, a_lSign, a_lPred, a_lA0, a_lA1, a_lOwner, a_arity, a_kKind, a_kA, a_kB, a_kBind, a_bKind, a_bA, a_bB, a_bBind, cC, cL, cP, cS, a_cl, a_gtab, a_pLit, a_pPar, a_pStk)) →
    wY_check_89 post (nI ns) (r + 1) (nI i) (nI nc) (nI nl) f_kept f_kN (nI ns) f_sealed f_lastStep y0 y1 f_pNodes f_pSp a_lSign a_lPred a_lA0 a_lA1 a_lOwner a_arity a_kKind a_kA a_kB a_kBind a_bKind a_bA a_bB a_bBind cC cL cP cS a_cl a_gtab a_pLit a_pPar a_pStk
  | 0, i, N, L, y0, y1, cC, cL, cP, cS, hir, h1, hN, ey0, ey1, hlen, hL, h => by
    have ei : i = ns := by omega
    subst ei
    refine br_t (nI_le (Nat.le_refl i) (by omega)) ?_
    unfold ck_go at h
    subst ey1
    match L, h with
    | [], h => exact br_t (by decide) (h _ _ _ _ _ _)
    | g :: R, h => exact br_f (nI_nle (by rw [List.length_cons]; omega) (by rw [List.length_cons] at hlen ⊢; omega)) (h _ _ _ _ _ _)
  | r + 1, i, N, L, y0, y1, cC, cL, cP, cS, hir, h1, hN, ey0, ey1, hlen, hL, h => by
    subst ey0 ey1
    refine br_f (nI_ge (show i < ns by omega) (by omega)) (br_f (nI_ge (b := 256) (show i < 256 by omega) (by decide)) ?_)
    refine yj_step hw how hb h1 (by omega) hN hL hlen (fun rr y0' y1' cC' cL' cP' cS' er hz => ?_)
    rw [ck_go] at h
    by_cases z : (ck_step nc st (cd_mk (st nc) a_lSign) (cd_mk (st nc) a_lPred) (cd_mk (st nc) a_lA0) (cd_mk (st nc) a_lA1) a_bKind a_bA a_bB b i L).1 = 0
    · rw [if_pos z] at h
      have er0 : rr = 0 := er.trans z
      subst er0
      obtain ⟨N', z1, z2, z3, z4, z5⟩ := hz rfl
      refine br_t rfl (nm_r (nI_1 i) ?_)
      exact yk_loop hw how hb hns r (i + 1) N' _ _ _ cC' cL' cP' cS' (by omega) (by omega) z2 z1 z3 z4 z5 h
    · rw [if_neg z] at h
      have hne : ¬ rr = 0 := fun e => z (er.symm.trans e)
      refine br_f hne ?_
      rw [er]
      exact h _ _ _ _ _ _
theorem yk_check {post : Int32 → SY → Prop} {nc nl ns : Nat} {st : Nat → Nat} (hw : cd_wf nc nl st a_lSign a_lPred a_lA0 a_lA1 a_arity) (how : cd_own nc nl st a_lOwner)
    {b : Nat → Nat} (hb : cr_by b a_bBind) (hns : ns ≤ 256)
    (h : ∀ (y0 y1 : Int32) (cC cL cP cS : Nat → Int32),
      post (ck_all nc st (cd_mk (st nc) a_lSign) (cd_mk (st nc) a_lPred) (cd_mk (st nc) a_lA0) (cd_mk (st nc) a_lA1) a_bKind a_bA a_bB b ns).1
        (nI nc, nI nl, f_kept, f_kN, nI ns, f_sealed, (ck_all nc st (cd_mk (st nc) a_lSign) (cd_mk (st nc) a_lPred) (cd_mk (st nc) a_lA0) (cd_mk (st nc) a_lA1) a_bKind a_bA a_bB b ns).2, y0, y1, f_pNodes, f_pSp, a_lSign, a_lPred, a_lA0, a_lA1, a_lOwner, a_arity, a_kKind, a_kA, a_kB, a_kBind, a_bKind, a_bA, a_bB, a_bBind, cC, cL, cP, cS, a_cl, a_gtab, a_pLit, a_pPar, a_pStk)) :
    wpY_check post (nI nc, nI nl, f_kept, f_kN, nI ns, f_sealed, f_lastStep, f_cNodes, f_cSp, f_pNodes, f_pSp, a_lSign, a_lPred, a_lA0, a_lA1, a_lOwner, a_arity, a_kKind, a_kA, a_kB, a_kBind, a_bKind, a_bA, a_bB, a_bBind, a_cCopy, a_cLit, a_cPar, a_cStk, a_cl, a_gtab, a_pLit, a_pPar, a_pStk) := by
  have hM := hw.2.2.2.2.1
  have hnl := hw.2.1
  have hnc := hw.1
  unfold ck_all at h
  by_cases e0 : ns = 0
  · rw [if_pos e0] at h
    subst e0
    exact br_t rfl (h _ _ _ _ _ _)
  · rw [if_neg e0] at h
    refine br_f (nI_ne0 (by omega) (by omega)) ?_
    refine br_c (fun k0 => ?_) (fun k0 => ?_)
    · rw [if_pos k0] at h
      rcases ck_out_or (a_bA 0) (n := nc) (by omega) with ho | ⟨ho, a, ha, ea⟩
      · rw [ck_if_t ho] at h
        have fin := h f_cNodes f_cSp a_cCopy a_cLit a_cPar a_cStk
        by_cases hn : a_bA 0 < 0
        · exact br_t hn fin
        · refine br_f hn (br_f (fun z => ?_) fin)
          rcases ho with ho | ho
          · exact hn ho
          · exact absurd z (Int32.not_lt.mpr ho)
      · rw [ck_if_f ho, ea, nI_clamp (show a < 2 ^ 31 by omega)] at h
        rw [ea]
        obtain ⟨b1, b2, b3⟩ := cd_en_bd hw (show a ≤ nc by omega)
        have een : cd_en nc nl st a = st (a + 1) := cd_en_lt ha
        rw [een] at b1 b2 b3
        have hst : st (a + 1) ≤ st nc := cd_mono' hw (by omega) (Nat.le_refl _)
        refine br_f (nI_pos (by omega)) (br_t (nI_lt ha (by omega)) ?_)
        have lsl : (xg_ls 16 (st (a + 1) - st a) (st a)).length ≤ 3 := by
          have := ck_gl_len (copy := 0) (sk := 16) (p := []) (st (a + 1) - st a) (st a)
          rw [xg_gl, List.length_map] at this
          omega
        refine yg_push hw how (N := 0) (S := 0) (sk := 16) (by omega) (fun j hj => ?_) (by rw [een]; omega) (by rw [een]; omega) (fun cC cL cP cS hag hs hrep => ?_)
        · constructor
          · intro z
            have := congrArg Int32.toInt z
            rw [nI_toInt (by omega), show (-1 : Int32).toInt = -1 from by decide] at this
            omega
          · intro z
            omega
        · rw [een] at hrep ⊢
          rw [Nat.zero_add]
          refine ⟨ns - 1 + 1, ?_⟩
          refine yk_loop hw how hb hns (ns - 1) 1 (xg_ls 16 (st (a + 1) - st a) (st a)).length (ck_gl 0 16 [] (st (a + 1) - st a) (st a)) _ _ cC cL cP cS (by omega) (by omega) (by omega) rfl ?_ ?_ ?_ h
          · rw [xg_gl, List.length_map]
          · rw [xg_gl, List.length_map]
            exact Nat.le_refl _
          · rw [xg_gl, ← List.append_nil ((xg_ls 16 (st (a + 1) - st a) (st a)).map (fun l => ((0, l, []) : ck_G)))]
            have hpar : ∀ q', 0 ≤ q' → ∀ l', l' < st nc → cC q' = nI 0 → cL q' = nI l' → cP q' = -1 → yc_nd cC cL cP (st nc) 1 [] q' 0 l' := fun q' _ l' hl' e1 e2 e3 => ⟨e1, e2, by omega, hl', e3⟩
            refine yc_stk_app (R := []) (N := 0) (x4 := -1) (by omega) hpar trivial (by omega) (fun l' hl' => ?_) hrep
            have := xg_ls_mem hl'
            omega
    · rw [if_neg k0] at h
      exact h _ _ _ _ _ _
end
/-! the two checks -/
theorem ck_step_congr {nc : Nat} {st : Nat → Nat} {sg pr a0 a1 K A B K' A' B' : Nat → Int32} {b b' : Nat → Nat} {i : Nat} {L : List ck_G} (hK : K' i = K i) (hA : A' i = A i) (hB : B' i = B i) (hb : b' = b) :
    ck_step nc st sg pr a0 a1 K' A' B' b' i L = ck_step nc st sg pr a0 a1 K A B b i L := by
  unfold ck_step
  rw [hK, hA, hB, hb]
theorem ck_go_congr {nc : Nat} {st : Nat → Nat} {sg pr a0 a1 K A B K' A' B' : Nat → Int32} {b : Nat → Nat} : ∀ (r i : Nat) (L : List ck_G), (∀ j, j < i + r → K' j = K j ∧ A' j = A j ∧ B' j = B j) →
    ck_go nc st sg pr a0 a1 K' A' B' b r i L = ck_go nc st sg pr a0 a1 K A B b r i L
  | 0, _, _, _ => rfl
  | r + 1, i, L, h => by
    obtain ⟨h1, h2, h3⟩ := h i (by omega)
    rw [ck_go, ck_go, ck_step_congr h1 h2 h3 rfl, ck_go_congr r (i + 1) _ (fun j hj => h j (by omega))]
theorem ck_all_congr {nc : Nat} {st : Nat → Nat} {sg pr a0 a1 K A B K' A' B' : Nat → Int32} {b : Nat → Nat} {n : Nat} (h : ∀ j, j < n → K' j = K j ∧ A' j = A j ∧ B' j = B j) :
    ck_all nc st sg pr a0 a1 K' A' B' b n = ck_all nc st sg pr a0 a1 K A B b n := by
  unfold ck_all
  by_cases e : n = 0
  · rw [if_pos e, if_pos e]
  · obtain ⟨h1, h2, h3⟩ := h 0 (by omega)
    rw [if_neg e, if_neg e, h1, h2, ck_go_congr (n - 1) 1 _ (fun j hj => h j (by omega))]
theorem i_vc_check {k : Nat} {u : SX} {v : SY} (I : i_Rel k u v) (hk : k + 5 ≤ 2560) : wpX_check (fun r u' => wpY_check (fun r' v' => r' = r ∧ i_Rel (k + 5) u' v') v) u := by
  obtain ⟨nc, nl, st, sl, kp, ls, ns, bn, kc, kn, sg, pr, a0, a1, ar, cs, ow, xK, xA, xB, bd, yK, yA, yB, yb, kK, kA, kB, kI, zK, zA, zB, zb, lh, ph, x0, x1, x2, x3, y0, y1, y2, y3, X0, X1, X2, X3, X4, X5, X6, X7, X8, Y0, Y1, Y2, Y3, Y4, Y5, Y6, Y7, Y8, rfl, rfl, h⟩ := I
  obtain ⟨⟨hw, hcs, how⟩, ⟨hlh, hp0⟩, h3, h4⟩ := id h
  obtain ⟨hns, hbn, ⟨rfl, rfl, hs, b, hbx, hby⟩ | ⟨rfl, ⟨b, hbx, hok⟩, ⟨b', hby, hok'⟩⟩⟩ := id h3
  · refine xk_check hw hcs hbx hns hp0 (fun x0' oc ol pc pl ph' hp0' => ?_)
    refine yk_check hw how hby hns (fun y0' y1' cC cL cP cS => ?_)
    rw [ck_all_congr hs]
    exact ⟨rfl, i_mk ⟨h.1, ⟨hlh, hp0'⟩, h3, h4⟩⟩
  · refine xk_check hw hcs hbx hns hp0 (fun x0' oc ol pc pl ph' hp0' => ?_)
    refine yk_check hw how hby hbn (fun y0' y1' cC cL cP cS => ?_)
    unfold cr_ok at hok hok'
    rw [hok, hok']
    exact ⟨rfl, i_mk ⟨h.1, ⟨hlh, hp0'⟩, h3, h4⟩⟩
