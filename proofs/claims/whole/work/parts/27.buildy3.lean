theorem yb_upd2 {f : Nat → Int32} {k : Nat} {x y : Int32} : upd (upd f k x) k y = upd f k y := by
  funext j
  unfold upd
  by_cases e : j = k
  · rw [if_pos e, if_pos e]
  · rw [if_neg e, if_neg e, if_neg e]
theorem yb_uc01 (o0 o1 : Bool) {i : Nat} (hi : i < 2) : nI (cg_uc o0 o1 i) = -1 ∨ nI (cg_uc o0 o1 i) = 0 ∨ nI (cg_uc o0 o1 i) = 1 := by
  have := cg_U_lt (cg_uc_U o0 o1 hi)
  have c : cg_uc o0 o1 i = 0 ∨ cg_uc o0 o1 i = 1 := by omega
  rcases c with c | c <;> rw [c]
  · exact Or.inr (Or.inl rfl)
  · exact Or.inr (Or.inr rfl)
section
variable {f_clauseCount f_litCount f_kept f_kN f_bN f_sealed f_lastStep f_cNodes f_cSp f_pNodes f_pSp : Int32} {a_lSign a_lPred a_lA0 a_lA1 a_lOwner a_arity a_kKind a_kA a_kB a_kBind a_bKind a_bA a_bB a_bBind a_cCopy a_cLit a_cPar a_cStk a_cl a_gtab a_pLit a_pPar a_pStk : Nat → Int32}
theorem yb_count {post : Int32 → SY → Prop} {J : Int32 → Int32 → Int32 → Int32 → Int32 → Int32 → Int32 → Int32 → Int32 → Int32 → Int32 → Int32 → (Nat → Int32) → (Nat → Int32) → (Nat → Int32) → (Nat → Int32) → (Nat → Int32) → (Nat → Int32) → (Nat → Int32) → (Nat → Int32) → (Nat → Int32) → (Nat → Int32) → (Nat → Int32) → (Nat → Int32) → (Nat → Int32) → (Nat → Int32) → (Nat → Int32) → (Nat → Int32) → (Nat → Int32) → (Nat → Int32) → (Nat → Int32) → (Nat → Int32) → (Nat → Int32) → (Nat → Int32) → (Nat → Int32) → Prop}
    {nc nl : Nat} {st : Nat → Nat} (hw : cd_wf nc nl st a_lSign a_lPred a_lA0 a_lA1 a_arity) (how : cd_own nc nl st a_lOwner) (hgt : yn_gt nc st a_lSign a_lPred a_lA0 a_lA1 a_arity a_gtab)
    {m r j d N S : Nat} (hm : m < 256) (hr : r < 4 * nc) (j1 : st (r / 4) ≤ j) (j2 : j < st (r / 4 + 1))
    (rN : N + (xg_ls j (st (r / 4 + 1) - st (r / 4)) (st (r / 4))).length ≤ 256) (rS : S + (xg_ls j (st (r / 4 + 1) - st (r / 4)) (st (r / 4))).length ≤ 256)
    (h : ∀ pL pP pS : Nat → Int32, (∀ i, i < N → pL i = a_pLit i ∧ pP i = a_pPar i) → (∀ i, i < S → pS i = a_pStk i) → yb_rep pL pP pS (fun l => cg_YL nc st a_lSign a_lPred a_lA0 a_lA1 a_arity l r) (nI d) N S (xg_ls j (st (r / 4 + 1) - st (r / 4)) (st (r / 4))) →
      J (nI (m + 1)) (nI nc) (nI nl) f_kept (nI (m + 1)) f_bN f_sealed f_lastStep f_cNodes f_cSp (nI (N + (xg_ls j (st (r / 4 + 1) - st (r / 4)) (st (r / 4))).length)) (nI (S + (xg_ls j (st (r / 4 + 1) - st (r / 4)) (st (r / 4))).length)) a_lSign a_lPred a_lA0 a_lA1 a_lOwner a_arity a_kKind a_kA (upd a_kB m (nI (j - st (r / 4)))) (upd (upd a_kBind (2 * m) (nI (cg_uc (cg_oc a_lA0 a_lA1 0 (st nc)) (cg_oc a_lA0 a_lA1 1 (st nc)) (r % 4 % 2)))) (2 * m + 1) (nI (cg_uc (cg_oc a_lA0 a_lA1 0 (st nc)) (cg_oc a_lA0 a_lA1 1 (st nc)) (r % 4 / 2)))) a_bKind a_bA a_bB a_bBind a_cCopy a_cLit a_cPar a_cStk a_cl a_gtab pL pP pS) :
    ∃ n339 : Nat, wY_build_339 post J (nI m) (nI d) (nI (r / 4)) (nI (r % 4)) (nI j) (nI nc) (nI nl) f_kept f_kN f_bN f_sealed f_lastStep f_cNodes f_cSp (nI N) (nI S) n339 0 a_lSign a_lPred a_lA0 a_lA1 a_lOwner a_arity a_kKind a_kA (upd a_kB m 0) a_kBind a_bKind a_bA a_bB a_bBind a_cCopy a_cLit a_cPar a_cStk a_cl a_gtab a_pLit a_pPar a_pStk := by
  have hnc := hw.1
  have hM := hw.2.2.2.2.1
  have hnl := hw.2.1
  have hc : r / 4 < nc := by omega
  have een : cd_en nc nl st (r / 4) = st (r / 4 + 1) := cd_en_lt hc
  have hst := cd_mono' hw (c := r / 4 + 1) (d := nc) (by omega) (Nat.le_refl _)
  have inm : vp_in (nI m) 256 := vp_in_nI hm (by decide)
  have clm : (nI m).toNatClampNeg = m := nI_clamp (by omega)
  have key : ∀ e i : Nat, i + e = j → wY_build_339 post J (nI m) (nI d) (nI (r / 4)) (nI (r % 4)) (nI j) (nI nc) (nI nl) f_kept f_kN f_bN f_sealed f_lastStep f_cNodes f_cSp (nI N) (nI S) (e + 1) (nI i) a_lSign a_lPred a_lA0 a_lA1 a_lOwner a_arity a_kKind a_kA (upd a_kB m (nI (i - st (r / 4)))) a_kBind a_bKind a_bA a_bB a_bBind a_cCopy a_cLit a_cPar a_cStk a_cl a_gtab a_pLit a_pPar a_pStk := by
    intro e
    induction e with
    | zero =>
      intro i hi
      have ei : i = j := by omega
      subst ei
      have er : nI (r % 4) - nI (r % 4) / 2 * 2 = nI (r % 4 % 2) := by
        rw [show (2 : Int32) = nI 2 from rfl, pk_rem (by omega) (by omega) (by omega)]
      have ed : nI (r % 4) / 2 = nI (r % 4 / 2) := by
        rw [show (2 : Int32) = nI 2 from rfl, pk_div (by omega) (by omega) (by omega)]
      have e2 : (2 : Int32) * nI m = nI (2 * m) := by
        rw [show (2 : Int32) = nI 2 from rfl, pk_mul]
      refine br_t (nI_le (Nat.le_refl _) (by omega)) ⟨by decide, ?_⟩
      rw [er, ed]
      refine yu_const hw how ?_
      rw [e2, nI_1, nI_clamp (show 2 * m < 2 ^ 31 by omega), nI_clamp (show 2 * m + 1 < 2 ^ 31 by omega)]
      refine ⟨vp_in_nI (by omega) (by decide), nm_e ⟨by decide, ?_⟩⟩
      refine yu_const hw how ?_
      refine ⟨vp_in_nI (by omega) (by decide), nm_e ?_⟩
      refine yb_push hw how hgt (sk := i) hr (fun x hx => nI_eq (by omega) (by omega)) rN rS (fun pL pP pS hag hs hrep => ?_)
      refine br_f (by decide) ?_
      rw [nI_1]
      exact nm_e (nm_e (h pL pP pS hag hs hrep))
    | succ e ih =>
      intro i hi
      refine br_f (nI_ge (by omega) (by omega)) ⟨vp_in_nI (by omega) (by decide), ?_⟩
      rw [nI_clamp (show i < 2 ^ 31 by omega)]
      have ih2 := ih (i + 1) (by omega)
      have oi := cd_own_iff hw how (show i < nl by omega) (show r / 4 ≤ nc by omega)
      rw [een] at oi
      refine ek_if oi (fun z => ⟨inm, inm, ?_⟩) (fun z => nm_r (nI_1 i) ?_)
      · rw [clm, pk_us, nI_1, yb_upd2]
        have ee : i - st (r / 4) + 1 = i + 1 - st (r / 4) := by omega
        rw [ee]
        exact nm_e (nm_r (nI_1 i) ih2)
      · have ee : i + 1 - st (r / 4) = i - st (r / 4) := by omega
        rw [ee] at ih2
        exact ih2
  have e0 : 0 - st (r / 4) = 0 := by omega
  have k0 := key j 0 (by omega)
  rw [e0] at k0
  exact ⟨_, k0⟩
theorem yb_loop {post : Int32 → SY → Prop} {nc nl g : Nat} {st : Nat → Nat} (hw : cd_wf nc nl st a_lSign a_lPred a_lA0 a_lA1 a_arity) (how : cd_own nc nl st a_lOwner)
    (eg : cg_base a_lPred a_arity (st nc) (cg_oc a_lA0 a_lA1 0 (st nc) && cg_oc a_lA0 a_lA1 1 (st nc)) 4 = g) (h5 : g ≤ 5) (hgt : yn_gt nc st a_lSign a_lPred a_lA0 a_lA1 a_arity a_gtab) (hsnd : ye_snd nc g st a_lSign a_lPred a_lA0 a_lA1 a_arity a_cl)
    (h : ∀ (n : Nat) (y2 y3 : Int32) (kK kA kB kb pL pP pS : Nat → Int32), cr_ky nc st a_lSign a_lPred a_lA0 a_lA1 n kK kA kB kb →
      post 1 (nI nc, nI nl, f_kept, nI n, f_bN, f_sealed, f_lastStep, f_cNodes, f_cSp, y2, y3, a_lSign, a_lPred, a_lA0, a_lA1, a_lOwner, a_arity, kK, kA, kB, kb, a_bKind, a_bA, a_bB, a_bBind, a_cCopy, a_cLit, a_cPar, a_cStk, a_cl, a_gtab, pL, pP, pS)) :
    ∀ (t m : Nat) (L : List ck_G) (q : Nat → Nat) (N : Nat) (y3 : Int32) (kK kA kB kb pL pP pS : Nat → Int32), ck_pot L ≤ t → y3 = nI L.length → yb_inv nc st a_lSign a_lPred a_lA0 a_lA1 a_arity (ye_C a_cl) m L q N kK kA kB kb pL pP pS →
      wY_build_154 post (t + 1) (nI m) (nI nc) (nI nl) f_kept (nI m) f_bN f_sealed f_lastStep f_cNodes f_cSp (nI N) y3 a_lSign a_lPred a_lA0 a_lA1 a_lOwner a_arity kK kA kB kb a_bKind a_bA a_bB a_bBind a_cCopy a_cLit a_cPar a_cStk a_cl a_gtab pL pP pS := by
  have hnc := hw.1
  have hM := hw.2.2.2.2.1
  have hnl := hw.2.1
  intro t
  induction t with
  | zero =>
    intro m L q N y3 kK kA kB kb pL pP pS ht ey hI
    have hlen := yb_pot_len hI.2.2.2.2.2.2.2.1
    have hL : L = [] := List.eq_nil_of_length_eq_zero (by omega)
    subst hL ey
    have h190 := hI.2.1
    exact br_f (nI_ge (b := 256) (by omega) (by decide)) (br_t (by decide) (br_t rfl (h m _ _ kK kA kB kb pL pP pS (yb_end hnc hI))))
  | succ t IH =>
    intro m L q N y3 kK kA kB kb pL pP pS ht ey hI
    subst ey
    have hlen := yb_pot_len hI.2.2.2.2.2.2.2.1
    have h190 := hI.2.1
    have hNe := hI.2.2.1
    refine br_f (nI_ge (b := 256) (by omega) (by decide)) ?_
    match L, hI, ht, hlen, h190, hNe with
    | [], hI, _, _, _, _ => exact br_t (by decide) (br_t rfl (h m _ _ kK kA kB kb pL pP pS (yb_end hnc hI)))
    | (c, l, p) :: R, hI, ht, hlen, h190, hNe =>
      obtain ⟨h1, h2, h3, h4, h5', h6, h7, ⟨⟨d, d1, d2, d3⟩, s3, s4⟩, h8⟩ := id hI
      obtain ⟨g1, g2, g3, g4, g5, g6, g7⟩ := s3
      try dsimp only at g1 g2 g3 g4 g5 g6 g7 d3
      rw [List.length_cons] at hlen hNe
      have hpot : ck_pot ((c, l, p) :: R) = cm_w p.length + ck_pot R := rfl
      have l5 := cm_cnt_le (p.map (yb_F nc st a_lSign a_lPred a_lA0 a_lA1 a_arity q))
      rw [cm_cnt_ok g5, List.length_map] at l5
      have wp := cm_w_pos l5
      have lt10 : ∀ e : Nat × Nat, e.1 < m → ¬ kK e.1 = 2 → xw_in st q e → yb_F nc st a_lSign a_lPred a_lA0 a_lA1 a_arity q e < 2 * g := by
        intro e y1 y2 y3
        have hq := (h6 e.1 y1 y2).1
        have hst := cd_mono' hw (c := q e.1 / 4 + 1) (d := nc) (by omega) (Nat.le_refl _)
        have := cg_YL_lt (j := e.2) (q := q e.1) hw (by have := y3.2; omega)
        rw [eg] at this
        exact this
      have hK := lt10 (c, l) g1 g2 g3
      have hp10 : ∀ x, x ∈ p → yb_F nc st a_lSign a_lPred a_lA0 a_lA1 a_arity q x < 10 := by
        intro x hx
        obtain ⟨y1, y2, y3⟩ := g4 x hx
        have := lt10 x y1 y2 y3
        omega
      have hndl := yb_nd_len d3
      have hd := yb_nd_hd d3
      have s243 := (yp_ok g5).1
      have ngK := yp_neg (m := yb_F nc st a_lSign a_lPred a_lA0 a_lA1 a_arity q (c, l)) g5 (by omega)
      have atg := fun q' j' => fun (z : ye_at nc st a_lSign a_lPred a_lA0 a_lA1 a_arity (ye_C a_cl) (yb_F nc st a_lSign a_lPred a_lA0 a_lA1 a_arity q (c, l)) (yp_s (yb_F nc st a_lSign a_lPred a_lA0 a_lA1 a_arity q (c, l) :: p.map (yb_F nc st a_lSign a_lPred a_lA0 a_lA1 a_arity q))) q' j') => z
      have redi := fun n (hn : n < p.length) hg x => yb_red_inv (x := x) hw hI (n := n) hn hg
      have exti := fun r j => yb_ext_inv (r := r) (j := j) hw eg h5 hI d1 d3
      generalize hKK : yb_F nc st a_lSign a_lPred a_lA0 a_lA1 a_arity q (c, l) = K at *
      have inR : vp_in (nI R.length) 256 := vp_in_nI (by omega) (by decide)
      have ind : vp_in (nI d) 256 := vp_in_nI (by omega) (by decide)
      have inm : vp_in (nI m) 256 := vp_in_nI (by omega) (by decide)
      have clm : (nI m).toNatClampNeg = m := nI_clamp (by omega)
      have ed : nI K / 2 = nI (K / 2) := by
        rw [show (2 : Int32) = nI 2 from rfl, pk_div (by omega) (by omega) (by omega)]
      have er : nI K - nI K / 2 * 2 = nI (K % 2) := by
        rw [show (2 : Int32) = nI 2 from rfl, pk_rem (by omega) (by omega) (by omega)]
      have e2 : (2 : Int32) - nI (K % 2) = nI (2 - K % 2) := by
        rw [show (2 : Int32) = nI 2 from rfl, pk_sub (by omega)]
      have t3 : yt_d (yp_s (p.map (yb_F nc st a_lSign a_lPred a_lA0 a_lA1 a_arity q))) (K / 2) < 3 := Nat.mod_lt _ (by omega)
      refine br_f (nI_nle (by rw [List.length_cons]; omega) (by rw [List.length_cons]; omega)) ?_
      refine nm_r (by rw [List.length_cons]; exact nI_pred R.length) ⟨inR, ?_⟩
      rw [nI_clamp (show R.length < 2 ^ 31 by omega), d2]
      refine nm_e ⟨ind, ?_⟩
      rw [nI_clamp (show d < 2 ^ 31 by omega), hd]
      refine nm_e ⟨ind, ?_⟩
      rw [nI_clamp (show d < 2 ^ 31 by omega)]
      refine nm_e ⟨_, yb_path p d (c, l) 0 0 d3 (by omega) (by omega) hp10 ⟨by decide, ?_⟩⟩
      rw [Nat.zero_add, er, ed]
      refine ye_trit (by omega) (by omega) ⟨by decide, ?_⟩
      rw [e2]
      refine pk_eq (yt_d (yp_s (p.map (yb_F nc st a_lSign a_lPred a_lA0 a_lA1 a_arity q))) (K / 2)) (2 - K % 2) (fun tr => ⟨inm, ?_⟩) (fun tr => ⟨by decide, by decide, ?_⟩)
      · -- a reduction
        have hmem := ngK.mp tr
        rw [clm, xw_neg K (by omega)]
        refine nm_e ?_
        refine yb_red (cm_neg_lt (by omega)) d3 (by omega) hp10 (fun n hn hz => ⟨inm, ?_⟩) ?_
        · refine nm_e ⟨inm, nm_e ?_⟩
          rw [nI_1]
          refine nm_e (nm_e ?_)
          exact IH (m + 1) R q N _ _ _ _ _ _ _ _ (by omega) rfl (redi n hn hz 0)
        · obtain ⟨e, he, ee⟩ := List.mem_map.mp hmem
          exact ⟨e, he, ee⟩
      · -- an extension
        have hno : cm_neg K ∉ p.map (yb_F nc st a_lSign a_lPred a_lA0 a_lA1 a_arity q) := fun z => tr (ngK.mpr z)
        have hev := (hsnd K _ (by omega) s243 (g7 hno)).2.2
        rcases hev with hev | ⟨hz0, r0, j0, hat0⟩
        · exact absurd hev tr
        · have es : yp_s (p.map (yb_F nc st a_lSign a_lPred a_lA0 a_lA1 a_arity q)) + (K % 2 + 1) * 3 ^ (K / 2) = yp_s (K :: p.map (yb_F nc st a_lSign a_lPred a_lA0 a_lA1 a_arity q)) := rfl
          have s2lt := (yt_add s243 (show K / 2 < 5 by omega) (b := 0) (by omega) (show K % 2 + 1 ≤ 2 by omega) hz0).1
          rw [es] at hat0 s2lt
          refine yu_pow3 (by omega) ?_
          have esI : nI (yp_s (p.map (yb_F nc st a_lSign a_lPred a_lA0 a_lA1 a_arity q))) + (nI (K % 2) + 1) * nI (3 ^ (K / 2)) = nI (yp_s (K :: p.map (yb_F nc st a_lSign a_lPred a_lA0 a_lA1 a_arity q))) := by
            rw [nI_1, pk_mul, nI_add]
            rfl
          refine nm_r esI ?_
          refine ye_find hw how eg h5 hgt (by omega) s2lt (fun r j hat => ?_) (fun z => absurd ⟨r0, j0, hat0⟩ z)
          have hr4 := hat.1
          have hj1 := hat.2.1
          have hj2 := hat.2.2.1
          have hst := cd_mono' hw (c := r / 4 + 1) (d := nc) (by omega) (Nat.le_refl _)
          have f64 : nI (r * 16 + j) / 64 = nI (r / 4) := by
            rw [show (64 : Int32) = nI 64 from rfl, pk_div (by omega) (by omega) (by omega)]
            exact congrArg nI (by omega)
          have f16 : nI (r * 16 + j) / 16 = nI r := by
            rw [show (16 : Int32) = nI 16 from rfl, pk_div (by omega) (by omega) (by omega)]
            exact congrArg nI (by omega)
          have f4 : nI r - nI r / 4 * 4 = nI (r % 4) := by
            rw [show (4 : Int32) = nI 4 from rfl, pk_rem (by omega) (by omega) (by omega)]
          have fj : nI (r * 16 + j) - nI r * 16 = nI j := by
            rw [show (16 : Int32) = nI 16 from rfl, pk_mul, pk_sub (by omega)]
            exact congrArg nI (by omega)
          refine br_t (nI_pos' (by omega)) ⟨by decide, nm_r f64 ⟨by decide, by decide, ?_⟩⟩
          rw [f16]
          refine nm_r f4 ⟨by decide, nm_r fj ⟨inm, ?_⟩⟩
          rw [clm]
          refine nm_e ⟨inm, nm_e ⟨inm, nm_e ?_⟩⟩
          have lsl : (xg_ls j (st (r / 4 + 1) - st (r / 4)) (st (r / 4))).length ≤ 3 := by
            have := ck_gl_len (copy := 0) (sk := j) (p := []) (st (r / 4 + 1) - st (r / 4)) (st (r / 4))
            rw [xg_gl, List.length_map] at this
            obtain ⟨b1, b2, b3⟩ := cd_en_bd hw (show r / 4 ≤ nc by omega)
            rw [cd_en_lt (by omega)] at b1 b2 b3
            omega
          refine yb_count hw how hgt (show m < 256 by omega) hr4 hj1 hj2 (by omega) (by omega) (fun pL' pP' pS' hag hs hrep => ?_)
          have inv := exti r j hno hat (kb' := upd (upd kb (2 * m) (nI (cg_uc (cg_oc a_lA0 a_lA1 0 (st nc)) (cg_oc a_lA0 a_lA1 1 (st nc)) (r % 4 % 2)))) (2 * m + 1) (nI (cg_uc (cg_oc a_lA0 a_lA1 0 (st nc)) (cg_oc a_lA0 a_lA1 1 (st nc)) (r % 4 / 2))))
            (fun x hx => by rw [pk_un (by omega), pk_un (by omega)]) (by rw [pk_un (by omega), pk_us]) pk_us (fun x hx => by
              by_cases e1 : x = 2 * m + 1
              · rw [e1, pk_us]
                exact yb_uc01 _ _ (by omega)
              · rw [pk_un e1]
                by_cases e2 : x = 2 * m
                · rw [e2, pk_us]
                  exact yb_uc01 _ _ (by omega)
                · rw [pk_un e2]
                  exact h7 x hx) hag hs hrep
          refine IH (m + 1) _ _ _ _ _ _ _ _ _ _ _ ?_ ?_ inv
          · have := inv.2.1
            have len4 := (cm_len4 g5 (show K / 2 < 5 by omega) g6 hno).1
            rw [List.length_map] at len4
            have hw1 := cm_w_succ len4
            have glen : (ck_gl m j ((c, l) :: p) (st (r / 4 + 1) - st (r / 4)) (st (r / 4))).length ≤ 2 := by
              have := ck_gl_len' (copy := m) (sk := j) (p := (c, l) :: p) (st (r / 4 + 1) - st (r / 4)) (st (r / 4)) hj1 (by omega)
              obtain ⟨b1, b2, b3⟩ := cd_en_bd hw (show r / 4 ≤ nc by omega)
              rw [cd_en_lt (by omega)] at b1 b2 b3
              omega
            rw [ck_pot_app, ck_pot_gl, List.length_cons]
            have : (ck_gl m j ((c, l) :: p) (st (r / 4 + 1) - st (r / 4)) (st (r / 4))).length * cm_w (p.length + 1) ≤ 2 * cm_w (p.length + 1) := Nat.mul_le_mul_right _ glen
            omega
          · rw [List.length_append, xg_gl, List.length_map, Nat.add_comm]
end
