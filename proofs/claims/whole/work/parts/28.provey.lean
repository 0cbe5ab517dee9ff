section
variable {f_clauseCount f_litCount f_kept f_kN f_bN f_sealed f_lastStep f_cNodes f_cSp f_pNodes f_pSp : Int32} {a_lSign a_lPred a_lA0 a_lA1 a_lOwner a_arity a_kKind a_kA a_kB a_kBind a_bKind a_bA a_bB a_bBind a_cCopy a_cLit a_cPar a_cStk a_cl a_gtab a_pLit a_pPar a_pStk : Nat → Int32}
theorem yb_61 {post : Int32 → SY → Prop} {nc nl g : Nat} {st : Nat → Nat} (hw : cd_wf nc nl st a_lSign a_lPred a_lA0 a_lA1 a_arity) (how : cd_own nc nl st a_lOwner)
    (eg : cg_base a_lPred a_arity (st nc) (cg_oc a_lA0 a_lA1 0 (st nc) && cg_oc a_lA0 a_lA1 1 (st nc)) 4 = g) (h5 : g ≤ 5) (hgt : yn_gt nc st a_lSign a_lPred a_lA0 a_lA1 a_arity a_gtab) (hsnd : ye_snd nc g st a_lSign a_lPred a_lA0 a_lA1 a_arity a_cl)
    (hkb : ∀ t, t < 512 → a_kBind t = -1) {r : Nat} (hr : r < 4 * nc) (hall : ∀ j, st (r / 4) ≤ j → j < st (r / 4 + 1) → ye_C a_cl (cg_YL nc st a_lSign a_lPred a_lA0 a_lA1 a_arity j r) 0)
    (h : ∀ (n : Nat) (y2 y3 : Int32) (kK kA kB kb pL pP pS : Nat → Int32), cr_ky nc st a_lSign a_lPred a_lA0 a_lA1 n kK kA kB kb →
      post 1 (nI nc, nI nl, f_kept, nI n, f_bN, f_sealed, f_lastStep, f_cNodes, f_cSp, y2, y3, a_lSign, a_lPred, a_lA0, a_lA1, a_lOwner, a_arity, kK, kA, kB, kb, a_bKind, a_bA, a_bB, a_bBind, a_cCopy, a_cLit, a_cPar, a_cStk, a_cl, a_gtab, pL, pP, pS)) :
    wY_build_61 post (nI r) (nI nc) (nI nl) f_kept f_kN f_bN f_sealed f_lastStep f_cNodes f_cSp f_pNodes f_pSp a_lSign a_lPred a_lA0 a_lA1 a_lOwner a_arity a_kKind a_kA a_kB a_kBind a_bKind a_bA a_bB a_bBind a_cCopy a_cLit a_cPar a_cStk a_cl a_gtab a_pLit a_pPar a_pStk := by
  have hnc := hw.1
  have hM := hw.2.2.2.2.1
  have hnl := hw.2.1
  obtain ⟨b1, b2, b3⟩ := cd_en_bd hw (show r / 4 ≤ nc by omega)
  rw [cd_en_lt (by omega)] at b1 b2 b3
  have hst := cd_mono' hw (c := r / 4 + 1) (d := nc) (by omega) (Nat.le_refl _)
  have ed : nI r / 4 = nI (r / 4) := by
    rw [show (4 : Int32) = nI 4 from rfl, pk_div (by omega) (by omega) (by omega)]
  have er : nI r - nI (r / 4) * 4 = nI (r % 4) := by
    rw [show (4 : Int32) = nI 4 from rfl, pk_mul, pk_sub (by omega)]
    exact congrArg nI (by omega)
  have ed2 : nI (r % 4) / 2 = nI (r % 4 / 2) := by
    rw [show (2 : Int32) = nI 2 from rfl, pk_div (by omega) (by omega) (by omega)]
  have er2 : nI (r % 4) - nI (r % 4 / 2) * 2 = nI (r % 4 % 2) := by
    rw [show (2 : Int32) = nI 2 from rfl, pk_mul, pk_sub (by omega)]
    exact congrArg nI (by omega)
  unfold wY_build_61
  rw [ed, er, ed2, er2]
  refine br_t (nI_pos' (by omega)) (nm_e ⟨by decide, nm_e (nm_e ⟨by decide, by decide, ?_⟩)⟩)
  refine yu_const hw how (nm_e ⟨by decide, by decide, ?_⟩)
  refine yu_const hw how (nm_e ⟨by decide, by decide, ?_⟩)
  have lsl : (xg_ls 16 (st (r / 4 + 1) - st (r / 4)) (st (r / 4))).length ≤ 3 := by
    have := ck_gl_len (copy := 0) (sk := 16) (p := []) (st (r / 4 + 1) - st (r / 4)) (st (r / 4))
    rw [xg_gl, List.length_map] at this
    omega
  refine yb_push hw how hgt (N := 0) (S := 0) (sk := 16) hr (fun j hj => ?_) (by omega) (by omega) (fun pL pP pS hag hs hrep => br_f (by decide) ⟨190, ?_⟩)
  · constructor
    · intro z
      have := congrArg Int32.toInt z
      rw [nI_toInt (by omega), show (-1 : Int32).toInt = -1 from by decide] at this
      omega
    · intro z
      omega
  · rw [Nat.zero_add]
    have inv : yb_inv nc st a_lSign a_lPred a_lA0 a_lA1 a_arity (ye_C a_cl) 1 (ck_gl 0 16 [] (st (r / 4 + 1) - st (r / 4)) (st (r / 4))) (fun _ => r) (xg_ls 16 (st (r / 4 + 1) - st (r / 4)) (st (r / 4))).length
        (upd a_kKind 0 0) (upd a_kA 0 (nI (r / 4))) (upd a_kB 0 0) (upd (upd a_kBind 0 (nI (cg_uc (cg_oc a_lA0 a_lA1 0 (st nc)) (cg_oc a_lA0 a_lA1 1 (st nc)) (r % 4 % 2)))) 1 (nI (cg_uc (cg_oc a_lA0 a_lA1 0 (st nc)) (cg_oc a_lA0 a_lA1 1 (st nc)) (r % 4 / 2)))) pL pP pS := by
      refine ⟨by omega, ?_, ?_, pk_us, pk_us, fun j hj hK => ?_, fun t ht => ?_, ?_, ck_rch_1⟩
      · rw [ck_pot_gl, xg_gl, List.length_map]
        have e63 : cm_w ([] : List (Nat × Nat)).length = 63 := by decide
        rw [e63]
        omega
      · rw [xg_gl, List.length_map]
        omega
      · have : j = 0 := by omega
        subst this
        exact ⟨hr, by rw [pk_un (by decide)]; exact pk_us, pk_us⟩
      · by_cases e1 : t = 1
        · rw [e1, pk_us]
          exact yb_uc01 _ _ (by omega)
        · rw [pk_un e1]
          by_cases e2 : t = 0
          · rw [e2, pk_us]
            exact yb_uc01 _ _ (by omega)
          · rw [pk_un e2]
            exact Or.inl (hkb t ht)
      · rw [xg_gl, ← List.append_nil ((xg_ls 16 (st (r / 4 + 1) - st (r / 4)) (st (r / 4))).map (fun l => ((0, l, []) : ck_G)))]
        have hpar : ∀ d', 0 ≤ d' → ∀ l', pL d' = nI (yb_F nc st a_lSign a_lPred a_lA0 a_lA1 a_arity (fun _ => r) (0, l')) → pP d' = -1 → yb_nd pL pP (yb_F nc st a_lSign a_lPred a_lA0 a_lA1 a_arity (fun _ => r)) [] d' (0, l') := fun d' _ l' y1 y2 => ⟨y1, y2⟩
        refine yb_stk_app (R := []) (N := 0) (x4 := -1) hpar trivial (by omega) (fun l' hl' => ?_) hrep
        have hl2 := xg_ls_mem hl'
        refine ⟨by dsimp only; omega, by dsimp only; rw [pk_us]; decide, ⟨by dsimp only; omega, by dsimp only; omega⟩, (fun e he => by cases he), trivial, (fun z => by cases z), fun _ => ?_⟩
        exact hall l' (by omega) (by omega)
    refine yb_loop hw how eg h5 hgt hsnd h 189 1 _ _ _ _ _ _ _ _ _ _ _ ?_ ?_ inv
    · have := inv.2.1
      omega
    · rw [xg_gl, List.length_map]
theorem yb_build {post : Int32 → SY → Prop} {nc nl g : Nat} {st : Nat → Nat} (hw : cd_wf nc nl st a_lSign a_lPred a_lA0 a_lA1 a_arity) (how : cd_own nc nl st a_lOwner)
    (eg : cg_base a_lPred a_arity (st nc) (cg_oc a_lA0 a_lA1 0 (st nc) && cg_oc a_lA0 a_lA1 1 (st nc)) 4 = g) (h5 : g ≤ 5) (hgt : yn_gt nc st a_lSign a_lPred a_lA0 a_lA1 a_arity a_gtab) (hsnd : ye_snd nc g st a_lSign a_lPred a_lA0 a_lA1 a_arity a_cl)
    {r0 : Nat} (hr0 : r0 < 4 * nc) (hall0 : ∀ j, st (r0 / 4) ≤ j → j < st (r0 / 4 + 1) → ye_C a_cl (cg_YL nc st a_lSign a_lPred a_lA0 a_lA1 a_arity j r0) 0)
    (h : ∀ (n : Nat) (y2 y3 : Int32) (kK kA kB kb pL pP pS : Nat → Int32), cr_ky nc st a_lSign a_lPred a_lA0 a_lA1 n kK kA kB kb →
      post 1 (nI nc, nI nl, f_kept, nI n, f_bN, f_sealed, f_lastStep, f_cNodes, f_cSp, y2, y3, a_lSign, a_lPred, a_lA0, a_lA1, a_lOwner, a_arity, kK, kA, kB, kb, a_bKind, a_bA, a_bB, a_bBind, a_cCopy, a_cLit, a_cPar, a_cStk, a_cl, a_gtab, pL, pP, pS)) :
    wpY_build post (nI nc, nI nl, f_kept, f_kN, f_bN, f_sealed, f_lastStep, f_cNodes, f_cSp, f_pNodes, f_pSp, a_lSign, a_lPred, a_lA0, a_lA1, a_lOwner, a_arity, a_kKind, a_kA, a_kB, a_kBind, a_bKind, a_bA, a_bB, a_bBind, a_cCopy, a_cLit, a_cPar, a_cStk, a_cl, a_gtab, a_pLit, a_pPar, a_pStk) := by
  have hnc := hw.1
  have e4 : nI nc * 4 = nI (4 * nc) := by
    rw [show (4 : Int32) = nI 4 from rfl, pk_mul, Nat.mul_comm]
  refine loop_0 (fun n i s => wY_build_2 post (nI nc) (nI nl) f_kept f_kN f_bN f_sealed f_lastStep f_cNodes f_cSp f_pNodes f_pSp n (nI i) a_lSign a_lPred a_lA0 a_lA1 a_lOwner a_arity a_kKind a_kA a_kB s a_bKind a_bA a_bB a_bBind a_cCopy a_cLit a_cPar a_cStk a_cl a_gtab a_pLit a_pPar a_pStk) (fun i s => ∀ j, j < i → s j = -1) 512 a_kBind (fun j hj => absurd hj (Nat.not_lt_zero j)) ?_ ?_
  · intro n s hs
    refine br_t (nI_le (a := 512) (b := 512) (Nat.le_refl _) (by decide)) ?_
    have key : ∀ d q : Nat, q + d = r0 → wY_build_26 post (nI nc) (nI nl) f_kept f_kN f_bN f_sealed f_lastStep f_cNodes f_cSp f_pNodes f_pSp a_lSign a_lPred a_lA0 a_lA1 a_lOwner a_arity a_kKind a_kA a_kB s a_bKind a_bA a_bB a_bBind a_cCopy a_cLit a_cPar a_cStk a_cl a_gtab a_pLit a_pPar a_pStk (d + 2) (-1) (nI q) := by
      intro d
      induction d with
      | zero =>
        intro q hq
        have eq : q = r0 := by omega
        subst eq
        have ed : nI q / 4 = nI (q / 4) := by
          rw [show (4 : Int32) = nI 4 from rfl, pk_div (by omega) (by omega) (by omega)]
        have er : nI q - nI q / 4 * 4 = nI (q % 4) := by
          rw [show (4 : Int32) = nI 4 from rfl, pk_rem (by omega) (by omega) (by omega)]
        have fin := yb_61 (f_kN := f_kN) (f_pNodes := f_pNodes) (f_pSp := f_pSp) (a_kKind := a_kKind) (a_kA := a_kA) (a_kB := a_kB) (a_kBind := s) (a_pLit := a_pLit) (a_pPar := a_pPar) (a_pStk := a_pStk) hw how eg h5 hgt hsnd hs hr0 hall0 h
        refine br_f (by rw [e4]; exact nI_ge (by omega) (by omega)) (br_f (by decide) ⟨by decide, by decide, ?_⟩)
        rw [er, ed]
        refine yb_start hw how eg h5 hgt hr0 (fun _ => br_f (by decide) (nm_e (br_c (fun _ => fin) (fun _ => br_t (nI_pos' (by omega)) fin)))) (fun z => absurd hall0 z)
      | succ d ih =>
        intro q hq
        have ed : nI q / 4 = nI (q / 4) := by
          rw [show (4 : Int32) = nI 4 from rfl, pk_div (by omega) (by omega) (by omega)]
        have er : nI q - nI q / 4 * 4 = nI (q % 4) := by
          rw [show (4 : Int32) = nI 4 from rfl, pk_rem (by omega) (by omega) (by omega)]
        refine br_f (by rw [e4]; exact nI_ge (by omega) (by omega)) (br_f (by decide) ⟨by decide, by decide, ?_⟩)
        rw [er, ed]
        refine yb_start hw how eg h5 hgt (show q < 4 * nc by omega) (fun z => ?_) (fun z => br_t rfl (nm_r (nI_1 q) (ih (q + 1) (by omega))))
        have fin := yb_61 (f_kN := f_kN) (f_pNodes := f_pNodes) (f_pSp := f_pSp) (a_kKind := a_kKind) (a_kA := a_kA) (a_kB := a_kB) (a_kBind := s) (a_pLit := a_pLit) (a_pPar := a_pPar) (a_pStk := a_pStk) hw how eg h5 hgt hsnd hs (show q < 4 * nc by omega) z h
        exact br_f (by decide) (nm_e (br_c (fun _ => fin) (fun _ => br_t (nI_pos' (by omega)) fin)))
    exact ⟨_, key r0 0 (by omega)⟩
  · intro n i s hi hs ih
    refine br_f (nI_ge (b := 512) hi (by decide)) ⟨vp_in_nI hi (by decide), ?_⟩
    rw [nI_clamp (show i < 2 ^ 31 by omega)]
    refine nm_e (nm_r (nI_1 i) (ih _ (fun j hj => ?_)))
    by_cases e : j = i
    · rw [e, pk_us]
    · rw [pk_un e]
      exact hs j (by omega)
theorem ye_passes {post : Int32 → SY → Prop} {nc nl g : Nat} {st : Nat → Nat} (hw : cd_wf nc nl st a_lSign a_lPred a_lA0 a_lA1 a_arity) (how : cd_own nc nl st a_lOwner)
    (eg : cg_base a_lPred a_arity (st nc) (cg_oc a_lA0 a_lA1 0 (st nc) && cg_oc a_lA0 a_lA1 1 (st nc)) 4 = g) (h5 : g ≤ 5) (hgt : yn_gt nc st a_lSign a_lPred a_lA0 a_lA1 a_arity a_gtab)
    (hun : ¬ cm_sat (cg_HY nc st a_lSign a_lPred a_lA0 a_lA1 a_arity) (fun q => q < 4 * nc) (fun _ => False))
    (h : ∀ (n : Nat) (y2 y3 : Int32) (kK kA kB kb a pL pP pS : Nat → Int32), cr_ky nc st a_lSign a_lPred a_lA0 a_lA1 n kK kA kB kb →
      post 1 (nI nc, nI nl, 1, nI n, f_bN, f_sealed, f_lastStep, f_cNodes, f_cSp, y2, y3, a_lSign, a_lPred, a_lA0, a_lA1, a_lOwner, a_arity, kK, kA, kB, kb, a_bKind, a_bA, a_bB, a_bBind, a_cCopy, a_cLit, a_cPar, a_cStk, a, a_gtab, pL, pP, pS)) :
    ∀ d p : Nat, p + d = 7 → ∀ a : Nat → Int32, ye_snd nc g st a_lSign a_lPred a_lA0 a_lA1 a_arity a → ye_lv nc g st a_lSign a_lPred a_lA0 a_lA1 a_arity (ye_C a) p →
      wY_prove_125 post (nI (2 * g)) (nI (3 ^ g)) (nI nc) (nI nl) f_kept f_kN f_bN f_sealed f_lastStep f_cNodes f_cSp f_pNodes f_pSp (d + 1) (nI p) a_lSign a_lPred a_lA0 a_lA1 a_lOwner a_arity a_kKind a_kA a_kB a_kBind a_bKind a_bA a_bB a_bBind a_cCopy a_cLit a_cPar a_cStk a a_gtab a_pLit a_pPar a_pStk := by
  have hnc := hw.1
  have hM := hw.2.2.2.2.1
  intro d
  induction d with
  | zero =>
    intro p hp a hs hl
    have : p = 7 := by omega
    subst this
    refine br_t (nI_le (a := 7) (b := 7) (Nat.le_refl _) (by decide)) ?_
    -- a start
    obtain ⟨R', r1, r2, r3⟩ := cm_thin (cg_HY nc st a_lSign a_lPred a_lA0 a_lA1 a_arity) (fun q => q < 4 * nc) (fun _ => False) hun (4 * nc)
    have hex : ∃ q, R' q := by
      apply Classical.byContradiction
      intro hno
      exact r2 ⟨fun _ => true, fun q hq => absurd ⟨q, hq⟩ hno, fun _ z => z.elim⟩
    obtain ⟨q0, hq0⟩ := hex
    have hq4 := r1 q0 hq0
    have hst := cd_mono' hw (c := q0 / 4 + 1) (d := nc) (by omega) (Nat.le_refl _)
    refine yb_build hw how eg h5 hgt hs hq4 (fun j j1 j2 => ?_) (fun n y2 y3 kK kA kB kb pL pP pS hk => ⟨rfl, rfl, br_f (by decide) (h n y2 y3 kK kA kB kb a pL pP pS hk)⟩)
    have hY := cg_YL_lt (q := q0) hw (show j < st nc by omega)
    rw [eg] at hY
    refine hl [] _ (cm_del R' q0) trivial (fun k hk => by cases hk) (by omega) (fun r hr => r1 r hr.1) ?_ (by decide)
    refine cm_goal_congr (fun _ => Iff.rfl) (fun k => ⟨fun z => z.elim, fun z => by cases z⟩) (cm_goal_next r2 (r3 q0 hq4 hq0) ⟨j, j1, j2, rfl⟩)
  | succ d ih =>
    intro p hp a hs hl
    refine br_f (nI_ge (b := 7) (by omega) (by decide)) ⟨_, ye_pass hw how eg h5 hgt (a0 := a) (fun a' _ hs' hp' => ?_) 2430 0 (by omega) a (fun _ y => y) hs (fun m s _ _ hlt => absurd hlt (Nat.not_lt_zero _))⟩
    rw [nI_1]
    exact ih (p + 1) (by omega) a' hs' (ye_lv_s hw eg h5 hl hp')
theorem ye_table {post : Int32 → SY → Prop} {nc nl g : Nat} {st : Nat → Nat} (hw : cd_wf nc nl st a_lSign a_lPred a_lA0 a_lA1 a_arity) (how : cd_own nc nl st a_lOwner)
    (eg : cg_base a_lPred a_arity (st nc) (cg_oc a_lA0 a_lA1 0 (st nc) && cg_oc a_lA0 a_lA1 1 (st nc)) 4 = g) (h5 : g ≤ 5) (hgt : yn_gt nc st a_lSign a_lPred a_lA0 a_lA1 a_arity a_gtab)
    (hun : ¬ cm_sat (cg_HY nc st a_lSign a_lPred a_lA0 a_lA1 a_arity) (fun q => q < 4 * nc) (fun _ => False))
    (h : ∀ (n : Nat) (y2 y3 : Int32) (kK kA kB kb a pL pP pS : Nat → Int32), cr_ky nc st a_lSign a_lPred a_lA0 a_lA1 n kK kA kB kb →
      post 1 (nI nc, nI nl, 1, nI n, f_bN, f_sealed, f_lastStep, f_cNodes, f_cSp, y2, y3, a_lSign, a_lPred, a_lA0, a_lA1, a_lOwner, a_arity, kK, kA, kB, kb, a_bKind, a_bA, a_bB, a_bBind, a_cCopy, a_cLit, a_cPar, a_cStk, a, a_gtab, pL, pP, pS)) :
    ∃ n92 : Nat, wY_prove_92 post (nI g) (nI nc) (nI nl) f_kept f_kN f_bN f_sealed f_lastStep f_cNodes f_cSp f_pNodes f_pSp n92 0 a_lSign a_lPred a_lA0 a_lA1 a_lOwner a_arity a_kKind a_kA a_kB a_kBind a_bKind a_bA a_bB a_bBind a_cCopy a_cLit a_cPar a_cStk a_cl a_gtab a_pLit a_pPar a_pStk := by
  refine loop_0 (fun n i s => wY_prove_92 post (nI g) (nI nc) (nI nl) f_kept f_kN f_bN f_sealed f_lastStep f_cNodes f_cSp f_pNodes f_pSp n (nI i) a_lSign a_lPred a_lA0 a_lA1 a_lOwner a_arity a_kKind a_kA a_kB a_kBind a_bKind a_bA a_bB a_bBind a_cCopy a_cLit a_cPar a_cStk s a_gtab a_pLit a_pPar a_pStk) (fun i s => ∀ j, j < i → s j = 0) 2430 a_cl (fun j hj => absurd hj (Nat.not_lt_zero j)) ?_ ?_
  · intro n s hs
    have e2 : 2 * nI g = nI (2 * g) := by rw [show (2 : Int32) = nI 2 from rfl, pk_mul]
    refine br_t (nI_le (a := 2430) (b := 2430) (Nat.le_refl _) (by decide)) (nm_r e2 ?_)
    refine yu_pow3 (by omega) ⟨8, ?_⟩
    exact ye_passes hw how eg h5 hgt hun h 7 0 (by omega) s (fun m t hm ht hC => absurd (hs (m * 243 + t) (by omega)) hC) ye_lv_0
  · intro n i s hi hs ih
    refine br_f (nI_ge (b := 2430) hi (by decide)) ⟨vp_in_nI hi (by decide), ?_⟩
    rw [ye_n0, nI_clamp (show i < 2 ^ 31 by omega)]
    refine nm_e (nm_r (nI_1 i) (ih _ (fun j hj => ?_)))
    by_cases e : j = i
    · rw [e, pk_us]
    · rw [pk_un e]
      exact hs j (by omega)
theorem yb_prove {post : Int32 → SY → Prop} {nc nl : Nat} {st : Nat → Nat} (hw : cd_wf nc nl st a_lSign a_lPred a_lA0 a_lA1 a_arity) (how : cd_own nc nl st a_lOwner)
    (hbig : ¬ cg_base a_lPred a_arity (st nc) (cg_oc a_lA0 a_lA1 0 (st nc) && cg_oc a_lA0 a_lA1 1 (st nc)) 4 ≤ 5 → post (-4) (nI nc, nI nl, f_kept, f_kN, f_bN, f_sealed, f_lastStep, f_cNodes, f_cSp, f_pNodes, f_pSp, a_lSign, a_lPred, a_lA0, a_lA1, a_lOwner, a_arity, a_kKind, a_kA, a_kB, a_kBind, a_bKind, a_bA, a_bB, a_bBind, a_cCopy, a_cLit, a_cPar, a_cStk, a_cl, a_gtab, a_pLit, a_pPar, a_pStk))
    (hno : cg_base a_lPred a_arity (st nc) (cg_oc a_lA0 a_lA1 0 (st nc) && cg_oc a_lA0 a_lA1 1 (st nc)) 4 ≤ 5 → cm_sat (cg_HY nc st a_lSign a_lPred a_lA0 a_lA1 a_arity) (fun q => q < 4 * nc) (fun _ => False) → ∀ gt : Nat → Int32,
      post 2 (nI nc, nI nl, 0, f_kN, f_bN, f_sealed, f_lastStep, f_cNodes, f_cSp, f_pNodes, f_pSp, a_lSign, a_lPred, a_lA0, a_lA1, a_lOwner, a_arity, a_kKind, a_kA, a_kB, a_kBind, a_bKind, a_bA, a_bB, a_bBind, a_cCopy, a_cLit, a_cPar, a_cStk, a_cl, gt, a_pLit, a_pPar, a_pStk))
    (hyes : cg_base a_lPred a_arity (st nc) (cg_oc a_lA0 a_lA1 0 (st nc) && cg_oc a_lA0 a_lA1 1 (st nc)) 4 ≤ 5 → ¬ cm_sat (cg_HY nc st a_lSign a_lPred a_lA0 a_lA1 a_arity) (fun q => q < 4 * nc) (fun _ => False) → ∀ (n : Nat) (y2 y3 : Int32) (kK kA kB kb a gt pL pP pS : Nat → Int32), cr_ky nc st a_lSign a_lPred a_lA0 a_lA1 n kK kA kB kb →
      post 1 (nI nc, nI nl, 1, nI n, f_bN, f_sealed, f_lastStep, f_cNodes, f_cSp, y2, y3, a_lSign, a_lPred, a_lA0, a_lA1, a_lOwner, a_arity, kK, kA, kB, kb, a_bKind, a_bA, a_bB, a_bBind, a_cCopy, a_cLit, a_cPar, a_cStk, a, gt, pL, pP, pS)) :
    wpY_prove post (nI nc, nI nl, f_kept, f_kN, f_bN, f_sealed, f_lastStep, f_cNodes, f_cSp, f_pNodes, f_pSp, a_lSign, a_lPred, a_lA0, a_lA1, a_lOwner, a_arity, a_kKind, a_kA, a_kB, a_kBind, a_bKind, a_bA, a_bB, a_bBind, a_cCopy, a_cLit, a_cPar, a_cStk, a_cl, a_gtab, a_pLit, a_pPar, a_pStk) := by
  have hnc := hw.1
  have hM := hw.2.2.2.2.1
  have hnl := hw.2.1
  refine yu_count hw how ?_
  have b16 := cg_base_16 (two := (cg_oc a_lA0 a_lA1 0 (st nc) && cg_oc a_lA0 a_lA1 1 (st nc))) hw
  refine pk_le _ 5 (fun h5 => ?_) (fun h5 => hbig (by omega)) rfl rfl b16 (by omega)
  generalize eg : cg_base a_lPred a_arity (st nc) (cg_oc a_lA0 a_lA1 0 (st nc) && cg_oc a_lA0 a_lA1 1 (st nc)) 4 = g at *
  have rows : ∀ d j : Nat, j + d = nl → ∀ gt : Nat → Int32, (∀ j' k, j' < j → j' < st nc → k < 4 → gt (j' * 4 + k) = nI (cg_YL nc st a_lSign a_lPred a_lA0 a_lA1 a_arity j' k)) →
      wY_prove_15 post (nI g) (nI nc) (nI nl) f_kept f_kN f_bN f_sealed f_lastStep f_cNodes f_cSp f_pNodes f_pSp (d + 1) (nI j) a_lSign a_lPred a_lA0 a_lA1 a_lOwner a_arity a_kKind a_kA a_kB a_kBind a_bKind a_bA a_bB a_bBind a_cCopy a_cLit a_cPar a_cStk a_cl gt a_pLit a_pPar a_pStk := by
    intro d
    induction d with
    | zero =>
      intro j hj gt hgt
      have hgt' : yn_gt nc st a_lSign a_lPred a_lA0 a_lA1 a_arity gt := fun j' k h1 h2 => hgt j' k (by omega) h1 h2
      refine br_t (nI_le (by omega) (by omega)) ?_
      refine yn_unsat hw how eg h5 hgt' (fun z => br_f (by decide) ?_) (fun z => br_t rfl (hno h5 z gt))
      exact ye_table hw how eg h5 hgt' z (fun n y2 y3 kK kA kB kb a pL pP pS hk => hyes h5 z n y2 y3 kK kA kB kb a gt pL pP pS hk)
    | succ d ih =>
      intro j hj gt hgt
      refine br_f (nI_ge (show j < nl by omega) (by omega)) ?_
      have hin : vp_in (nI j) 16 := vp_in_nI (by omega) (by decide)
      have inner : ∀ d2 k : Nat, k + d2 = 4 → ∀ gt : Nat → Int32, (∀ j' k, j' < j → j' < st nc → k < 4 → gt (j' * 4 + k) = nI (cg_YL nc st a_lSign a_lPred a_lA0 a_lA1 a_arity j' k)) → (∀ k', k' < k → j < st nc → gt (j * 4 + k') = nI (cg_YL nc st a_lSign a_lPred a_lA0 a_lA1 a_arity j k')) →
          wY_prove_25 post (wY_prove_15 post (nI g) (nI nc) (nI nl) f_kept f_kN f_bN f_sealed f_lastStep f_cNodes f_cSp f_pNodes f_pSp (d + 1)) (nI g) (nI j) (nI nc) (nI nl) f_kept f_kN f_bN f_sealed f_lastStep f_cNodes f_cSp f_pNodes f_pSp (d2 + 1) (nI k) a_lSign a_lPred a_lA0 a_lA1 a_lOwner a_arity a_kKind a_kA a_kB a_kBind a_bKind a_bA a_bB a_bBind a_cCopy a_cLit a_cPar a_cStk a_cl gt a_pLit a_pPar a_pStk := by
        intro d2
        induction d2 with
        | zero =>
          intro k hk gt hg1 hg2
          have : k = 4 := by omega
          subst this
          refine br_t (nI_le (a := 4) (b := 4) (Nat.le_refl _) (by decide)) (nm_r (nI_1 j) (ih (j + 1) (by omega) gt (fun j' k' h1 h2 h3 => ?_)))
          by_cases e : j' = j
          · subst e
            exact hg2 k' h3 h2
          · exact hg1 j' k' (by omega) h2 h3
        | succ d2 ih2 =>
          intro k hk gt hg1 hg2
          have eix : nI j * 4 + nI k = nI (j * 4 + k) := by
            rw [show (4 : Int32) = nI 4 from rfl, pk_mul, nI_add]
          have inI : vp_in (nI (j * 4 + k)) 64 := vp_in_nI (by omega) (by decide)
          have clI : (nI (j * 4 + k)).toNatClampNeg = j * 4 + k := nI_clamp (by omega)
          have next : ∀ x : Int32, (j < st nc → x = nI (cg_YL nc st a_lSign a_lPred a_lA0 a_lA1 a_arity j k)) → wY_prove_25 post (wY_prove_15 post (nI g) (nI nc) (nI nl) f_kept f_kN f_bN f_sealed f_lastStep f_cNodes f_cSp f_pNodes f_pSp (d + 1)) (nI g) (nI j) (nI nc) (nI nl) f_kept f_kN f_bN f_sealed f_lastStep f_cNodes f_cSp f_pNodes f_pSp (d2 + 1) (nI (k + 1)) a_lSign a_lPred a_lA0 a_lA1 a_lOwner a_arity a_kKind a_kA a_kB a_kBind a_bKind a_bA a_bB a_bBind a_cCopy a_cLit a_cPar a_cStk a_cl (upd gt (j * 4 + k) x) a_pLit a_pPar a_pStk := by
            intro x hx
            refine ih2 (k + 1) (by omega) _ (fun j' k' h1 h2 h3 => ?_) (fun k' h1 h2 => ?_)
            · rw [pk_un (by omega)]
              exact hg1 j' k' h1 h2 h3
            · by_cases e : k' = k
              · subst e
                rw [pk_us]
                exact hx h2
              · rw [pk_un (by omega)]
                exact hg2 k' (by omega) h2
          refine br_f (nI_ge (b := 4) (by omega) (by decide)) ⟨hin, ?_⟩
          rw [nI_clamp (show j < 2 ^ 31 by omega)]
          obtain ⟨c, hc, eo, b1, b2⟩ := how j (by omega)
          rw [eo]
          refine pk_le nc c (fun z => ?_) (fun z => ?_)
          · rw [eix, clI]
            refine ⟨inI, nm_e (nm_r (nI_1 k) (next 0 (fun hlt => ?_)))⟩
            have : c = nc := by omega
            subst this
            omega
          · rw [cd_en_lt z] at b2
            have hst := cd_mono' hw (c := c + 1) (d := nc) (by omega) (Nat.le_refl _)
            refine yu_lit hw how (show j < st nc by omega) (show k < 4 by omega) (q := k) (by omega) ?_
            rw [eix, clI]
            exact ⟨inI, nm_e (nm_r (nI_1 k) (next _ (fun _ => rfl)))⟩
      exact ⟨_, inner 4 0 (by omega) gt hgt (fun k' hk' => absurd hk' (Nat.not_lt_zero k'))⟩
  exact ⟨_, rows nl 0 (by omega) a_gtab (fun j' k hj' => absurd hj' (Nat.not_lt_zero j'))⟩
end
theorem i_vc_prove {k : Nat} {u : SX} {v : SY} (I : i_Rel k u v) (hk : k + 5 ≤ 2560) : wpX_prove (fun r u' => wpY_prove (fun r' v' => r' = r ∧ i_Rel (k + 5) u' v') v) u := by
  obtain ⟨nc, nl, st, sl, kp, ls, ns, bn, kc, kn, sg, pr, a0, a1, ar, cs, ow, xK, xA, xB, bd, yK, yA, yB, yb, kK, kA, kB, kI, zK, zA, zB, zb, lh, ph, x0, x1, x2, x3, y0, y1, y2, y3, X0, X1, X2, X3, X4, X5, X6, X7, X8, Y0, Y1, Y2, Y3, Y4, Y5, Y6, Y7, Y8, rfl, rfl, h⟩ := I
  obtain ⟨⟨hw, hcs, how⟩, hfx, h3, h4⟩ := id h
  refine xw_prove hw hcs hfx (fun hb => ?_) (fun h5 hs x1' x2' x3' ab il ih => ?_) (fun h5 hs n x0' x1' x2' x3' kK' kA' kB' kI' oc ol pc pl ph' ab il ih ri ql hp0 hkx => ?_)
  · exact yb_prove hw how (fun _ => ⟨rfl, i_mk h⟩) (fun h5 => absurd h5 hb) (fun h5 => absurd h5 hb)
  · exact yb_prove hw how (fun hb => absurd h5 hb) (fun _ _ gt => ⟨rfl, i_mk ⟨h.1, hfx, h3, Or.inl rfl⟩⟩) (fun _ hu => absurd (cg_XY.mp hs) hu)
  · exact yb_prove hw how (fun hb => absurd h5 hb) (fun _ hs' => absurd (cg_XY.mpr hs') hs) (fun _ _ n' y2' y3' zK' zA' zB' zb' a gt pL pP pS hky => ⟨rfl, i_mk ⟨h.1, ⟨hfx.1, hp0⟩, h3, Or.inr ⟨rfl, hkx, hky⟩⟩⟩)
