section
variable {f_litCount f_clauseCount f_stepCount f_bufferSealed f_lastCheckStep f_keptCount f_proofKept f_openCount f_universeSize f_neededInstances f_givenLiterals : Int32} {a_litSign a_litPred a_litArg0 a_litArg1 a_clauseStart a_predArity a_stepKind a_stepA a_stepB a_binding a_keptKind a_keptA a_keptB a_keptInstance a_openCopy a_openLit a_parentCopy a_parentLit a_pathLength a_atomBase a_instanceLits a_instanceHolds a_literalHolds a_restInstances a_pathLiterals : Nat → Int32}
theorem xw_loop {post : St1 → Prop} {nc nl : Nat} {st : Nat → Nat} (hw : cd_wf nc nl st a_litSign a_litPred a_litArg0 a_litArg1 a_predArity) (hcs : ∀ c, c ≤ nc → a_clauseStart c = nI (st c))
    (hfx : ∀ ph : Nat → Int32, ph 0 = 0 → cr_fix a_literalHolds ph)
    (h5 : cg_base a_litPred a_predArity (st nc) (cg_oc a_litArg0 a_litArg1 0 (st nc) && cg_oc a_litArg0 a_litArg1 1 (st nc)) 4 ≤ 5)
    (htab : xi_tab nc st a_litSign a_litPred a_litArg0 a_litArg1 a_predArity a_instanceLits a_instanceHolds)
    (h : ∀ (n : Nat) (x0 x2 x3 : Int32) (kK kA kB kI oc ol pc pl ph ri ql : Nat → Int32), ph 0 = 0 → cr_kx nc st a_litSign a_litPred a_litArg0 a_litArg1 n kK kA kB kI →
      post (nI nl, nI nc, f_stepCount, f_bufferSealed, f_lastCheckStep, nI n, f_proofKept, x0, f_universeSize, x2, x3, a_litSign, a_litPred, a_litArg0, a_litArg1, a_clauseStart, a_predArity, a_stepKind, a_stepA, a_stepB, a_binding, kK, kA, kB, kI, oc, ol, pc, pl, ph, a_atomBase, a_instanceLits, a_instanceHolds, a_literalHolds, ri, ql)) :
    ∀ (r m : Nat) (L : List ck_G) (q : Nat → Nat) (x0 x2 x3 : Int32) (kK kA kB kI oc ol pc pl ph ri ql : Nat → Int32), ck_pot L ≤ r → x0 = nI L.length →
      xw_inv nc st a_litSign a_litPred a_litArg0 a_litArg1 a_predArity m L q kK kA kB kI oc ol pc pl ph ri ql →
      wX_writeProof_35 post (r + 1) (nI m) (nI nl) (nI nc) f_stepCount f_bufferSealed f_lastCheckStep f_keptCount f_proofKept x0 f_universeSize x2 x3 a_litSign a_litPred a_litArg0 a_litArg1 a_clauseStart a_predArity a_stepKind a_stepA a_stepB a_binding kK kA kB kI oc ol pc pl ph a_atomBase a_instanceLits a_instanceHolds a_literalHolds ri ql := by
  have hnc := hw.1
  intro r
  induction r with
  | zero =>
    intro m L q x0 x2 x3 kK kA kB kI oc ol pc pl ph ri ql hr ex hI
    have hlen := xw_pot_len hI.2.2.2.2.2.2.1
    have hL : L = [] := List.eq_nil_of_length_eq_zero (by omega)
    subst hL ex
    obtain ⟨h1, h2, h3, h4, h6, h7, h8, h9⟩ := hI
    have fin := h m (nI 0) x2 x3 kK kA kB kI oc ol pc pl ph ri ql h3 ⟨q, by omega, fun j hj hK => ⟨by have := (h7 j hj hK).2.1; omega, (h7 j hj hK).1⟩, ck_rch_end h1 h4 h6 hnc (by have := (h7 0 (by omega) (by rw [h4]; decide)).2.1; omega) h9⟩
    exact br_f (nI_ge (b := 256) (by omega) (by decide)) (br_t (by decide) fin)
  | succ r IH =>
    intro m L q x0 x2 x3 kK kA kB kI oc ol pc pl ph ri ql hr ex hI
    subst ex
    have hlen := xw_pot_len hI.2.2.2.2.2.2.1
    have hm2 := hI.2.1
    refine br_f (nI_ge (b := 256) (by omega) (by decide)) ?_
    match L, hI, hr, hlen, hm2 with
    | [], hI, _, _, _ =>
      obtain ⟨h1, h2, h3, h4, h6, h7, h8, h9⟩ := hI
      have fin := h m (nI 0) x2 x3 kK kA kB kI oc ol pc pl ph ri ql h3 ⟨q, by omega, fun j hj hK => ⟨by have := (h7 j hj hK).2.1; omega, (h7 j hj hK).1⟩, ck_rch_end h1 h4 h6 hnc (by have := (h7 0 (by omega) (by rw [h4]; decide)).2.1; omega) h9⟩
      exact br_t (by decide) fin
    | (c, l, p) :: R, hI, hr, hlen, hm2 =>
      obtain ⟨h1, h2, h3, h4, h6, h7, ⟨s1, s2, s3, s4⟩, h9⟩ := id hI
      obtain ⟨g1, g2, g3, g4, g5, g6, g7, g8⟩ := s3
      try dsimp only at g1 g2 g3 g4 g5 g6 g7 g8 s1 s2
      rw [List.length_cons] at hlen
      have hpot : ck_pot ((c, l, p) :: R) = cq_w p.length + ck_pot R := rfl
      have l5 := cq_cnt_le (p.map (xw_g nc st a_litSign a_litPred a_litArg0 a_litArg1 a_predArity q))
      rw [cq_cnt_ok g5, List.length_map] at l5
      have wp := cq_w_pos l5
      have hcX := (h7 c g1 g2).2
      obtain ⟨r1, r2, r3, r4⟩ := xw_row (e := (c, l)) hw htab hcX g3
      have hK10 := cg_HX_lt hw h5 hcX.1 r3
      have hinR : vp_in (nI R.length) 258 := vp_in_nI (by omega) (by decide)
      refine br_f (nI_nle (by rw [List.length_cons]; omega) (by rw [List.length_cons]; omega)) ?_
      refine nm_r (by rw [List.length_cons]; exact nI_pred R.length) ⟨hinR, hinR, ?_⟩
      rw [nI_clamp (show R.length < 2 ^ 31 by omega), s1, s2, nI_clamp (show xw_lt st q (c, l) < 2 ^ 31 by omega), r1, xw_neg _ hK10]
      refine ⟨vp_in_nI r2 (by decide), vp_in_nI (show c < 256 by omega) (by decide), ?_⟩
      rw [nI_clamp (show c < 2 ^ 31 by omega), (xw_ch_len g4).1]
      refine nm_e (nm_r (Int32.sub_eq_add_neg _ _) ⟨_, xw_find hw htab h5 (cq_neg_lt hK10) p c g4 (by omega) (fun e he => ?_) (fun n hn hg => ?_) (fun hno => ?_)⟩)
      · obtain ⟨e1, e2, _⟩ := xw_ch_mem g4 e he
        exact (h7 e.1 (by omega) e2).2
      · -- a reduction
        have hne : ¬ nI (p.length - 1 - n) = -1 := by
          intro z
          have := congrArg Int32.toInt z
          rw [nI_toInt (by omega), show (-1 : Int32).toInt = -1 from by decide] at this
          omega
        have hinm : vp_in (nI m) 256 := vp_in_nI (by omega) (by decide)
        refine br_f hne ⟨hinm, ?_⟩
        rw [nI_clamp (show m < 2 ^ 31 by omega)]
        refine nm_e ⟨hinm, nm_e ⟨hinm, nm_e (nm_r (nI_1 m) ?_)⟩⟩
        exact IH (m + 1) R q _ _ _ _ _ _ _ _ _ _ _ _ _ _ (by omega) rfl (xw_red_inv hw hI hn hg)
      · -- an extension
        refine br_t rfl ⟨hinR, hinR, ?_⟩
        refine ⟨vp_in_nI r2 (by decide), ?_⟩
        rw [nI_clamp (show xw_lt st q (c, l) < 2 ^ 31 by omega), r1, nI_clamp (show c < 2 ^ 31 by omega)]
        have hinc : vp_in (nI c) 256 := vp_in_nI (by omega) (by decide)
        refine nm_e ⟨hinc, nm_e ⟨hinc, nm_e ?_⟩⟩
        have hGa := xs_G_add (G := ql c) hK10
        refine xs_keep hw (hfx ph h3) h5 htab g7 (fun z => g8.2 (cq_sat_mono (fun _ y => y) (fun k y => (hGa k).mpr y) z)) (fun N hsub hun hmin => ?_)
        have hun2 : ¬ cq_sat (cg_HX nc st a_litSign a_litPred a_litArg0 a_litArg1 a_predArity) (xs_R N) (cq_add (xs_G (ql c)) (xw_g nc st a_litSign a_litPred a_litArg0 a_litArg1 a_predArity q (c, l))) :=
          fun z => hun (cq_sat_mono (fun _ y => y) (fun k y => (hGa k).mp y) z)
        have hnot : ¬ xs_G (ql c) (cq_neg (xw_g nc st a_litSign a_litPred a_litArg0 a_litArg1 a_predArity q (c, l))) := by
          intro z
          obtain ⟨e, he, ee⟩ := List.mem_map.mp ((g6 _).mp z)
          exact hno e he ee
        obtain ⟨i0, hi0, j0, j1, j2, j3⟩ := cq_partner g8.1 hun2 hsub hnot
        have hX0 := g7 _ (hsub _ hi0)
        have hX04 := hX0.1
        obtain ⟨b1, b2, b3⟩ := cd_en_bd hw (show i0 / 4 ≤ nc by omega)
        rw [cd_en_lt (by omega)] at b1 b2 b3
        have k0d : (3 * i0 + (j0 - st (i0 / 4))) / 3 = i0 := by omega
        have hil0 : a_instanceLits (3 * i0 + (j0 - st (i0 / 4))) = nI (cq_neg (xw_g nc st a_litSign a_litPred a_litArg0 a_litArg1 a_predArity q (c, l))) := by
          have row := (htab _ hX0).1 (j0 - st (i0 / 4)) (by omega)
          have ej : st (i0 / 4) + (j0 - st (i0 / 4)) = j0 := by omega
          rw [ej, if_pos j2, ← j3] at row
          exact row
        rw [xw_neg _ hK10]
        refine xs_find (k0 := 3 * i0 + (j0 - st (i0 / 4))) (by omega) (by rw [k0d]; exact hi0.2) hil0 (fun k hk hkN hkl => ?_)
        obtain ⟨⟨x4, xlt⟩, hinv⟩ := xw_ext_inv hw htab h5 hI hno rfl hsub hun hmin hk hkN hkl
        have e3 : nI k / 3 = nI (k / 3) := by
          rw [show (3 : Int32) = nI 3 from rfl, pk_div (by omega) (by omega) (by omega)]
        have e33 : 3 * nI (k / 3) = nI (3 * (k / 3)) := by
          rw [show (3 : Int32) = nI 3 from rfl, pk_mul]
        have esub : nI k - nI (3 * (k / 3)) = nI (k % 3) := by
          rw [pk_sub (by omega)]
          exact congrArg nI (by omega)
        refine ⟨by decide, nm_r e3 (nm_r e33 ?_)⟩
        rw [esub]
        refine xw_copy (show m < 256 by omega) (by omega) ?_
        refine xj_par (show m < 256 by omega) (show c < 256 by omega) (xw_ch_len g4).1 ?_
        refine ⟨by decide, ?_⟩
        have e34 : nI (k / 3) / 4 = nI (k / 3 / 4) := by
          rw [show (4 : Int32) = nI 4 from rfl, pk_div (by omega) (by omega) (by omega)]
        rw [e34]
        refine xl_len hw hcs (by omega) ?_
        rw [cd_en_lt (show k / 3 / 4 < nc by omega)]
        obtain ⟨d1, d2, d3⟩ := cd_en_bd hw (show k / 3 / 4 ≤ nc by omega)
        rw [cd_en_lt (by omega)] at d1 d2 d3
        have lsl : (xg_ls k (st (k / 3 / 4 + 1) - st (k / 3 / 4)) (3 * (k / 3))).length ≤ 3 := by
          have := ck_gl_len (copy := 0) (sk := k) (p := []) (st (k / 3 / 4 + 1) - st (k / 3 / 4)) (3 * (k / 3))
          rw [xg_gl, List.length_map] at this
          omega
        refine xg_open (sk := k) (fun j hj1 hj2 => nI_eq (by omega) (by omega)) (by omega) (by omega) (fun oc' ol' hag hrep => nm_r (nI_1 m) ?_)
        refine IH (m + 1) _ _ _ _ _ _ _ _ _ _ _ _ _ _ _ _ ?_ ?_ (hinv oc' ol' hag hrep)
        · have := (hinv oc' ol' hag hrep).2.1
          rw [ck_pot_app, ck_pot_gl, List.length_cons]
          have glen : (ck_gl m (st (k / 3 / 4) + k % 3) ((c, l) :: p) (st (k / 3 / 4 + 1) - st (k / 3 / 4)) (st (k / 3 / 4))).length ≤ 2 := by
            have := ck_gl_len' (copy := m) (sk := st (k / 3 / 4) + k % 3) (p := (c, l) :: p) (st (k / 3 / 4 + 1) - st (k / 3 / 4)) (st (k / 3 / 4)) (by omega) (by omega)
            omega
          have hKm : xw_g nc st a_litSign a_litPred a_litArg0 a_litArg1 a_predArity q (c, l) ∉ p.map (xw_g nc st a_litSign a_litPred a_litArg0 a_litArg1 a_predArity q) := fun z => cq_goal_new g8 ((g6 _).mpr z)
          have hKn : cq_neg (xw_g nc st a_litSign a_litPred a_litArg0 a_litArg1 a_predArity q (c, l)) ∉ p.map (xw_g nc st a_litSign a_litPred a_litArg0 a_litArg1 a_predArity q) := fun z => hnot ((g6 _).mpr z)
          have l4 := (cq_len4 g5 (by omega) hKm hKn).1
          rw [List.length_map] at l4
          have hw1 := cq_w_succ l4
          have : (ck_gl m (st (k / 3 / 4) + k % 3) ((c, l) :: p) (st (k / 3 / 4 + 1) - st (k / 3 / 4)) (st (k / 3 / 4))).length * cq_w (p.length + 1) ≤ 2 * cq_w (p.length + 1) := Nat.mul_le_mul_right _ glen
          omega
        · rw [List.length_append, xg_gl, List.length_map]
          have z1 := xg_ls_shift (sk := k % 3) (d := st (k / 3 / 4)) (st (k / 3 / 4 + 1) - st (k / 3 / 4)) 0
          have z2 := xg_ls_shift (sk := k % 3) (d := 3 * (k / 3)) (st (k / 3 / 4 + 1) - st (k / 3 / 4)) 0
          rw [Nat.zero_add, Nat.add_comm (k % 3)] at z1 z2
          have ek : 3 * (k / 3) + k % 3 = k := by omega
          rw [ek] at z2
          rw [z1, z2, List.length_map, List.length_map, Nat.add_comm]
theorem xw_write {post : St1 → Prop} {nc nl : Nat} {st : Nat → Nat} (hw : cd_wf nc nl st a_litSign a_litPred a_litArg0 a_litArg1 a_predArity) (hcs : ∀ c, c ≤ nc → a_clauseStart c = nI (st c))
    (hfx : cr_fix a_literalHolds a_pathLength)
    (h5 : cg_base a_litPred a_predArity (st nc) (cg_oc a_litArg0 a_litArg1 0 (st nc) && cg_oc a_litArg0 a_litArg1 1 (st nc)) 4 ≤ 5)
    (htab : xi_tab nc st a_litSign a_litPred a_litArg0 a_litArg1 a_predArity a_instanceLits a_instanceHolds)
    {N : Int32} (hN : ∀ r, xs_R N r → cg_RX nc st a_litArg0 a_litArg1 r) (hu : ¬ cq_sat (cg_HX nc st a_litSign a_litPred a_litArg0 a_litArg1 a_predArity) (xs_R N) (xs_G 0))
    (h : ∀ (n : Nat) (x0 x2 x3 : Int32) (kK kA kB kI oc ol pc pl ph ri ql : Nat → Int32), ph 0 = 0 → cr_kx nc st a_litSign a_litPred a_litArg0 a_litArg1 n kK kA kB kI →
      post (nI nl, nI nc, f_stepCount, f_bufferSealed, f_lastCheckStep, nI n, f_proofKept, x0, f_universeSize, x2, x3, a_litSign, a_litPred, a_litArg0, a_litArg1, a_clauseStart, a_predArity, a_stepKind, a_stepA, a_stepB, a_binding, kK, kA, kB, kI, oc, ol, pc, pl, ph, a_atomBase, a_instanceLits, a_instanceHolds, a_literalHolds, ri, ql)) :
    wpX_writeProof post (nI nl, nI nc, f_stepCount, f_bufferSealed, f_lastCheckStep, f_keptCount, f_proofKept, f_openCount, f_universeSize, N, 0, a_litSign, a_litPred, a_litArg0, a_litArg1, a_clauseStart, a_predArity, a_stepKind, a_stepA, a_stepB, a_binding, a_keptKind, a_keptA, a_keptB, a_keptInstance, a_openCopy, a_openLit, a_parentCopy, a_parentLit, a_pathLength, a_atomBase, a_instanceLits, a_instanceHolds, a_literalHolds, a_restInstances, a_pathLiterals) := by
  have hnc := hw.1
  refine xs_keep hw hfx h5 htab hN hu (fun R hsub hun hmin => ?_)
  have hex : ∃ r, xs_R R r := by
    apply Classical.byContradiction
    intro hno
    exact hun ⟨fun _ => true, fun r hr => absurd ⟨r, hr⟩ hno, fun m hm => absurd hm (xs_G_0 m)⟩
  obtain ⟨r0, hr0⟩ := hex
  refine xs_low hr0 (fun i hi => ?_)
  have hiX := hN _ (hsub _ hi)
  have hi4 := hiX.1
  obtain ⟨b1, b2, b3⟩ := cd_en_bd hw (show i / 4 ≤ nc by omega)
  rw [cd_en_lt (by omega)] at b1 b2 b3
  refine xw_copy (i := 0) (by omega) hi.1 ?_
  have e4 : nI i / 4 = nI (i / 4) := by
    rw [show (4 : Int32) = nI 4 from rfl, pk_div (by omega) (by omega) (by omega)]
  refine ⟨by decide, ?_⟩
  rw [e4]
  refine xl_len hw hcs (by omega) ?_
  rw [cd_en_lt (show i / 4 < nc by omega)]
  have e3 : 3 * nI i = nI (3 * i) := by
    rw [show (3 : Int32) = nI 3 from rfl, pk_mul]
  rw [e3]
  have lsl : (xg_ls 1000 (st (i / 4 + 1) - st (i / 4)) (3 * i)).length ≤ 3 := by
    have := ck_gl_len (copy := 0) (sk := 1000) (p := []) (st (i / 4 + 1) - st (i / 4)) (3 * i)
    rw [xg_gl, List.length_map] at this
    omega
  refine xg_open (base := 0) (sk := 1000) (fun j hj1 hj2 => ?_) (by omega) (by omega) (fun oc ol hag hrep => ?_)
  · constructor
    · intro z
      have := congrArg Int32.toInt z
      rw [nI_toInt (by omega), show (-1 : Int32).toInt = -1 from by decide] at this
      omega
    · intro z
      omega
  · have noskip : ∀ (sk n j : Nat), j + n ≤ sk → ∀ d, xg_ls (sk + d) n (j + d) = (xg_ls sk n j).map (fun l => l + d) := fun sk n j _ d => xg_ls_shift n j
    -- the literals 0 .. len - 1, none left out
    have free : ∀ (n j sk sk' : Nat), j + n ≤ sk → j + n ≤ sk' → xg_ls sk n j = xg_ls sk' n j := by
      intro n
      induction n with
      | zero => intro j sk sk' _ _; rfl
      | succ n ih =>
        intro j sk sk' h1 h2
        rw [xg_ls_f (by omega), xg_ls_f (by omega), ih (j + 1) sk sk' (by omega) (by omega)]
    have hst := cd_mono' hw (c := i / 4 + 1) (d := nc) (by omega) (Nat.le_refl _)
    have hnl := hw.2.1
    have hM := hw.2.2.2.2.1
    have ls0 : xg_ls 16 (st (i / 4 + 1) - st (i / 4)) (st (i / 4)) = (xg_ls 1000 (st (i / 4 + 1) - st (i / 4)) 0).map (fun l => l + st (i / 4)) := by
      have := xg_ls_shift (sk := 1000) (d := st (i / 4)) (st (i / 4 + 1) - st (i / 4)) 0
      rw [Nat.zero_add] at this
      rw [← this]
      exact free _ _ _ _ (by omega) (by omega)
    have ls1 : xg_ls 1000 (st (i / 4 + 1) - st (i / 4)) (3 * i) = (xg_ls 1000 (st (i / 4 + 1) - st (i / 4)) 0).map (fun l => l + 3 * i) := by
      have := xg_ls_shift (sk := 1000) (d := 3 * i) (st (i / 4 + 1) - st (i / 4)) 0
      rw [Nat.zero_add] at this
      rw [← this]
      exact free _ _ _ _ (by omega) (by omega)
    rw [ls1] at hrep lsl ⊢
    rw [List.length_map] at lsl ⊢
    refine ⟨191, ?_⟩
    have inv : xw_inv nc st a_litSign a_litPred a_litArg0 a_litArg1 a_predArity 1 (ck_gl 0 16 [] (st (i / 4 + 1) - st (i / 4)) (st (i / 4))) (fun _ => i)
        (upd a_keptKind 0 0) (upd a_keptA 0 (nI (i / 4))) (upd a_keptB 0 0) (upd a_keptInstance 0 (nI i)) oc ol a_parentCopy a_parentLit a_pathLength
        (upd a_restInstances 0 (R &&& (((1 : Int32) <<< (nI i &&& 31)) ^^^ (-1)))) (upd a_pathLiterals 0 0) := by
      refine ⟨by omega, ?_, hfx.2, pk_us, pk_us, fun j hj hK => ?_, ?_, ck_rch_1⟩
      · rw [ck_pot_gl, xg_gl, List.length_map, ls0, List.length_map]
        have e63 : cq_w ([] : List (Nat × Nat)).length = 63 := by decide
        rw [e63]
        omega
      · have : j = 0 := by omega
        subst this
        exact ⟨pk_us, hiX⟩
      · rw [xg_gl, ls0, ← List.append_nil (((xg_ls 1000 (st (i / 4 + 1) - st (i / 4)) 0).map (fun l => l + st (i / 4))).map (fun l => ((0, l, []) : ck_G)))]
        refine xw_stk_app (R := []) rfl rfl trivial (fun l' hl' => ?_) hrep
        have hl2 := xg_ls_mem hl'
        unfold xw_goal
        try dsimp only
        rw [pk_us, pk_us, pk_us]
        refine ⟨by omega, by decide, ⟨by dsimp only; omega, by dsimp only; omega⟩, hfx.2, trivial, fun k => ?_, fun r hr => hN r (hsub r ((xs_R_del hi.1 r).mp hr).1), ?_⟩
        · constructor
          · intro z
            exact absurd z (xs_G_0 k)
          · intro z
            cases z
        · exact cq_goal_congr (fun r => (xs_R_del hi.1 r).symm) (fun _ => Iff.rfl) (cq_goal_next hun (hmin _ hi) ⟨l' + st (i / 4), by omega, by omega, rfl⟩)
    refine xw_loop hw hcs (fun ph hph => ⟨hfx.1, hph⟩) h5 htab h 190 1 _ _ _ _ _ _ _ _ _ _ _ _ _ _ _ _ ?_ ?_ inv
    · have := inv.2.1
      omega
    · rw [xg_gl, List.length_map, ls0, List.length_map, Nat.zero_add]
theorem xw_prove {post : Int32 → St1 → Prop} {nc nl : Nat} {st : Nat → Nat} (hw : cd_wf nc nl st a_litSign a_litPred a_litArg0 a_litArg1 a_predArity) (hcs : ∀ c, c ≤ nc → a_clauseStart c = nI (st c))
    (hfx : cr_fix a_literalHolds a_pathLength)
    (hbig : ¬ cg_base a_litPred a_predArity (st nc) (cg_oc a_litArg0 a_litArg1 0 (st nc) && cg_oc a_litArg0 a_litArg1 1 (st nc)) 4 ≤ 5 → post (-4) (nI nl, nI nc, f_stepCount, f_bufferSealed, f_lastCheckStep, f_keptCount, f_proofKept, f_openCount, f_universeSize, f_neededInstances, f_givenLiterals, a_litSign, a_litPred, a_litArg0, a_litArg1, a_clauseStart, a_predArity, a_stepKind, a_stepA, a_stepB, a_binding, a_keptKind, a_keptA, a_keptB, a_keptInstance, a_openCopy, a_openLit, a_parentCopy, a_parentLit, a_pathLength, a_atomBase, a_instanceLits, a_instanceHolds, a_literalHolds, a_restInstances, a_pathLiterals))
    (hno : cg_base a_litPred a_predArity (st nc) (cg_oc a_litArg0 a_litArg1 0 (st nc) && cg_oc a_litArg0 a_litArg1 1 (st nc)) 4 ≤ 5 →
      cq_sat (cg_HX nc st a_litSign a_litPred a_litArg0 a_litArg1 a_predArity) (cg_RX nc st a_litArg0 a_litArg1) (fun _ => False) → ∀ (x1 x2 x3 : Int32) (ab il ih : Nat → Int32),
      post 2 (nI nl, nI nc, f_stepCount, f_bufferSealed, f_lastCheckStep, f_keptCount, 0, f_openCount, x1, x2, x3, a_litSign, a_litPred, a_litArg0, a_litArg1, a_clauseStart, a_predArity, a_stepKind, a_stepA, a_stepB, a_binding, a_keptKind, a_keptA, a_keptB, a_keptInstance, a_openCopy, a_openLit, a_parentCopy, a_parentLit, a_pathLength, ab, il, ih, a_literalHolds, a_restInstances, a_pathLiterals))
    (hyes : cg_base a_litPred a_predArity (st nc) (cg_oc a_litArg0 a_litArg1 0 (st nc) && cg_oc a_litArg0 a_litArg1 1 (st nc)) 4 ≤ 5 →
      ¬ cq_sat (cg_HX nc st a_litSign a_litPred a_litArg0 a_litArg1 a_predArity) (cg_RX nc st a_litArg0 a_litArg1) (fun _ => False) → ∀ (n : Nat) (x0 x1 x2 x3 : Int32) (kK kA kB kI oc ol pc pl ph ab il ih ri ql : Nat → Int32), ph 0 = 0 → cr_kx nc st a_litSign a_litPred a_litArg0 a_litArg1 n kK kA kB kI →
      post 1 (nI nl, nI nc, f_stepCount, f_bufferSealed, f_lastCheckStep, nI n, 1, x0, x1, x2, x3, a_litSign, a_litPred, a_litArg0, a_litArg1, a_clauseStart, a_predArity, a_stepKind, a_stepA, a_stepB, a_binding, kK, kA, kB, kI, oc, ol, pc, pl, ph, ab, il, ih, a_literalHolds, ri, ql)) :
    wpX_prove post (nI nl, nI nc, f_stepCount, f_bufferSealed, f_lastCheckStep, f_keptCount, f_proofKept, f_openCount, f_universeSize, f_neededInstances, f_givenLiterals, a_litSign, a_litPred, a_litArg0, a_litArg1, a_clauseStart, a_predArity, a_stepKind, a_stepA, a_stepB, a_binding, a_keptKind, a_keptA, a_keptB, a_keptInstance, a_openCopy, a_openLit, a_parentCopy, a_parentLit, a_pathLength, a_atomBase, a_instanceLits, a_instanceHolds, a_literalHolds, a_restInstances, a_pathLiterals) := by
  refine xu_count hw hcs ?_
  have b16 : cg_base a_litPred a_predArity (st nc) (cg_oc a_litArg0 a_litArg1 0 (st nc) && cg_oc a_litArg0 a_litArg1 1 (st nc)) 4 < 2 ^ 31 := cg_base_16 hw
  refine pk_le _ 5 (fun h5 => ?_) (fun h5 => hbig (by omega)) rfl rfl b16 (by omega)
  refine xi_all hw hcs hfx h5 (fun R x1 ab il ih hR htab => ?_)
  have conv : cq_sat (cg_HX nc st a_litSign a_litPred a_litArg0 a_litArg1 a_predArity) (xs_R R) (xs_G 0) ↔ cq_sat (cg_HX nc st a_litSign a_litPred a_litArg0 a_litArg1 a_predArity) (cg_RX nc st a_litArg0 a_litArg1) (fun _ => False) :=
    ⟨cq_sat_mono (fun r hr => (hR r).mpr hr) (fun _ z => z.elim), cq_sat_mono (fun r hr => (hR r).mp hr) (fun m z => absurd z (xs_G_0 m))⟩
  refine xs_test hw hfx h5 htab (fun r hr => (hR r).mp hr) (fun z => br_t rfl ?_) (fun w hw0 z => br_f hw0 ?_)
  · refine ⟨rfl, rfl, br_f (by decide) ?_⟩
    exact xw_write hw hcs hfx h5 htab (fun r hr => (hR r).mp hr) z (fun n x0 x2 x3 kK kA kB kI oc ol pc pl ph ri ql hp hk => hyes h5 (fun y => z (conv.mpr y)) n x0 x1 x2 x3 kK kA kB kI oc ol pc pl ph ab il ih ri ql hp hk)
  · exact ⟨rfl, rfl, br_t rfl (hno h5 (conv.mp z) x1 R 0 ab il ih)⟩
end
