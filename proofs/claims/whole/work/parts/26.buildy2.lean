/-- Y's writer before step m, with the goals L and N nodes -/
def yb_v0 (nc : Nat) (st : Nat → Nat) (a0 a1 : Nat → Int32) (q : Nat → Nat) : Nat → Nat := fun j => cg_uc (cg_oc a0 a1 0 (st nc)) (cg_oc a0 a1 1 (st nc)) (q j % 4 % 2)
def yb_v1 (nc : Nat) (st : Nat → Nat) (a0 a1 : Nat → Int32) (q : Nat → Nat) : Nat → Nat := fun j => cg_uc (cg_oc a0 a1 0 (st nc)) (cg_oc a0 a1 1 (st nc)) (q j % 4 / 2)
def yb_inv (nc : Nat) (st : Nat → Nat) (sg pr a0 a1 ar : Nat → Int32) (C : Nat → Nat → Prop) (m : Nat) (L : List ck_G) (q : Nat → Nat) (N : Nat) (kK kA kB kb pL pP pS : Nat → Int32) : Prop :=
  1 ≤ m ∧ m + ck_pot L ≤ 190 ∧ N + 1 = m + L.length ∧ kK 0 = 0 ∧ kA 0 = nI (q 0 / 4) ∧
  (∀ j, j < m → ¬ kK j = 2 → q j < 4 * nc ∧ kb (2 * j) = nI (yb_v0 nc st a0 a1 q j) ∧ kb (2 * j + 1) = nI (yb_v1 nc st a0 a1 q j)) ∧
  (∀ t, t < 512 → kb t = -1 ∨ kb t = 0 ∨ kb t = 1) ∧ yb_stk nc st sg pr a0 a1 ar q kK C pL pP pS m N L ∧
  ck_rch nc st (cd_mk (st nc) sg) (cd_mk (st nc) pr) (cd_mk (st nc) a0) (cd_mk (st nc) a1) kK kA kB (yb_v0 nc st a0 a1 q) (yb_v1 nc st a0 a1 q) (ck_gl 0 16 [] (st (q 0 / 4 + 1) - st (q 0 / 4)) (st (q 0 / 4))) m L
theorem yb_v_U (nc : Nat) (st : Nat → Nat) (a0 a1 : Nat → Int32) (q : Nat → Nat) (j : Nat) : cg_U (cg_oc a0 a1 0 (st nc)) (cg_oc a0 a1 1 (st nc)) (yb_v0 nc st a0 a1 q j) ∧ cg_U (cg_oc a0 a1 0 (st nc)) (cg_oc a0 a1 1 (st nc)) (yb_v1 nc st a0 a1 q j) :=
  ⟨cg_uc_U _ _ (by omega), cg_uc_U _ _ (by omega)⟩
theorem yb_pot_len {nc : Nat} {st q : Nat → Nat} {sg pr a0 a1 ar kK : Nat → Int32} {C : Nat → Nat → Prop} {pL pP pS : Nat → Int32} {m N : Nat} : ∀ {L : List ck_G}, yb_stk nc st sg pr a0 a1 ar q kK C pL pP pS m N L → L.length ≤ ck_pot L
  | [], _ => Nat.le_refl 0
  | g :: R, h => by
    have h1 := yb_pot_len h.2.2
    have ho := h.2.1.2.2.2.2.1
    have l5 := cm_cnt_le (g.2.2.map (yb_F nc st sg pr a0 a1 ar q))
    rw [cm_cnt_ok ho, List.length_map] at l5
    have h2 := cm_w_pos l5
    show (g :: R).length ≤ cm_w g.2.2.length + ck_pot R
    rw [List.length_cons]
    omega
theorem yb_end {nc : Nat} {st q : Nat → Nat} {sg pr a0 a1 ar : Nat → Int32} {C : Nat → Nat → Prop} {m N : Nat} {kK kA kB kb pL pP pS : Nat → Int32} (hnc : nc ≤ 8) (hI : yb_inv nc st sg pr a0 a1 ar C m [] q N kK kA kB kb pL pP pS) :
    cr_ky nc st sg pr a0 a1 m kK kA kB kb := by
  obtain ⟨h1, h2, h3, h4, h5, h6, h7, h8, h9⟩ := hI
  have hq0 := (h6 0 (by omega) (by rw [h4]; decide)).1
  refine ⟨yb_v0 nc st a0 a1 q, yb_v1 nc st a0 a1 q, by omega, fun j hj hK => ?_, h7, ck_rch_end h1 h4 h5 hnc (by omega) h9⟩
  obtain ⟨_, y1, y2⟩ := h6 j hj hK
  exact ⟨cg_U_lt (yb_v_U nc st a0 a1 q j).1, cg_U_lt (yb_v_U nc st a0 a1 q j).2, y1, y2⟩
theorem yb_red_inv {nc nl : Nat} {st : Nat → Nat} {sg pr a0 a1 ar : Nat → Int32} (hw : cd_wf nc nl st sg pr a0 a1 ar) {C : Nat → Nat → Prop} {m c l n N : Nat} {p : List (Nat × Nat)} {R : List ck_G} {q : Nat → Nat} {kK kA kB kb pL pP pS : Nat → Int32}
    (hI : yb_inv nc st sg pr a0 a1 ar C m ((c, l, p) :: R) q N kK kA kB kb pL pP pS) (hn : n < p.length) (hg : yb_F nc st sg pr a0 a1 ar q (p.getD n (0, 0)) = cm_neg (yb_F nc st sg pr a0 a1 ar q (c, l))) {x : Int32} :
    yb_inv nc st sg pr a0 a1 ar C (m + 1) R q N (upd kK m 2) (upd kA m (nI (p.length - 1 - n))) (upd kB m x) kb pL pP pS := by
  obtain ⟨h1, h2, h3, h4, h5, h6, h7, ⟨s1, s3, s4⟩, h8⟩ := hI
  obtain ⟨g1, g2, g3, g4, g5, g6, g7⟩ := s3
  try dsimp only at g1 g2 g3 g4 g5 g6 g7
  have l5 := cm_cnt_le (p.map (yb_F nc st sg pr a0 a1 ar q))
  rw [cm_cnt_ok g5, List.length_map] at l5
  have wp := cm_w_pos l5
  have hpot : ck_pot ((c, l, p) :: R) = cm_w p.length + ck_pot R := rfl
  rw [List.length_cons] at h3
  have hmem : p.getD n (0, 0) ∈ p := xw_gmem p n hn
  obtain ⟨e1, e2, e3⟩ := g4 _ hmem
  have hcX := (h6 c g1 g2).1
  have heX := (h6 _ e1 e2).1
  have kk : ∀ j, j < m → upd kK m 2 j = kK j := fun j hj => pk_un (by omega)
  have agr : ck_agr kK kA kB (yb_v0 nc st a0 a1 q) (yb_v1 nc st a0 a1 q) (upd kK m 2) (upd kA m (nI (p.length - 1 - n))) (upd kB m x) (yb_v0 nc st a0 a1 q) (yb_v1 nc st a0 a1 q) m := by
    intro j hj
    rw [pk_un (by omega), pk_un (by omega), pk_un (by omega)]
    exact ⟨rfl, rfl, rfl, fun _ => ⟨rfl, rfl⟩⟩
  refine ⟨by omega, by omega, by omega, ?_, ?_, fun j hj hK => ?_, h7, ?_, ?_⟩
  · rw [kk 0 (by omega)]
    exact h4
  · rw [pk_un (by omega)]
    exact h5
  · by_cases e : j = m
    · subst e
      rw [pk_us] at hK
      exact absurd rfl hK
    · rw [kk j (by omega)] at hK
      exact h6 j (by omega) hK
  · exact yb_stk_fr (by omega) (Nat.le_refl _) (fun j hj => ⟨rfl, kk j hj⟩) (fun _ _ => ⟨rfl, rfl⟩) (fun _ _ => rfl) s4
  · refine ck_rch_red h8 h1 agr (e := p.length - 1 - n) (c2 := (p.getD n (0, 0)).1) (l2 := (p.getD n (0, 0)).2) pk_us pk_us (by omega) (by omega) ?_ g1 g2 e1 e2 (fun j hj hK => ⟨cg_U_lt (yb_v_U nc st a0 a1 q j).1, cg_U_lt (yb_v_U nc st a0 a1 q j).2⟩) ?_
    · have ee : p.length - 1 - (p.length - 1 - n) = n := by omega
      rw [ee]
    · have l1 : l < st nc := by
        have y := cd_mono' hw (c := q c / 4 + 1) (d := nc) (by omega) (Nat.le_refl _)
        have z := g3.2
        try dsimp only at z
        omega
      have l2 : (p.getD n (0, 0)).2 < st nc := by
        have y := cd_mono' hw (c := q (p.getD n (0, 0)).1 / 4 + 1) (d := nc) (by omega) (Nat.le_refl _)
        have z := e3.2
        omega
      refine cg_conn hw l1 l2 (yb_v_U nc st a0 a1 q c).1 (yb_v_U nc st a0 a1 q c).2 (yb_v_U nc st a0 a1 q _).1 (yb_v_U nc st a0 a1 q _).2 ?_
      show yb_F nc st sg pr a0 a1 ar q (c, l) = cm_neg (yb_F nc st sg pr a0 a1 ar q (p.getD n (0, 0)))
      rw [hg, cm_neg_neg]
theorem yb_ext_inv {nc nl g : Nat} {st : Nat → Nat} {sg pr a0 a1 ar : Nat → Int32} (hw : cd_wf nc nl st sg pr a0 a1 ar) (eg : cg_base pr ar (st nc) (cg_oc a0 a1 0 (st nc) && cg_oc a0 a1 1 (st nc)) 4 = g) (h5 : g ≤ 5) {C : Nat → Nat → Prop}
    {m c l N r j d : Nat} {p : List (Nat × Nat)} {R : List ck_G} {q : Nat → Nat} {kK kA kB kb pL pP pS : Nat → Int32}
    (hI : yb_inv nc st sg pr a0 a1 ar C m ((c, l, p) :: R) q N kK kA kB kb pL pP pS) (hd : d < N) (hnd : yb_nd pL pP (yb_F nc st sg pr a0 a1 ar q) p d (c, l))
    (hno : cm_neg (yb_F nc st sg pr a0 a1 ar q (c, l)) ∉ p.map (yb_F nc st sg pr a0 a1 ar q))
    (hat : ye_at nc st sg pr a0 a1 ar C (yb_F nc st sg pr a0 a1 ar q (c, l)) (yp_s (yb_F nc st sg pr a0 a1 ar q (c, l) :: p.map (yb_F nc st sg pr a0 a1 ar q))) r j)
    {kb' pL' pP' pS' : Nat → Int32} (hkb : ∀ t, t < 2 * m → kb' t = kb t) (hkb0 : kb' (2 * m) = nI (cg_uc (cg_oc a0 a1 0 (st nc)) (cg_oc a0 a1 1 (st nc)) (r % 4 % 2))) (hkb1 : kb' (2 * m + 1) = nI (cg_uc (cg_oc a0 a1 0 (st nc)) (cg_oc a0 a1 1 (st nc)) (r % 4 / 2)))
    (hkb3 : ∀ t, t < 512 → kb' t = -1 ∨ kb' t = 0 ∨ kb' t = 1)
    (hp' : ∀ i, i < N → pL' i = pL i ∧ pP' i = pP i) (hs' : ∀ i, i < R.length → pS' i = pS i) (hrep : yb_rep pL' pP' pS' (fun l' => cg_YL nc st sg pr a0 a1 ar l' r) (nI d) N R.length (xg_ls j (st (r / 4 + 1) - st (r / 4)) (st (r / 4)))) :
    yb_inv nc st sg pr a0 a1 ar C (m + 1) (ck_gl m j ((c, l) :: p) (st (r / 4 + 1) - st (r / 4)) (st (r / 4)) ++ R) (cd_put q m r) (N + (xg_ls j (st (r / 4 + 1) - st (r / 4)) (st (r / 4))).length)
      (upd kK m 1) (upd kA m (nI (r / 4))) (upd kB m (nI (j - st (r / 4)))) kb' pL' pP' pS' := by
  obtain ⟨h1, h2, h3, h4, h5', h6, h7, ⟨s1, s3, s4⟩, h8⟩ := hI
  obtain ⟨g1, g2, g3, g4, g5, g6, g7⟩ := s3
  try dsimp only at g1 g2 g3 g4 g5 g6 g7
  obtain ⟨r4, j1, j2, jK, jok⟩ := hat
  have hnc := hw.1
  have hcX := (h6 c g1 g2).1
  have l1 : l < st nc := by
    have y := cd_mono' hw (c := q c / 4 + 1) (d := nc) (by omega) (Nat.le_refl _)
    have z := g3.2
    try dsimp only at z
    omega
  have hst := cd_mono' hw (c := r / 4 + 1) (d := nc) (by omega) (Nat.le_refl _)
  obtain ⟨b1, b2, b3⟩ := cd_en_bd hw (show r / 4 ≤ nc by omega)
  rw [cd_en_lt (by omega)] at b1 b2 b3
  have hKlt : yb_F nc st sg pr a0 a1 ar q (c, l) < 2 * g := by
    have := cg_YL_lt (q := q c) hw l1
    rw [eg] at this
    exact this
  obtain ⟨len4, ok2⟩ := cm_len4 g5 (by omega) g6 hno
  rw [List.length_map] at len4
  rw [List.length_cons] at h3
  have qlt : ∀ i, i < m → cd_put q m r i = q i := fun i hi => cd_put_n (by omega)
  have kk : ∀ i, i < m → upd kK m 1 i = kK i := fun i hi => pk_un (by omega)
  have fF : ∀ e : Nat × Nat, e.1 < m → yb_F nc st sg pr a0 a1 ar (cd_put q m r) e = yb_F nc st sg pr a0 a1 ar q e := by
    intro e he
    unfold yb_F
    rw [qlt e.1 he]
  have v0lt : ∀ i, i < m → yb_v0 nc st a0 a1 (cd_put q m r) i = yb_v0 nc st a0 a1 q i ∧ yb_v1 nc st a0 a1 (cd_put q m r) i = yb_v1 nc st a0 a1 q i := by
    intro i hi
    unfold yb_v0 yb_v1
    rw [qlt i hi]
    exact ⟨rfl, rfl⟩
  have agr : ck_agr kK kA kB (yb_v0 nc st a0 a1 q) (yb_v1 nc st a0 a1 q) (upd kK m 1) (upd kA m (nI (r / 4))) (upd kB m (nI (j - st (r / 4)))) (yb_v0 nc st a0 a1 (cd_put q m r)) (yb_v1 nc st a0 a1 (cd_put q m r)) m := by
    intro i hi
    rw [pk_un (by omega), pk_un (by omega), pk_un (by omega)]
    exact ⟨rfl, rfl, rfl, fun _ => v0lt i hi⟩
  have q0 : cd_put q m r 0 = q 0 := qlt 0 (by omega)
  have em : ((c, l) :: p).map (yb_F nc st sg pr a0 a1 ar (cd_put q m r)) = yb_F nc st sg pr a0 a1 ar q (c, l) :: p.map (yb_F nc st sg pr a0 a1 ar q) := by
    rw [List.map_cons, fF (c, l) g1]
    have : p.map (yb_F nc st sg pr a0 a1 ar (cd_put q m r)) = p.map (yb_F nc st sg pr a0 a1 ar q) := by
      apply List.map_congr_left
      intro e he
      exact fF e (g4 e he).1
    rw [this]
  have newg : ∀ l', st (r / 4) ≤ l' → l' < st (r / 4 + 1) → ¬ l' = j → yb_goal nc st sg pr a0 a1 ar (cd_put q m r) (upd kK m 1) C (m + 1) (m, l', (c, l) :: p) := by
    intro l' y1 y2 y3
    obtain ⟨k1, k2⟩ := jok l' y1 y2 y3
    have hY := cg_YL_lt (q := r) hw (show l' < st nc by omega)
    rw [eg] at hY
    have eF : yb_F nc st sg pr a0 a1 ar (cd_put q m r) (m, l') = cg_YL nc st sg pr a0 a1 ar l' r := by
      unfold yb_F
      try dsimp only
      rw [cd_put_s]
    unfold yb_goal
    try dsimp only
    rw [em, eF, pk_us]
    refine ⟨by omega, by decide, ?_, fun e he => ?_, ok2, fun z => k1 (((yp_ok ok2).2.2 _ (by omega)).mpr z), fun z => k2 (((yp_ok ok2).2.1 _ (by omega)).mpr (cm_us_false (fun y => k1 (((yp_ok ok2).2.2 _ (by omega)).mpr y)) z))⟩
    · unfold xw_in
      try dsimp only
      rw [cd_put_s]
      exact ⟨y1, y2⟩
    · rcases List.mem_cons.mp he with z | z
      · rw [z]
        refine ⟨by dsimp only; omega, by rw [kk c g1]; exact g2, ?_⟩
        unfold xw_in at g3 ⊢
        try dsimp only at g3 ⊢
        rw [qlt c g1]
        exact g3
      · obtain ⟨w1, w2, w3⟩ := g4 e z
        refine ⟨by omega, by rw [kk e.1 w1]; exact w2, ?_⟩
        unfold xw_in at w3 ⊢
        rw [qlt e.1 w1]
        exact w3
  have glen : (ck_gl m j ((c, l) :: p) (st (r / 4 + 1) - st (r / 4)) (st (r / 4))).length ≤ 2 := by
    have := ck_gl_len' (copy := m) (sk := j) (p := (c, l) :: p) (st (r / 4 + 1) - st (r / 4)) (st (r / 4)) j1 (by omega)
    omega
  have glen2 : (ck_gl m j ((c, l) :: p) (st (r / 4 + 1) - st (r / 4)) (st (r / 4))).length = (xg_ls j (st (r / 4 + 1) - st (r / 4)) (st (r / 4))).length := by
    rw [xg_gl, List.length_map]
  have hpot : ck_pot ((c, l, p) :: R) = cm_w p.length + ck_pot R := rfl
  have hw1 := cm_w_succ len4
  refine ⟨by omega, ?_, ?_, ?_, ?_, fun i hi hK => ?_, hkb3, ?_, ?_⟩
  · rw [ck_pot_app, ck_pot_gl, List.length_cons]
    have : (ck_gl m j ((c, l) :: p) (st (r / 4 + 1) - st (r / 4)) (st (r / 4))).length * cm_w (p.length + 1) ≤ 2 * cm_w (p.length + 1) := Nat.mul_le_mul_right _ glen
    omega
  · rw [List.length_append, glen2]
    omega
  · rw [kk 0 (by omega)]
    exact h4
  · rw [pk_un (by omega), q0]
    exact h5'
  · by_cases e : i = m
    · subst e
      unfold yb_v0 yb_v1
      rw [cd_put_s]
      exact ⟨r4, hkb0, hkb1⟩
    · rw [kk i (by omega)] at hK
      obtain ⟨w1, w2, w3⟩ := h6 i (by omega) hK
      obtain ⟨v1, v2⟩ := v0lt i (by omega)
      rw [qlt i (by omega), v1, v2, hkb (2 * i) (by omega), hkb (2 * i + 1) (by omega)]
      exact ⟨w1, w2, w3⟩
  · rw [xg_gl]
    have hnd' : yb_nd pL' pP' (yb_F nc st sg pr a0 a1 ar (cd_put q m r)) p d (c, l) := yb_nd_fr hp' hd (fF _ g1) (fun x hx => fF x (g4 x hx).1) hnd
    have hpar : ∀ d', N ≤ d' → ∀ l', pL' d' = nI (yb_F nc st sg pr a0 a1 ar (cd_put q m r) (m, l')) → pP' d' = nI d → yb_nd pL' pP' (yb_F nc st sg pr a0 a1 ar (cd_put q m r)) ((c, l) :: p) d' (m, l') := fun d' hd' l' y1 y2 => ⟨y1, d, by omega, y2, hnd'⟩
    refine yb_stk_app (N := N) (x4 := nI d) hpar (yb_stk_fr (by omega) (by omega) (fun i hi => ⟨qlt i hi, kk i hi⟩) hp' hs' s4) (Nat.le_refl _) (fun l' hl' => ?_) ?_
    · have := xg_ls_mem hl'
      exact newg l' (by omega) (by omega) this.2.2
    · have eF : (fun l' => yb_F nc st sg pr a0 a1 ar (cd_put q m r) (m, l')) = (fun l' => cg_YL nc st sg pr a0 a1 ar l' r) := by
        funext l'
        unfold yb_F
        try dsimp only
        rw [cd_put_s]
      rw [eF]
      exact hrep
  · rw [q0]
    have ej : st (r / 4) + (j - st (r / 4)) = j := by omega
    have hg2 : ck_gc (cd_mk (st nc) sg) (cd_mk (st nc) pr) (cd_mk (st nc) a0) (cd_mk (st nc) a1) (yb_v0 nc st a0 a1 (cd_put q m r)) (yb_v1 nc st a0 a1 (cd_put q m r)) c l m (st (r / 4) + (j - st (r / 4))) := by
      rw [ej]
      refine cg_conn hw l1 (show j < st nc by omega) (yb_v_U nc st a0 a1 _ c).1 (yb_v_U nc st a0 a1 _ c).2 (yb_v_U nc st a0 a1 _ m).1 (yb_v_U nc st a0 a1 _ m).2 ?_
      show yb_F nc st sg pr a0 a1 ar (cd_put q m r) (c, l) = cm_neg (yb_F nc st sg pr a0 a1 ar (cd_put q m r) (m, j))
      have x2 : yb_F nc st sg pr a0 a1 ar (cd_put q m r) (m, j) = cm_neg (yb_F nc st sg pr a0 a1 ar q (c, l)) := by
        unfold yb_F
        try dsimp only
        rw [cd_put_s]
        exact jK
      rw [fF (c, l) g1, x2, cm_neg_neg]
    have := ck_rch_ext h8 h1 agr (a := r / 4) (bb := j - st (r / 4)) pk_us pk_us pk_us hnc (by omega) (by omega) (by omega) g1 g2 (fun i hi hK => ⟨cg_U_lt (yb_v_U nc st a0 a1 (cd_put q m r) i).1, cg_U_lt (yb_v_U nc st a0 a1 (cd_put q m r) i).2⟩) hg2
    rw [ej] at this
    exact this
