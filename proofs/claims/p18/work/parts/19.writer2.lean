/-- the writer's state before step m, with the goals L -/
def xw_inv (nc : Nat) (st : Nat → Nat) (sg pr a0 a1 ar : Nat → Int32) (m : Nat) (L : List ck_G) (q : Nat → Nat) (kK kA kB kI oc ol pc pl ph ri ql : Nat → Int32) : Prop :=
  1 ≤ m ∧ m + ck_pot L ≤ 190 ∧ ph 0 = 0 ∧ kK 0 = 0 ∧ kA 0 = nI (q 0 / 4) ∧ (∀ j, j < m → ¬ kK j = 2 → kI j = nI (q j) ∧ cg_RX nc st a0 a1 (q j)) ∧
  xw_stk nc st sg pr a0 a1 ar q kK pc pl ph ri ql oc ol m L ∧
  ck_rch nc st (cd_mk (st nc) sg) (cd_mk (st nc) pr) (cd_mk (st nc) a0) (cd_mk (st nc) a1) kK kA kB (fun j => q j / 2 % 2) (fun j => q j % 2) (ck_gl 0 16 [] (st (q 0 / 4 + 1) - st (q 0 / 4)) (st (q 0 / 4))) m L
theorem xw_pot_len {nc : Nat} {st q : Nat → Nat} {sg pr a0 a1 ar : Nat → Int32} {kK pc pl ph ri ql oc ol : Nat → Int32} {m : Nat} : ∀ {L : List ck_G}, xw_stk nc st sg pr a0 a1 ar q kK pc pl ph ri ql oc ol m L → L.length ≤ ck_pot L
  | [], _ => Nat.le_refl 0
  | g :: R, h => by
    have h1 := xw_pot_len h.2.2.2
    have ho := h.2.2.1.2.2.2.2.1
    have l5 := cq_cnt_le (g.2.2.map (xw_g nc st sg pr a0 a1 ar q))
    rw [cq_cnt_ok ho, List.length_map] at l5
    have h2 := cq_w_pos l5
    show (g :: R).length ≤ cq_w g.2.2.length + ck_pot R
    rw [List.length_cons]
    omega
theorem xw_gmem : ∀ (p : List (Nat × Nat)) (n : Nat), n < p.length → p.getD n (0, 0) ∈ p
  | [], n, h => absurd h (Nat.not_lt_zero n)
  | e :: p, 0, _ => by
    show e ∈ e :: p
    exact List.mem_cons_self
  | e :: p, n + 1, h => by
    rw [List.getD_cons_succ]
    exact List.mem_cons_of_mem e (xw_gmem p n (by rw [List.length_cons] at h; omega))
/-- a goal on top that is reduced -/
theorem xw_red_inv {nc nl : Nat} {st : Nat → Nat} {sg pr a0 a1 ar : Nat → Int32} (hw : cd_wf nc nl st sg pr a0 a1 ar) {m c l n : Nat} {p : List (Nat × Nat)} {R : List ck_G} {q : Nat → Nat} {kK kA kB kI oc ol pc pl ph ri ql : Nat → Int32}
    (hI : xw_inv nc st sg pr a0 a1 ar m ((c, l, p) :: R) q kK kA kB kI oc ol pc pl ph ri ql) (hn : n < p.length) (hg : xw_g nc st sg pr a0 a1 ar q (p.getD n (0, 0)) = cq_neg (xw_g nc st sg pr a0 a1 ar q (c, l))) {x : Int32} :
    xw_inv nc st sg pr a0 a1 ar (m + 1) R q (upd kK m 2) (upd kA m (nI (p.length - 1 - n))) (upd kB m x) kI oc ol pc pl ph ri ql := by
  obtain ⟨h1, h2, h3, h4, h5, h6, ⟨s1, s2, s3, s4⟩, h8⟩ := hI
  obtain ⟨g1, g2, g3, g4, g5, g6, g7, g8⟩ := s3
  try dsimp only at g1 g2 g3 g4 g5 g6 g7 g8
  have l5 := cq_cnt_le (p.map (xw_g nc st sg pr a0 a1 ar q))
  rw [cq_cnt_ok g5, List.length_map] at l5
  have wp := cq_w_pos l5
  have hpot : ck_pot ((c, l, p) :: R) = cq_w p.length + ck_pot R := rfl
  have hmem : p.getD n (0, 0) ∈ p := xw_gmem p n hn
  obtain ⟨e1, e2, e3⟩ := xw_ch_mem g4 _ hmem
  have hcX := (h6 c g1 g2).2
  have heX := (h6 _ (by omega) e2).2
  have kk : ∀ j, j < m → upd kK m 2 j = kK j := fun j hj => pk_un (by omega)
  have agr : ck_agr kK kA kB (fun j => q j / 2 % 2) (fun j => q j % 2) (upd kK m 2) (upd kA m (nI (p.length - 1 - n))) (upd kB m x) (fun j => q j / 2 % 2) (fun j => q j % 2) m := by
    intro j hj
    rw [pk_un (by omega), pk_un (by omega), pk_un (by omega)]
    exact ⟨rfl, rfl, rfl, fun _ => ⟨rfl, rfl⟩⟩
  refine ⟨by omega, by omega, h3, ?_, ?_, fun j hj hK => ?_, ?_, ?_⟩
  · rw [kk 0 (by omega)]
    exact h4
  · rw [pk_un (by omega)]
    exact h5
  · by_cases e : j = m
    · subst e
      rw [pk_us] at hK
      exact absurd rfl hK
    · rw [kk j (by omega)] at hK
      exact h6 j (by omega) hK
  · refine xw_stk_fr (by omega) (fun j hj => ⟨rfl, kk j hj, rfl, rfl, rfl, rfl, rfl⟩) (fun _ _ => ⟨rfl, rfl⟩) s4
  · refine ck_rch_red h8 h1 agr (e := p.length - 1 - n) (c2 := (p.getD n (0, 0)).1) (l2 := (p.getD n (0, 0)).2) pk_us pk_us (by omega) (by omega) ?_ g1 g2 (by omega) e2 (fun j hj hK => ⟨by omega, by omega⟩) ?_
    · have ee : p.length - 1 - (p.length - 1 - n) = n := by omega
      rw [ee]
    · have l1 := (show l < st nc by
        have := cd_mono' hw (c := q c / 4 + 1) (d := nc) (by have := hcX.1; omega) (Nat.le_refl _)
        have := g3.2
        try dsimp only at this
        omega)
      have l2 := (show (p.getD n (0, 0)).2 < st nc by
        have := cd_mono' hw (c := q (p.getD n (0, 0)).1 / 4 + 1) (d := nc) (by have := heX.1; omega) (Nat.le_refl _)
        have := e3.2
        omega)
      refine cg_conn hw l1 l2 hcX.2.1 hcX.2.2 heX.2.1 heX.2.2 ?_
      show xw_g nc st sg pr a0 a1 ar q (c, l) = cq_neg (xw_g nc st sg pr a0 a1 ar q (p.getD n (0, 0)))
      rw [hg, cq_neg_neg]
/-- a goal on top that is extended by the ground clause k / 3 -/
theorem xw_ext_inv {nc nl : Nat} {st : Nat → Nat} {sg pr a0 a1 ar il ih : Nat → Int32} (hw : cd_wf nc nl st sg pr a0 a1 ar) (htab : xi_tab nc st sg pr a0 a1 ar il ih)
    (h5 : cg_base pr ar (st nc) (cg_oc a0 a1 0 (st nc) && cg_oc a0 a1 1 (st nc)) 4 ≤ 5) {m c l k : Nat} {p : List (Nat × Nat)} {R : List ck_G} {q : Nat → Nat} {kK kA kB kI oc ol pc pl ph ri ql : Nat → Int32} {N G : Int32}
    (hI : xw_inv nc st sg pr a0 a1 ar m ((c, l, p) :: R) q kK kA kB kI oc ol pc pl ph ri ql) (hno : ∀ e, e ∈ p → ¬ xw_g nc st sg pr a0 a1 ar q e = cq_neg (xw_g nc st sg pr a0 a1 ar q (c, l)))
    (eG : G = ql c ||| ((1 : Int32) <<< (nI (xw_g nc st sg pr a0 a1 ar q (c, l)) &&& 31))) (hsub : ∀ r, xs_R N r → xs_R (ri c) r) (hun : ¬ cq_sat (cg_HX nc st sg pr a0 a1 ar) (xs_R N) (xs_G G))
    (hmin : ∀ r, xs_R N r → cq_sat (cg_HX nc st sg pr a0 a1 ar) (cq_del (xs_R N) r) (xs_G G)) (hk : k < 96) (hkN : bt N (k / 3) = true) (hkl : il k = nI (cq_neg (xw_g nc st sg pr a0 a1 ar q (c, l)))) :
    (k / 3 < 4 * nc ∧ st (k / 3 / 4) + k % 3 < st (k / 3 / 4 + 1)) ∧
    ∀ oc' ol' : Nat → Int32, (∀ j, j < R.length → oc' j = oc j ∧ ol' j = ol j) → xg_rep oc' ol' (nI m) R.length (xg_ls k (st (k / 3 / 4 + 1) - st (k / 3 / 4)) (3 * (k / 3))) →
      xw_inv nc st sg pr a0 a1 ar (m + 1) (ck_gl m (st (k / 3 / 4) + k % 3) ((c, l) :: p) (st (k / 3 / 4 + 1) - st (k / 3 / 4)) (st (k / 3 / 4)) ++ R) (cd_put q m (k / 3))
        (upd kK m 1) (upd kA m (nI (k / 3 / 4))) (upd kB m (nI (k % 3))) (upd kI m (nI (k / 3))) oc' ol' (upd pc m (nI c)) (upd pl m (nI (xw_lt st q (c, l)))) (upd ph m (nI (p.length + 1)))
        (upd ri m (N &&& (((1 : Int32) <<< (nI (k / 3) &&& 31)) ^^^ (-1)))) (upd ql m G) := by
  obtain ⟨h1, h2, h3, h4, h5', h6, ⟨s1, s2, s3, s4⟩, h8⟩ := hI
  obtain ⟨g1, g2, g3, g4, g5, g6, g7, g8⟩ := s3
  try dsimp only at g1 g2 g3 g4 g5 g6 g7 g8
  have hnc := hw.1
  have hcX := (h6 c g1 g2).2
  obtain ⟨r1, r2, r3, r4⟩ := xw_row (e := (c, l)) hw htab hcX g3
  try dsimp only at r3 r4
  have hK10 := cg_HX_lt hw h5 hcX.1 r3
  generalize hKK : xw_g nc st sg pr a0 a1 ar q (c, l) = K at *
  have hn10 := cq_neg_lt hK10
  have hRi : xs_R N (k / 3) := ⟨by omega, hkN⟩
  have hiX := g7 _ (hsub _ hRi)
  have hi4 := hiX.1
  obtain ⟨b1, b2, b3⟩ := cd_en_bd hw (show k / 3 / 4 ≤ nc by omega)
  rw [cd_en_lt (by omega)] at b1 b2 b3
  have hst := cd_mono' hw (c := k / 3 / 4 + 1) (d := nc) (by omega) (Nat.le_refl _)
  have row := (htab _ hiX).1 (k % 3) (by omega)
  have ek : 3 * (k / 3) + k % 3 = k := by omega
  rw [ek, hkl] at row
  have hlt : st (k / 3 / 4) + k % 3 < st (k / 3 / 4 + 1) := by
    apply Classical.byContradiction
    intro z
    rw [if_neg z] at row
    have := congrArg Int32.toInt row
    rw [nI_toInt (by omega), show (-1 : Int32).toInt = -1 from by decide] at this
    omega
  rw [if_pos hlt] at row
  have hpl := cg_HX_lt (m := cg_L sg pr a0 a1 ar (st nc) (st (k / 3 / 4) + k % 3) (k / 3 / 2 % 2) (k / 3 % 2)) hw h5 hi4 ⟨_, by omega, hlt, rfl⟩
  rw [nI_eq (by omega) (by omega)] at row
  have hKm : K ∉ p.map (xw_g nc st sg pr a0 a1 ar q) := fun z => cq_goal_new g8 ((g6 K).mpr z)
  have hKn : cq_neg K ∉ p.map (xw_g nc st sg pr a0 a1 ar q) := by
    intro z
    obtain ⟨e, he, ee⟩ := List.mem_map.mp z
    exact hno e he ee
  obtain ⟨len4, ok2⟩ := cq_len4 g5 (by omega) hKm hKn
  rw [List.length_map] at len4
  refine ⟨⟨hi4, hlt⟩, fun oc' ol' hag hrep => ?_⟩
  have qlt : ∀ j, j < m → cd_put q m (k / 3) j = q j := fun j hj => cd_put_n (by omega)
  have kk : ∀ j, j < m → upd kK m 1 j = kK j := fun j hj => pk_un (by omega)
  have fr : xw_fr q (cd_put q m (k / 3)) kK (upd kK m 1) pc (upd pc m (nI c)) pl (upd pl m (nI (xw_lt st q (c, l)))) ph (upd ph m (nI (p.length + 1))) ri (upd ri m (N &&& (((1 : Int32) <<< (nI (k / 3) &&& 31)) ^^^ (-1)))) ql (upd ql m G) m := by
    intro j hj
    rw [pk_un (by omega), pk_un (by omega), pk_un (by omega), pk_un (by omega), pk_un (by omega), pk_un (by omega)]
    exact ⟨qlt j hj, rfl, rfl, rfl, rfl, rfl, rfl⟩
  have agr : ck_agr kK kA kB (fun j => q j / 2 % 2) (fun j => q j % 2) (upd kK m 1) (upd kA m (nI (k / 3 / 4))) (upd kB m (nI (k % 3))) (fun j => cd_put q m (k / 3) j / 2 % 2) (fun j => cd_put q m (k / 3) j % 2) m := by
    intro j hj
    rw [pk_un (by omega), pk_un (by omega), pk_un (by omega)]
    refine ⟨rfl, rfl, rfl, fun _ => ?_⟩
    try dsimp only
    rw [qlt j hj]
    exact ⟨rfl, rfl⟩
  have q0 : cd_put q m (k / 3) 0 = q 0 := qlt 0 (by omega)
  have hX' : ∀ j, j < m + 1 → ¬ upd kK m 1 j = 2 → upd kI m (nI (k / 3)) j = nI (cd_put q m (k / 3) j) ∧ cg_RX nc st a0 a1 (cd_put q m (k / 3) j) := by
    intro j hj hK
    by_cases e : j = m
    · subst e
      rw [pk_us, cd_put_s]
      exact ⟨rfl, hiX⟩
    · rw [kk j (by omega)] at hK
      rw [pk_un e, cd_put_n e]
      exact h6 j (by omega) hK
  -- the goals of the new copy
  have em : ((c, l) :: p).map (xw_g nc st sg pr a0 a1 ar (cd_put q m (k / 3))) = K :: p.map (xw_g nc st sg pr a0 a1 ar q) := by
    rw [xw_map_fr (q := q) (fun e he => ?_), List.map_cons, hKK]
    rcases List.mem_cons.mp he with z | z
    · rw [z]
      exact qlt c g1
    · exact qlt e.1 (by have := (xw_ch_mem g4 e z).1; omega)
  have hGm : ∀ x, xs_G G x ↔ x ∈ K :: p.map (xw_g nc st sg pr a0 a1 ar q) := by
    intro x
    rw [eG, xs_G_add hK10 x, List.mem_cons]
    unfold cq_add
    rw [g6 x]
    exact Or.comm
  have newg : ∀ i', i' < st (k / 3 / 4 + 1) - st (k / 3 / 4) → xw_goal nc st sg pr a0 a1 ar (cd_put q m (k / 3)) (upd kK m 1) (upd pc m (nI c)) (upd pl m (nI (xw_lt st q (c, l)))) (upd ph m (nI (p.length + 1))) (upd ri m (N &&& (((1 : Int32) <<< (nI (k / 3) &&& 31)) ^^^ (-1)))) (upd ql m G) (m + 1) (m, i' + st (k / 3 / 4), (c, l) :: p) := by
    intro i' hi'
    unfold xw_goal
    try dsimp only
    rw [em, pk_us, pk_us, pk_us]
    refine ⟨by omega, by decide, ?_, ?_, ok2, hGm, fun r hr => g7 r (hsub r ((xs_R_del (by omega) r).mp hr).1), ?_⟩
    · unfold xw_in
      try dsimp only
      rw [cd_put_s]
      exact ⟨by omega, by omega⟩
    · refine ⟨g1, by rw [kk c g1]; exact g2, ?_, pk_us, pk_us, ?_, xw_ch_fr fr g1 g4⟩
      · unfold xw_in at g3 ⊢
        try dsimp only at g3 ⊢
        rw [qlt c g1]
        exact g3
      · rw [pk_us]
        unfold xw_lt
        try dsimp only
        rw [qlt c g1]
    · refine cq_goal_congr (fun r => (xs_R_del (by omega) r).symm) (fun _ => Iff.rfl) (cq_goal_next hun (hmin _ hRi) ⟨i' + st (k / 3 / 4), by omega, by omega, ?_⟩)
      unfold xw_g
      try dsimp only
      rw [cd_put_s]
  have ls0 : xg_ls (st (k / 3 / 4) + k % 3) (st (k / 3 / 4 + 1) - st (k / 3 / 4)) (st (k / 3 / 4)) = (xg_ls (k % 3) (st (k / 3 / 4 + 1) - st (k / 3 / 4)) 0).map (fun l => l + st (k / 3 / 4)) := by
    have := xg_ls_shift (sk := k % 3) (d := st (k / 3 / 4)) (st (k / 3 / 4 + 1) - st (k / 3 / 4)) 0
    rw [Nat.zero_add, Nat.add_comm (k % 3)] at this
    exact this
  have ls1 : xg_ls k (st (k / 3 / 4 + 1) - st (k / 3 / 4)) (3 * (k / 3)) = (xg_ls (k % 3) (st (k / 3 / 4 + 1) - st (k / 3 / 4)) 0).map (fun l => l + 3 * (k / 3)) := by
    have := xg_ls_shift (sk := k % 3) (d := 3 * (k / 3)) (st (k / 3 / 4 + 1) - st (k / 3 / 4)) 0
    rw [Nat.zero_add, Nat.add_comm (k % 3), ek] at this
    exact this
  have glen : (ck_gl m (st (k / 3 / 4) + k % 3) ((c, l) :: p) (st (k / 3 / 4 + 1) - st (k / 3 / 4)) (st (k / 3 / 4))).length ≤ 2 := by
    have := ck_gl_len' (copy := m) (sk := st (k / 3 / 4) + k % 3) (p := (c, l) :: p) (st (k / 3 / 4 + 1) - st (k / 3 / 4)) (st (k / 3 / 4)) (by omega) (by omega)
    omega
  have hpot : ck_pot ((c, l, p) :: R) = cq_w p.length + ck_pot R := rfl
  have hw1 := cq_w_succ len4
  refine ⟨by omega, ?_, ?_, ?_, ?_, hX', ?_, ?_⟩
  · rw [ck_pot_app, ck_pot_gl, List.length_cons]
    have : (ck_gl m (st (k / 3 / 4) + k % 3) ((c, l) :: p) (st (k / 3 / 4 + 1) - st (k / 3 / 4)) (st (k / 3 / 4))).length * cq_w (p.length + 1) ≤ 2 * cq_w (p.length + 1) := Nat.mul_le_mul_right _ glen
    omega
  · rw [pk_un (by omega)]
    exact h3
  · rw [kk 0 (by omega)]
    exact h4
  · rw [pk_un (by omega), q0]
    exact h5'
  · rw [xg_gl, ls0]
    rw [ls1] at hrep
    refine xw_stk_app (by rw [cd_put_s]) (by rw [cd_put_s]) (xw_stk_fr (by omega) fr hag s4) (fun i' hi' => ?_) hrep
    have := xg_ls_mem hi'
    exact newg i' (by omega)
  · rw [q0]
    refine ck_rch_ext h8 h1 agr (a := k / 3 / 4) (bb := k % 3) pk_us pk_us pk_us hnc (by omega) (by omega) (by omega) g1 g2 (fun j hj hK => ⟨by omega, by omega⟩) ?_
    have hcX' := hX' c (by omega) (by rw [kk c g1]; exact g2)
    have hmX' := hX' m (by omega) (by rw [pk_us]; decide)
    refine cg_conn hw r4 (show st (k / 3 / 4) + k % 3 < st nc by omega) hcX'.2.2.1 hcX'.2.2.2 hmX'.2.2.1 hmX'.2.2.2 ?_
    show xw_g nc st sg pr a0 a1 ar (cd_put q m (k / 3)) (c, l) = cq_neg (xw_g nc st sg pr a0 a1 ar (cd_put q m (k / 3)) (m, st (k / 3 / 4) + k % 3))
    have x1 : xw_g nc st sg pr a0 a1 ar (cd_put q m (k / 3)) (c, l) = K := by
      rw [← hKK]
      unfold xw_g
      try dsimp only
      rw [qlt c g1]
    have x2 : xw_g nc st sg pr a0 a1 ar (cd_put q m (k / 3)) (m, st (k / 3 / 4) + k % 3) = cq_neg K := by
      unfold xw_g
      try dsimp only
      rw [cd_put_s]
      exact row.symm
    rw [x1, x2, cq_neg_neg]
