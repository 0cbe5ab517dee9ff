/-! Y's writer: copy j is the ground clause q j; nodes as goals -/
def yb_F (nc : Nat) (st : Nat → Nat) (sg pr a0 a1 ar : Nat → Int32) (q : Nat → Nat) (e : Nat × Nat) : Nat := cg_YL nc st sg pr a0 a1 ar e.2 (q e.1)
def yb_nd (pL pP : Nat → Int32) (F : Nat × Nat → Nat) : List (Nat × Nat) → Nat → Nat × Nat → Prop
  | [], g, e => pL g = nI (F e) ∧ pP g = -1
  | e' :: p, g, e => pL g = nI (F e) ∧ ∃ g', g' < g ∧ pP g = nI g' ∧ yb_nd pL pP F p g' e'
theorem yb_nd_hd {pL pP : Nat → Int32} {F : Nat × Nat → Nat} : ∀ {p : List (Nat × Nat)} {g : Nat} {e : Nat × Nat}, yb_nd pL pP F p g e → pL g = nI (F e)
  | [], _, _, h => h.1
  | _ :: _, _, _, h => h.1
theorem yb_nd_len {pL pP : Nat → Int32} {F : Nat × Nat → Nat} : ∀ {p : List (Nat × Nat)} {g : Nat} {e : Nat × Nat}, yb_nd pL pP F p g e → p.length ≤ g
  | [], _, _, _ => Nat.zero_le _
  | e' :: p, g, _, h => by
    obtain ⟨_, g', h1, _, h2⟩ := h
    have := yb_nd_len h2
    rw [List.length_cons]
    omega
theorem yb_nd_fr {pL pP pL' pP' : Nat → Int32} {F F' : Nat × Nat → Nat} {N : Nat} (hf : ∀ j, j < N → pL' j = pL j ∧ pP' j = pP j) : ∀ {p : List (Nat × Nat)} {g : Nat} {e : Nat × Nat}, g < N → F' e = F e → (∀ x, x ∈ p → F' x = F x) → yb_nd pL pP F p g e → yb_nd pL' pP' F' p g e
  | [], g, e, hg, hF, _, h => by
    obtain ⟨f1, f2⟩ := hf g hg
    exact ⟨by rw [f1, hF]; exact h.1, by rw [f2]; exact h.2⟩
  | e' :: p, g, e, hg, hF, hp, h => by
    obtain ⟨f1, f2⟩ := hf g hg
    obtain ⟨h0, g', h1, h2, h3⟩ := h
    exact ⟨by rw [f1, hF]; exact h0, g', h1, by rw [f2]; exact h2, yb_nd_fr hf (by omega) (hp e' List.mem_cons_self) (fun x hx => hp x (List.mem_cons_of_mem e' hx)) h3⟩
def yb_goal (nc : Nat) (st : Nat → Nat) (sg pr a0 a1 ar : Nat → Int32) (q : Nat → Nat) (kK : Nat → Int32) (C : Nat → Nat → Prop) (m : Nat) (g : ck_G) : Prop :=
  g.1 < m ∧ ¬ kK g.1 = 2 ∧ xw_in st q (g.1, g.2.1) ∧ (∀ e, e ∈ g.2.2 → e.1 < m ∧ ¬ kK e.1 = 2 ∧ xw_in st q e) ∧ cm_ok (g.2.2.map (yb_F nc st sg pr a0 a1 ar q)) ∧
  yb_F nc st sg pr a0 a1 ar q (g.1, g.2.1) ∉ g.2.2.map (yb_F nc st sg pr a0 a1 ar q) ∧
  (cm_neg (yb_F nc st sg pr a0 a1 ar q (g.1, g.2.1)) ∉ g.2.2.map (yb_F nc st sg pr a0 a1 ar q) → C (yb_F nc st sg pr a0 a1 ar q (g.1, g.2.1)) (yp_s (g.2.2.map (yb_F nc st sg pr a0 a1 ar q))))
def yb_stk (nc : Nat) (st : Nat → Nat) (sg pr a0 a1 ar : Nat → Int32) (q : Nat → Nat) (kK : Nat → Int32) (C : Nat → Nat → Prop) (pL pP pS : Nat → Int32) (m N : Nat) : List ck_G → Prop
  | [] => True
  | g :: R => (∃ d, d < N ∧ pS R.length = nI d ∧ yb_nd pL pP (yb_F nc st sg pr a0 a1 ar q) g.2.2 d (g.1, g.2.1)) ∧ yb_goal nc st sg pr a0 a1 ar q kK C m g ∧ yb_stk nc st sg pr a0 a1 ar q kK C pL pP pS m N R
theorem yb_goal_fr {nc : Nat} {st q q' : Nat → Nat} {sg pr a0 a1 ar kK kK' : Nat → Int32} {C : Nat → Nat → Prop} {m m' : Nat} (hm : m ≤ m') (hf : ∀ j, j < m → q' j = q j ∧ kK' j = kK j) {g : ck_G}
    (h : yb_goal nc st sg pr a0 a1 ar q kK C m g) : yb_goal nc st sg pr a0 a1 ar q' kK' C m' g := by
  obtain ⟨h1, h2, h3, h4, h5, h6, h7⟩ := h
  obtain ⟨f1, f2⟩ := hf g.1 h1
  have em : g.2.2.map (yb_F nc st sg pr a0 a1 ar q') = g.2.2.map (yb_F nc st sg pr a0 a1 ar q) := by
    apply List.map_congr_left
    intro e he
    unfold yb_F
    rw [(hf e.1 (h4 e he).1).1]
  have ef : yb_F nc st sg pr a0 a1 ar q' (g.1, g.2.1) = yb_F nc st sg pr a0 a1 ar q (g.1, g.2.1) := by
    unfold yb_F
    try dsimp only
    rw [f1]
  unfold yb_goal
  rw [em, ef, f2]
  refine ⟨by omega, h2, ?_, fun e he => ?_, h5, h6, h7⟩
  · unfold xw_in at h3 ⊢
    try dsimp only at h3 ⊢
    rw [f1]
    exact h3
  · obtain ⟨y1, y2, y3⟩ := h4 e he
    obtain ⟨f3, f4⟩ := hf e.1 y1
    refine ⟨by omega, by rw [f4]; exact y2, ?_⟩
    unfold xw_in at y3 ⊢
    rw [f3]
    exact y3
theorem yb_stk_fr {nc : Nat} {st q q' : Nat → Nat} {sg pr a0 a1 ar kK kK' : Nat → Int32} {C : Nat → Nat → Prop} {pL pP pS pL' pP' pS' : Nat → Int32} {m m' N N' : Nat} (hm : m ≤ m') (hN : N ≤ N') (hf : ∀ j, j < m → q' j = q j ∧ kK' j = kK j)
    (hp : ∀ j, j < N → pL' j = pL j ∧ pP' j = pP j) : ∀ {L : List ck_G}, (∀ j, j < L.length → pS' j = pS j) → yb_stk nc st sg pr a0 a1 ar q kK C pL pP pS m N L → yb_stk nc st sg pr a0 a1 ar q' kK' C pL' pP' pS' m' N' L
  | [], _, _ => trivial
  | g :: R, hs, h => by
    obtain ⟨⟨d, h1, h2, h3⟩, h4, h5⟩ := h
    have fF : ∀ e : Nat × Nat, e.1 < m → yb_F nc st sg pr a0 a1 ar q' e = yb_F nc st sg pr a0 a1 ar q e := by
      intro e he
      unfold yb_F
      rw [(hf e.1 he).1]
    refine ⟨⟨d, by omega, ?_, yb_nd_fr hp h1 (fF _ h4.1) (fun x hx => fF x (h4.2.2.2.1 x hx).1) h3⟩, yb_goal_fr hm hf h4, yb_stk_fr hm hN hf hp (fun j hj => hs j (by rw [List.length_cons]; omega)) h5⟩
    rw [hs R.length (by rw [List.length_cons]; omega)]
    exact h2
def yb_rep (pL pP pS : Nat → Int32) (F : Nat → Nat) (x4 : Int32) (N S : Nat) : List Nat → Prop
  | [] => True
  | l :: ls => pL (N + ls.length) = nI (F l) ∧ pP (N + ls.length) = x4 ∧ pS (S + ls.length) = nI (N + ls.length) ∧ yb_rep pL pP pS F x4 N S ls
theorem yb_rep_fr {pL pP pS pL' pP' pS' : Nat → Int32} {F : Nat → Nat} {x4 : Int32} {N S : Nat} : ∀ {ls : List Nat}, (∀ j, j < N + ls.length → pL' j = pL j ∧ pP' j = pP j) → (∀ j, j < S + ls.length → pS' j = pS j) →
    yb_rep pL pP pS F x4 N S ls → yb_rep pL' pP' pS' F x4 N S ls
  | [], _, _, _ => trivial
  | l :: ls, ho, hs, h => by
    obtain ⟨o1, o2⟩ := ho (N + ls.length) (by rw [List.length_cons]; omega)
    have o4 := hs (S + ls.length) (by rw [List.length_cons]; omega)
    obtain ⟨h1, h2, h3, h5⟩ := h
    exact ⟨by rw [o1]; exact h1, by rw [o2]; exact h2, by rw [o4]; exact h3, yb_rep_fr (fun j hj => ho j (by rw [List.length_cons]; omega)) (fun j hj => hs j (by rw [List.length_cons]; omega)) h5⟩
theorem yb_stk_app {nc : Nat} {st q : Nat → Nat} {sg pr a0 a1 ar kK : Nat → Int32} {C : Nat → Nat → Prop} {pL pP pS : Nat → Int32} {m N N' copy : Nat} {x4 : Int32} {p : List (Nat × Nat)} {R : List ck_G}
    (hpar : ∀ d, N ≤ d → ∀ l, pL d = nI (yb_F nc st sg pr a0 a1 ar q (copy, l)) → pP d = x4 → yb_nd pL pP (yb_F nc st sg pr a0 a1 ar q) p d (copy, l)) (hR : yb_stk nc st sg pr a0 a1 ar q kK C pL pP pS m N' R) :
    ∀ {ls : List Nat}, N + ls.length ≤ N' → (∀ l, l ∈ ls → yb_goal nc st sg pr a0 a1 ar q kK C m (copy, l, p)) → yb_rep pL pP pS (fun l => yb_F nc st sg pr a0 a1 ar q (copy, l)) x4 N R.length ls →
      yb_stk nc st sg pr a0 a1 ar q kK C pL pP pS m N' (ls.map (fun l => (copy, l, p)) ++ R)
  | [], _, _, _ => hR
  | l :: ls, hN, hg, hr => by
    rw [List.length_cons] at hN
    have e : (ls.map (fun l => ((copy, l, p) : ck_G)) ++ R).length = R.length + ls.length := by
      rw [List.length_append, List.length_map]; omega
    obtain ⟨r1, r2, r3, r4⟩ := hr
    refine ⟨⟨N + ls.length, by omega, ?_, hpar _ (by omega) l r1 r2⟩, hg l List.mem_cons_self, yb_stk_app hpar hR (by omega) (fun l' h' => hg l' (List.mem_cons_of_mem l h')) r4⟩
    show pS (ls.map (fun l => ((copy, l, p) : ck_G)) ++ R).length = nI (N + ls.length)
    rw [e]
    exact r3
section
variable {f_clauseCount f_litCount f_kept f_kN f_bN f_sealed f_lastStep f_cNodes f_cSp f_pNodes f_pSp : Int32} {a_lSign a_lPred a_lA0 a_lA1 a_lOwner a_arity a_kKind a_kA a_kB a_kBind a_bKind a_bA a_bB a_bBind a_cCopy a_cLit a_cPar a_cStk a_cl a_gtab a_pLit a_pPar a_pStk : Nat → Int32}
theorem yb_push {post : Int32 → SY → Prop} {nc nl : Nat} {st : Nat → Nat} (hw : cd_wf nc nl st a_lSign a_lPred a_lA0 a_lA1 a_arity) (how : cd_own nc nl st a_lOwner) (hgt : yn_gt nc st a_lSign a_lPred a_lA0 a_lA1 a_arity a_gtab)
    {q N S sk : Nat} {x4 skI : Int32} (hq : q < 4 * nc) (hsk : ∀ j, j < nl → (nI j = skI ↔ j = sk)) (rN : N + (xg_ls sk (st (q / 4 + 1) - st (q / 4)) (st (q / 4))).length ≤ 256) (rS : S + (xg_ls sk (st (q / 4 + 1) - st (q / 4)) (st (q / 4))).length ≤ 256)
    (h : ∀ pL pP pS : Nat → Int32, (∀ j, j < N → pL j = a_pLit j ∧ pP j = a_pPar j) → (∀ j, j < S → pS j = a_pStk j) → yb_rep pL pP pS (fun l => cg_YL nc st a_lSign a_lPred a_lA0 a_lA1 a_arity l q) x4 N S (xg_ls sk (st (q / 4 + 1) - st (q / 4)) (st (q / 4))) →
      post 1 (nI nc, nI nl, f_kept, f_kN, f_bN, f_sealed, f_lastStep, f_cNodes, f_cSp, nI (N + (xg_ls sk (st (q / 4 + 1) - st (q / 4)) (st (q / 4))).length), nI (S + (xg_ls sk (st (q / 4 + 1) - st (q / 4)) (st (q / 4))).length), a_lSign, a_lPred, a_lA0, a_lA1, a_lOwner, a_arity, a_kKind, a_kA, a_kB, a_kBind, a_bKind, a_bA, a_bB, a_bBind, a_cCopy, a_cLit, a_cPar, a_cStk, a_cl, a_gtab, pL, pP, pS)) :
    wpY_pushP post (nI nc, nI nl, f_kept, f_kN, f_bN, f_sealed, f_lastStep, f_cNodes, f_cSp, nI N, nI S, a_lSign, a_lPred, a_lA0, a_lA1, a_lOwner, a_arity, a_kKind, a_kA, a_kB, a_kBind, a_bKind, a_bA, a_bB, a_bBind, a_cCopy, a_cLit, a_cPar, a_cStk, a_cl, a_gtab, a_pLit, a_pPar, a_pStk) (nI (q / 4)) (nI (q % 4)) skI x4 := by
  have hnc := hw.1
  have hM := hw.2.2.2.2.1
  have hnl := hw.2.1
  have hc : q / 4 < nc := by omega
  have een : cd_en nc nl st (q / 4) = st (q / 4 + 1) := cd_en_lt hc
  obtain ⟨b1, b2, b3⟩ := cd_en_bd hw (show q / 4 ≤ nc by omega)
  rw [een] at b1 b2 b3
  have hst := cd_mono' hw (c := q / 4 + 1) (d := nc) (by omega) (Nat.le_refl _)
  have key : ∀ k, k ≤ nl → ∀ (pL pP pS : Nat → Int32), (∀ j, j < N → pL j = a_pLit j ∧ pP j = a_pPar j) → (∀ j, j < S → pS j = a_pStk j) →
      yb_rep pL pP pS (fun l => cg_YL nc st a_lSign a_lPred a_lA0 a_lA1 a_arity l q) x4 N S (yg_l sk (st (q / 4)) (st (q / 4 + 1)) k) →
      wY_pushP_8 post (nI (q / 4)) (nI (q % 4)) skI x4 (nI nc) (nI nl) f_kept f_kN f_bN f_sealed f_lastStep f_cNodes f_cSp (k + 1) (nI k + (-1)) (nI (N + (yg_l sk (st (q / 4)) (st (q / 4 + 1)) k).length)) (nI (S + (yg_l sk (st (q / 4)) (st (q / 4 + 1)) k).length)) a_lSign a_lPred a_lA0 a_lA1 a_lOwner a_arity a_kKind a_kA a_kB a_kBind a_bKind a_bA a_bB a_bBind a_cCopy a_cLit a_cPar a_cStk a_cl a_gtab pL pP pS := by
    intro k
    induction k with
    | zero =>
      intro _ pL pP pS hag hs hrep
      rw [yg_l_0] at hrep ⊢
      exact br_t (by decide) (h pL pP pS hag hs hrep)
    | succ k ih =>
      intro hk pL pP pS hag hs hrep
      rw [pk_m1]
      have ih2 := ih (by omega)
      refine br_f (nI_pos (by omega)) ⟨vp_in_nI (by omega) (by decide), ?_⟩
      rw [nI_clamp (show k < 2 ^ 31 by omega)]
      have oi := cd_own_iff hw how (show k < nl by omega) (show q / 4 ≤ nc by omega)
      rw [een] at oi
      refine ek_if oi (fun z => ?_) (fun z => nm_e ?_)
      · rw [yg_l_in z.1 z.2] at ih2
        refine ek_if (hsk k (by omega)) (fun e => nm_e ?_) (fun e => ?_)
        · rw [if_pos e] at ih2
          exact ih2 pL pP pS hag hs hrep
        · rw [if_neg e] at ih2
          have hsuf := yg_l_suf (sk := sk) b1 k
          rw [yg_l_in z.1 z.2, if_neg e, List.length_cons] at hsuf
          have inN : vp_in (nI (N + (yg_l sk (st (q / 4)) (st (q / 4 + 1)) (k + 1)).length)) 256 := vp_in_nI (by omega) (by decide)
          have inS : vp_in (nI (S + (yg_l sk (st (q / 4)) (st (q / 4 + 1)) (k + 1)).length)) 256 := vp_in_nI (by omega) (by decide)
          have eix : nI k * 4 + nI (q % 4) = nI (k * 4 + q % 4) := by
            rw [show (4 : Int32) = nI 4 from rfl, pk_mul, nI_add]
          refine br_f (nI_ge (b := 256) (by omega) (by decide)) (br_t (nI_lt (b := 256) (by omega) (by decide)) ?_)
          rw [eix, nI_clamp (show k * 4 + q % 4 < 2 ^ 31 by omega), hgt k (q % 4) (by omega) (by omega), cg_YL_mod]
          rw [nI_clamp (show N + (yg_l sk (st (q / 4)) (st (q / 4 + 1)) (k + 1)).length < 2 ^ 31 by omega), nI_clamp (show S + (yg_l sk (st (q / 4)) (st (q / 4 + 1)) (k + 1)).length < 2 ^ 31 by omega)]
          refine ⟨vp_in_nI (by omega) (by decide), inN, nm_e ⟨inN, nm_e ⟨inS, nm_e (nm_r (nI_1 _) (nm_r (nI_1 _) (nm_e ?_)))⟩⟩⟩
          refine ih2 _ _ _ (fun j hj => ?_) (fun j hj => ?_) ⟨pk_us, pk_us, pk_us, yb_rep_fr (fun j hj => ?_) (fun j hj => ?_) hrep⟩
          · rw [pk_un (by omega), pk_un (by omega)]
            exact hag j hj
          · rw [pk_un (by omega)]
            exact hs j hj
          · rw [pk_un (by omega), pk_un (by omega)]
            exact ⟨rfl, rfl⟩
          · rw [pk_un (by omega)]
      · rw [yg_l_out b1 z] at ih2
        exact ih2 pL pP pS hag hs hrep
  have k0 := key nl (Nat.le_refl _) a_pLit a_pPar a_pStk (fun _ _ => ⟨rfl, rfl⟩) (fun _ _ => rfl) (by rw [yg_l_top b1 b3]; trivial)
  rw [yg_l_top b1 b3] at k0
  exact nm_r (Int32.sub_eq_add_neg _ _) ⟨_, k0⟩
theorem yb_path {post : Int32 → Prop} {F : Nat × Nat → Nat} : ∀ (p : List (Nat × Nat)) (g : Nat) (e : Nat × Nat) (acc t : Nat), yb_nd a_pLit a_pPar F p g e → g < 256 → t + p.length ≤ 256 → (∀ x, x ∈ p → F x < 10) → post (nI (acc + yp_s (p.map F))) →
    wY_pathState_12 post f_clauseCount f_litCount f_kept f_kN f_bN f_sealed f_lastStep f_cNodes f_cSp f_pNodes f_pSp a_lSign a_lPred a_lA0 a_lA1 a_lOwner a_arity a_kKind a_kA a_kB a_kBind a_bKind a_bA a_bB a_bBind a_cCopy a_cLit a_cPar a_cStk a_cl a_gtab a_pLit a_pPar a_pStk (p.length + 1) (nI acc) (a_pPar g) (nI t)
  | [], g, e, acc, t, h, hg, ht, _, hp => by
    rw [h.2]
    exact br_c (fun _ => hp) (fun _ => br_t (by decide) hp)
  | e' :: p, g, e, acc, t, h, hg, ht, hF, hp => by
    obtain ⟨_, g', h1, h2, h3⟩ := h
    have hd := yb_nd_hd h3
    have hF' := hF e' List.mem_cons_self
    rw [List.length_cons] at ht
    have hin : vp_in (nI g') 256 := vp_in_nI (by omega) (by decide)
    have ed : nI (F e') / 2 = nI (F e' / 2) := by
      rw [show (2 : Int32) = nI 2 from rfl, pk_div (by omega) (by omega) (by omega)]
    have er : nI (F e') - nI (F e') / 2 * 2 = nI (F e' % 2) := by
      rw [show (2 : Int32) = nI 2 from rfl, pk_rem (by omega) (by omega) (by omega)]
    rw [h2]
    refine br_f (nI_ge (b := 256) (by omega) (by decide)) (br_f (nI_pos (by omega)) ⟨hin, by decide, hin, by decide, ?_⟩)
    rw [nI_clamp (show g' < 2 ^ 31 by omega), hd, er, ed, nI_1]
    refine yu_pow3 (by omega) ?_
    rw [pk_mul, nI_add]
    refine nm_e ⟨hin, nm_e (nm_r (nI_1 t) ?_)⟩
    refine yb_path p g' e' _ (t + 1) h3 (by omega) (by omega) (fun x hx => hF x (List.mem_cons_of_mem e' hx)) ?_
    rw [List.map_cons, yp_s] at hp
    have ee : acc + (F e' % 2 + 1) * 3 ^ (F e' / 2) + yp_s (p.map F) = acc + (yp_s (p.map F) + (F e' % 2 + 1) * 3 ^ (F e' / 2)) := by omega
    rw [ee]
    exact hp
theorem yb_up {post : Int32 → Prop} {F : Nat × Nat → Nat} {T D : Nat} (hT : T < 10) (hD : D ≤ 256) : ∀ (p : List (Nat × Nat)) (g : Nat) (e : Nat × Nat) (up : Nat), yb_nd a_pLit a_pPar F p g e → g < 256 → up + p.length = D + 1 → 1 ≤ up → (∀ x, x ∈ p → F x < 10) →
    (∀ n, n < p.length → F (p.getD n (0, 0)) = T → post (nI (D - up - n))) → (∃ x, x ∈ p ∧ F x = T) → wY_redIndex_55 post (nI T) (nI D) f_clauseCount f_litCount f_kept f_kN f_bN f_sealed f_lastStep f_cNodes f_cSp f_pNodes f_pSp a_lSign a_lPred a_lA0 a_lA1 a_lOwner a_arity a_kKind a_kA a_kB a_kBind a_bKind a_bA a_bB a_bBind a_cCopy a_cLit a_cPar a_cStk a_cl a_gtab a_pLit a_pPar a_pStk (p.length + 1) (a_pPar g) (nI up)
  | [], _, _, _, _, _, _, _, _, _, hex => by
    obtain ⟨x, hx, _⟩ := hex
    cases hx
  | e' :: p, g, e, up, h, hg, hup, h1u, hF, hp, hex => by
    obtain ⟨_, g', h1, h2, h3⟩ := h
    have hd := yb_nd_hd h3
    have hF' := hF e' List.mem_cons_self
    rw [List.length_cons] at hup
    have hin : vp_in (nI g') 256 := vp_in_nI (by omega) (by decide)
    rw [h2]
    refine br_f (nI_nlt (a := 256) (by omega) (by omega)) (br_f (nI_pos (by omega)) ⟨hin, ?_⟩)
    rw [nI_clamp (show g' < 2 ^ 31 by omega), hd]
    refine pk_eq (F e') T (fun z => ?_) (fun z => ⟨hin, nm_e (nm_r (nI_1 up) ?_)⟩)
    · have := hp 0 (by rw [List.length_cons]; omega) z
      rw [pk_sub (by omega)]
      exact this
    · refine yb_up hT hD p g' e' (up + 1) h3 (by omega) (by omega) (by omega) (fun x hx => hF x (List.mem_cons_of_mem e' hx)) (fun n hn hz => ?_) ?_
      · have := hp (n + 1) (by rw [List.length_cons]; omega) (by rw [List.getD_cons_succ]; exact hz)
        have ee : D - up - (n + 1) = D - (up + 1) - n := by omega
        rw [ee] at this
        exact this
      · obtain ⟨x, hx, hxT⟩ := hex
        rcases List.mem_cons.mp hx with y | y
        · rw [y] at hxT
          exact absurd hxT z
        · exact ⟨x, y, hxT⟩
theorem yb_depth {post : Int32 → Prop} {F : Nat × Nat → Nat} {x1 x2 : Int32} : ∀ (p : List (Nat × Nat)) (g : Nat) (e : Nat × Nat) (d t : Nat), yb_nd a_pLit a_pPar F p g e → g < 256 → t + p.length ≤ 256 →
    (vp_in x1 256 ∧ (∀ x4_5 : Int32, x4_5 = a_pPar x1.toNatClampNeg → (∃ n55 : Nat, wY_redIndex_55 post x2 (nI (d + p.length)) f_clauseCount f_litCount f_kept f_kN f_bN f_sealed f_lastStep f_cNodes f_cSp f_pNodes f_pSp a_lSign a_lPred a_lA0 a_lA1 a_lOwner a_arity a_kKind a_kA a_kB a_kBind a_bKind a_bA a_bB a_bBind a_cCopy a_cLit a_cPar a_cStk a_cl a_gtab a_pLit a_pPar a_pStk n55 x4_5 1))) → wY_redIndex_13 post x1 x2 f_clauseCount f_litCount f_kept f_kN f_bN f_sealed f_lastStep f_cNodes f_cSp f_pNodes f_pSp a_lSign a_lPred a_lA0 a_lA1 a_lOwner a_arity a_kKind a_kA a_kB a_kBind a_bKind a_bA a_bB a_bBind a_cCopy a_cLit a_cPar a_cStk a_cl a_gtab a_pLit a_pPar a_pStk (p.length + 1) (nI d) (a_pPar g) (nI t)
  | [], g, e, d, t, h, hg, ht, hp => by
    rw [h.2]
    exact br_c (fun _ => hp) (fun _ => br_t (by decide) hp)
  | e' :: p, g, e, d, t, h, hg, ht, hp => by
    obtain ⟨_, g', h1, h2, h3⟩ := h
    rw [List.length_cons] at ht hp
    rw [h2]
    refine br_f (nI_ge (b := 256) (by omega) (by decide)) (br_f (nI_pos (by omega)) (nm_r (nI_1 d) ⟨vp_in_nI (by omega) (by decide), ?_⟩))
    rw [nI_clamp (show g' < 2 ^ 31 by omega)]
    refine nm_e (nm_r (nI_1 t) ?_)
    refine yb_depth p g' e' (d + 1) (t + 1) h3 (by omega) (by omega) ?_
    have ee : d + 1 + p.length = d + (p.length + 1) := by omega
    rw [ee]
    exact hp
theorem yb_red {post : Int32 → Prop} {F : Nat × Nat → Nat} {T : Nat} (hT : T < 10) {p : List (Nat × Nat)} {g : Nat} {e : Nat × Nat} (h : yb_nd a_pLit a_pPar F p g e) (hg : g < 256) (hF : ∀ x, x ∈ p → F x < 10)
    (hp : ∀ n, n < p.length → F (p.getD n (0, 0)) = T → post (nI (p.length - 1 - n))) (hex : ∃ x, x ∈ p ∧ F x = T) : wpY_redIndex post (f_clauseCount, f_litCount, f_kept, f_kN, f_bN, f_sealed, f_lastStep, f_cNodes, f_cSp, f_pNodes, f_pSp, a_lSign, a_lPred, a_lA0, a_lA1, a_lOwner, a_arity, a_kKind, a_kA, a_kB, a_kBind, a_bKind, a_bA, a_bB, a_bBind, a_cCopy, a_cLit, a_cPar, a_cStk, a_cl, a_gtab, a_pLit, a_pPar, a_pStk) (nI g) (nI T) := by
  have hlen := yb_nd_len h
  refine ⟨vp_in_nI hg (by decide), ?_⟩
  rw [nI_clamp (show g < 2 ^ 31 by omega)]
  refine nm_e ⟨_, yb_depth p g e 0 0 h hg (by omega) ⟨vp_in_nI hg (by decide), ?_⟩⟩
  rw [nI_clamp (show g < 2 ^ 31 by omega), Nat.zero_add]
  refine nm_e ⟨_, yb_up hT (by omega) p g e 1 h hg (by omega) (by omega) hF hp hex⟩
theorem yb_start {post : Int32 → Prop} {nc nl g : Nat} {st : Nat → Nat} (hw : cd_wf nc nl st a_lSign a_lPred a_lA0 a_lA1 a_arity) (how : cd_own nc nl st a_lOwner)
    (eg : cg_base a_lPred a_arity (st nc) (cg_oc a_lA0 a_lA1 0 (st nc) && cg_oc a_lA0 a_lA1 1 (st nc)) 4 = g) (h5 : g ≤ 5) (hgt : yn_gt nc st a_lSign a_lPred a_lA0 a_lA1 a_arity a_gtab) {q : Nat} (hq : q < 4 * nc)
    (h1 : (∀ j, st (q / 4) ≤ j → j < st (q / 4 + 1) → ye_C a_cl (cg_YL nc st a_lSign a_lPred a_lA0 a_lA1 a_arity j q) 0) → post 1) (h0 : ¬ (∀ j, st (q / 4) ≤ j → j < st (q / 4 + 1) → ye_C a_cl (cg_YL nc st a_lSign a_lPred a_lA0 a_lA1 a_arity j q) 0) → post 0) :
    wpY_startOk post (nI nc, nI nl, f_kept, f_kN, f_bN, f_sealed, f_lastStep, f_cNodes, f_cSp, f_pNodes, f_pSp, a_lSign, a_lPred, a_lA0, a_lA1, a_lOwner, a_arity, a_kKind, a_kA, a_kB, a_kBind, a_bKind, a_bA, a_bB, a_bBind, a_cCopy, a_cLit, a_cPar, a_cStk, a_cl, a_gtab, a_pLit, a_pPar, a_pStk) (nI (q / 4)) (nI (q % 4)) := by
  have hnc := hw.1
  have hM := hw.2.2.2.2.1
  have hnl := hw.2.1
  have hc : q / 4 < nc := by omega
  have een : cd_en nc nl st (q / 4) = st (q / 4 + 1) := cd_en_lt hc
  obtain ⟨b1, b2, b3⟩ := cd_en_bd hw (show q / 4 ≤ nc by omega)
  rw [een] at b1 b2 b3
  have hst := cd_mono' hw (c := q / 4 + 1) (d := nc) (by omega) (Nat.le_refl _)
  have key : ∀ d j : Nat, j + d = nl → (∀ j', j' < j → st (q / 4) ≤ j' → j' < st (q / 4 + 1) → ye_C a_cl (cg_YL nc st a_lSign a_lPred a_lA0 a_lA1 a_arity j' q) 0) → wY_startOk_2 post (nI (q / 4)) (nI (q % 4)) (nI nc) (nI nl) f_kept f_kN f_bN f_sealed f_lastStep f_cNodes f_cSp f_pNodes f_pSp a_lSign a_lPred a_lA0 a_lA1 a_lOwner a_arity a_kKind a_kA a_kB a_kBind a_bKind a_bA a_bB a_bBind a_cCopy a_cLit a_cPar a_cStk a_cl a_gtab a_pLit a_pPar a_pStk (d + 1) (nI j) := by
    intro d
    induction d with
    | zero =>
      intro j hj hall
      exact br_t (nI_le (by omega) (by omega)) (h1 (fun j' y1 y2 => hall j' (by omega) y1 y2))
    | succ d ih =>
      intro j hj hall
      refine br_f (nI_ge (show j < nl by omega) (by omega)) ⟨vp_in_nI (by omega) (by decide), ?_⟩
      rw [nI_clamp (show j < 2 ^ 31 by omega)]
      have oi := cd_own_iff hw how (show j < nl by omega) (show q / 4 ≤ nc by omega)
      rw [een] at oi
      refine ek_if oi (fun z => ?_) (fun z => nm_r (nI_1 j) (ih (j + 1) (by omega) (fun j' hj' y1 y2 => ?_)))
      · have eix : nI j * 4 + nI (q % 4) = nI (j * 4 + q % 4) := by
          rw [show (4 : Int32) = nI 4 from rfl, pk_mul, nI_add]
        have hY := cg_YL_lt (q := q) hw (show j < st nc by omega)
        rw [eg] at hY
        rw [eix]
        refine ⟨vp_in_nI (by omega) (by decide), ?_⟩
        rw [nI_clamp (show j * 4 + q % 4 < 2 ^ 31 by omega), hgt j (q % 4) (by omega) (by omega), cg_YL_mod]
        have eK : nI (cg_YL nc st a_lSign a_lPred a_lA0 a_lA1 a_arity j q) * 243 = nI (cg_YL nc st a_lSign a_lPred a_lA0 a_lA1 a_arity j q * 243) := by
          rw [show (243 : Int32) = nI 243 from rfl, pk_mul]
        rw [eK]
        refine ⟨vp_in_nI (by omega) (by decide), ?_⟩
        rw [nI_clamp (show cg_YL nc st a_lSign a_lPred a_lA0 a_lA1 a_arity j q * 243 < 2 ^ 31 by omega)]
        refine br_c (fun y => h0 (fun all => all j z.1 z.2 y)) (fun y => nm_r (nI_1 j) (ih (j + 1) (by omega) (fun j' hj' y1 y2 => ?_)))
        by_cases e : j' = j
        · rw [e]
          exact y
        · exact hall j' (by omega) y1 y2
      · by_cases e : j' = j
        · subst e
          exact absurd ⟨y1, y2⟩ z
        · exact hall j' (by omega) y1 y2
  exact ⟨_, key nl 0 (by omega) (fun j' hj' => absurd hj' (Nat.not_lt_zero j'))⟩
end
