/-! the goals as Y keeps them: nodes with parents -/
def yc_nd (cC cL cP : Nat → Int32) (M m : Nat) : List (Nat × Nat) → Nat → Nat → Nat → Prop
  | [], g, c, l => cC g = nI c ∧ cL g = nI l ∧ c < m ∧ l < M ∧ cP g = -1
  | e :: p, g, c, l => cC g = nI c ∧ cL g = nI l ∧ c < m ∧ l < M ∧ ∃ g', g' < g ∧ cP g = nI g' ∧ yc_nd cC cL cP M m p g' e.1 e.2
def yc_stk (cC cL cP cS : Nat → Int32) (M m N : Nat) : List ck_G → Prop
  | [] => True
  | g :: R => (∃ q, q < N ∧ cS R.length = nI q ∧ yc_nd cC cL cP M m g.2.2 q g.1 g.2.1) ∧ yc_stk cC cL cP cS M m N R
theorem yc_nd_hd {cC cL cP : Nat → Int32} {M m : Nat} : ∀ {p : List (Nat × Nat)} {g c l : Nat}, yc_nd cC cL cP M m p g c l → cC g = nI c ∧ cL g = nI l ∧ c < m ∧ l < M
  | [], _, _, _, h => ⟨h.1, h.2.1, h.2.2.1, h.2.2.2.1⟩
  | _ :: _, _, _, _, h => ⟨h.1, h.2.1, h.2.2.1, h.2.2.2.1⟩
theorem yc_nd_len {cC cL cP : Nat → Int32} {M m : Nat} : ∀ {p : List (Nat × Nat)} {g c l : Nat}, yc_nd cC cL cP M m p g c l → p.length ≤ g
  | [], _, _, _, _ => Nat.zero_le _
  | e :: p, g, _, _, h => by
    obtain ⟨_, _, _, _, g', h1, _, h2⟩ := h
    have := yc_nd_len h2
    rw [List.length_cons]
    omega
theorem yc_nd_get {cC cL cP : Nat → Int32} {M m : Nat} : ∀ {p : List (Nat × Nat)} {g c l : Nat}, yc_nd cC cL cP M m p g c l → ∀ n, n < p.length → (p.getD n (0, 0)).1 < m ∧ (p.getD n (0, 0)).2 < M
  | [], _, _, _, _, n, hn => absurd hn (Nat.not_lt_zero n)
  | e :: p, _, _, _, h, 0, _ => by
    obtain ⟨_, _, _, _, g', h1, _, h2⟩ := h
    have := yc_nd_hd h2
    exact ⟨this.2.2.1, this.2.2.2⟩
  | e :: p, _, _, _, h, n + 1, hn => by
    obtain ⟨_, _, _, _, g', h1, _, h2⟩ := h
    rw [List.getD_cons_succ]
    exact yc_nd_get h2 n (by rw [List.length_cons] at hn; omega)
theorem yc_nd_fr {cC cL cP cC' cL' cP' : Nat → Int32} {M m m' N : Nat} (hm : m ≤ m') (hf : ∀ j, j < N → cC' j = cC j ∧ cL' j = cL j ∧ cP' j = cP j) :
    ∀ {p : List (Nat × Nat)} {g c l : Nat}, g < N → yc_nd cC cL cP M m p g c l → yc_nd cC' cL' cP' M m' p g c l
  | [], g, _, _, hg, h => by
    obtain ⟨f1, f2, f3⟩ := hf g hg
    exact ⟨by rw [f1]; exact h.1, by rw [f2]; exact h.2.1, Nat.lt_of_lt_of_le h.2.2.1 hm, h.2.2.2.1, by rw [f3]; exact h.2.2.2.2⟩
  | e :: p, g, _, _, hg, h => by
    obtain ⟨f1, f2, f3⟩ := hf g hg
    obtain ⟨a1, a2, a3, a4, g', h1, h2, h3⟩ := h
    exact ⟨by rw [f1]; exact a1, by rw [f2]; exact a2, Nat.lt_of_lt_of_le a3 hm, a4, g', h1, by rw [f3]; exact h2, yc_nd_fr hm hf (by omega) h3⟩
theorem yc_stk_fr {cC cL cP cS cC' cL' cP' cS' : Nat → Int32} {M m m' N N' : Nat} (hm : m ≤ m') (hN : N ≤ N') (hf : ∀ j, j < N → cC' j = cC j ∧ cL' j = cL j ∧ cP' j = cP j) :
    ∀ {L : List ck_G}, (∀ j, j < L.length → cS' j = cS j) → yc_stk cC cL cP cS M m N L → yc_stk cC' cL' cP' cS' M m' N' L
  | [], _, _ => trivial
  | g :: R, ho, h => by
    obtain ⟨⟨q, h1, h2, h3⟩, h4⟩ := h
    exact ⟨⟨q, by omega, by rw [ho R.length (by rw [List.length_cons]; omega)]; exact h2, yc_nd_fr hm hf h1 h3⟩, yc_stk_fr hm hN hf (fun j hj => ho j (by rw [List.length_cons]; omega)) h4⟩
/-! pushing: over all literals, those of clause c -/
def yg_k (s e k : Nat) : Nat := if k ≤ s then s else if e ≤ k then e else k
theorem yg_k_lo {s e k : Nat} (h : k ≤ s) : yg_k s e k = s := if_pos h
theorem yg_k_hi {s e k : Nat} (hse : s ≤ e) (h : e ≤ k) : yg_k s e k = e := by
  unfold yg_k
  by_cases z : k ≤ s
  · rw [if_pos z]; omega
  · rw [if_neg z, if_pos h]
theorem yg_k_mid {s e k : Nat} (h1 : s ≤ k) (h2 : k ≤ e) : yg_k s e k = k := by
  unfold yg_k
  by_cases z : k ≤ s
  · rw [if_pos z]; omega
  · rw [if_neg z]
    by_cases z2 : e ≤ k
    · rw [if_pos z2]; omega
    · rw [if_neg z2]
def yg_l (sk s e k : Nat) : List Nat := xg_ls sk (e - yg_k s e k) (yg_k s e k)
theorem yg_l_top {sk s e k : Nat} (hse : s ≤ e) (h : e ≤ k) : yg_l sk s e k = [] := by
  unfold yg_l
  rw [yg_k_hi hse h, Nat.sub_self]
  rfl
theorem yg_l_0 {sk s e : Nat} : yg_l sk s e 0 = xg_ls sk (e - s) s := by
  unfold yg_l
  rw [yg_k_lo (Nat.zero_le s)]
theorem yg_l_out {sk s e k : Nat} (hse : s ≤ e) (h : ¬ (s ≤ k ∧ k < e)) : yg_l sk s e k = yg_l sk s e (k + 1) := by
  unfold yg_l
  by_cases z : k < s
  · rw [yg_k_lo (by omega), yg_k_lo (by omega)]
  · rw [yg_k_hi hse (by omega), yg_k_hi hse (by omega)]
theorem yg_l_in {sk s e k : Nat} (h1 : s ≤ k) (h2 : k < e) : yg_l sk s e k = if k = sk then yg_l sk s e (k + 1) else k :: yg_l sk s e (k + 1) := by
  unfold yg_l
  rw [yg_k_mid h1 (by omega), yg_k_mid (by omega) (by omega)]
  have e1 : e - k = (e - (k + 1)) + 1 := by omega
  rw [e1]
  by_cases z : k = sk
  · rw [if_pos z, xg_ls_t z]
  · rw [if_neg z, xg_ls_f z]
theorem yg_l_suf {sk s e : Nat} (hse : s ≤ e) : ∀ k, (yg_l sk s e k).length ≤ (xg_ls sk (e - s) s).length := by
  intro k
  unfold yg_l
  have hk : s ≤ yg_k s e k ∧ yg_k s e k ≤ e := by
    unfold yg_k
    by_cases z : k ≤ s
    · rw [if_pos z]; omega
    · rw [if_neg z]
      by_cases z2 : e ≤ k
      · rw [if_pos z2]; omega
      · rw [if_neg z2]; omega
  have h := xg_ls_suf (sk := sk) (e - s) s (yg_k s e k - s) (by omega)
  have e1 : e - s - (yg_k s e k - s) = e - yg_k s e k := by omega
  have e2 : s + (yg_k s e k - s) = yg_k s e k := by omega
  rw [e1, e2] at h
  exact h
def yg_rep (cC cL cP cS : Nat → Int32) (x1 x4 : Int32) (N S : Nat) : List Nat → Prop
  | [] => True
  | l :: ls => cC (N + ls.length) = x1 ∧ cL (N + ls.length) = nI l ∧ cP (N + ls.length) = x4 ∧ cS (S + ls.length) = nI (N + ls.length) ∧ yg_rep cC cL cP cS x1 x4 N S ls
theorem yg_rep_fr {cC cL cP cS cC' cL' cP' cS' : Nat → Int32} {x1 x4 : Int32} {N S : Nat} : ∀ {ls : List Nat}, (∀ j, j < N + ls.length → cC' j = cC j ∧ cL' j = cL j ∧ cP' j = cP j) → (∀ j, j < S + ls.length → cS' j = cS j) →
    yg_rep cC cL cP cS x1 x4 N S ls → yg_rep cC' cL' cP' cS' x1 x4 N S ls
  | [], _, _, _ => trivial
  | l :: ls, ho, hs, h => by
    obtain ⟨o1, o2, o3⟩ := ho (N + ls.length) (by rw [List.length_cons]; omega)
    have o4 := hs (S + ls.length) (by rw [List.length_cons]; omega)
    obtain ⟨h1, h2, h3, h4, h5⟩ := h
    exact ⟨by rw [o1]; exact h1, by rw [o2]; exact h2, by rw [o3]; exact h3, by rw [o4]; exact h4, yg_rep_fr (fun j hj => ho j (by rw [List.length_cons]; omega)) (fun j hj => hs j (by rw [List.length_cons]; omega)) h5⟩
section
variable {f_clauseCount f_litCount f_kept f_kN f_bN f_sealed f_lastStep f_cNodes f_cSp f_pNodes f_pSp : Int32} {a_lSign a_lPred a_lA0 a_lA1 a_lOwner a_arity a_kKind a_kA a_kB a_kBind a_bKind a_bA a_bB a_bBind a_cCopy a_cLit a_cPar a_cStk a_cl a_gtab a_pLit a_pPar a_pStk : Nat → Int32}
theorem yg_push {post : SY → Prop} {nc nl : Nat} {st : Nat → Nat} {sg pr a0 a1 ar : Nat → Int32} (hw : cd_wf nc nl st sg pr a0 a1 ar) (ho : cd_own nc nl st a_lOwner) {c N S sk : Nat} {x1 x4 skI : Int32} (hc : c ≤ nc)
    (hsk : ∀ j, j < nl → (nI j = skI ↔ j = sk)) (rN : N + (xg_ls sk (cd_en nc nl st c - st c) (st c)).length ≤ 520) (rS : S + (xg_ls sk (cd_en nc nl st c - st c) (st c)).length ≤ 520)
    (h : ∀ cC cL cP cS : Nat → Int32, (∀ j, j < N → cC j = a_cCopy j ∧ cL j = a_cLit j ∧ cP j = a_cPar j) → (∀ j, j < S → cS j = a_cStk j) →
      yg_rep cC cL cP cS x1 x4 N S (xg_ls sk (cd_en nc nl st c - st c) (st c)) →
      post (f_clauseCount, nI nl, f_kept, f_kN, f_bN, f_sealed, f_lastStep, nI (N + (xg_ls sk (cd_en nc nl st c - st c) (st c)).length), nI (S + (xg_ls sk (cd_en nc nl st c - st c) (st c)).length), f_pNodes, f_pSp, a_lSign, a_lPred, a_lA0, a_lA1, a_lOwner, a_arity, a_kKind, a_kA, a_kB, a_kBind, a_bKind, a_bA, a_bB, a_bBind, cC, cL, cP, cS, a_cl, a_gtab, a_pLit, a_pPar, a_pStk)) :
    wpY_pushCopy post (f_clauseCount, nI nl, f_kept, f_kN, f_bN, f_sealed, f_lastStep, nI N, nI S, f_pNodes, f_pSp, a_lSign, a_lPred, a_lA0, a_lA1, a_lOwner, a_arity, a_kKind, a_kA, a_kB, a_kBind, a_bKind, a_bA, a_bB, a_bBind, a_cCopy, a_cLit, a_cPar, a_cStk, a_cl, a_gtab, a_pLit, a_pPar, a_pStk) x1 (nI c) skI x4 := by
  obtain ⟨b1, b2, b3⟩ := cd_en_bd hw hc
  have hnl := hw.2.1
  have key : ∀ k, k ≤ nl → ∀ (cC cL cP cS : Nat → Int32), (∀ j, j < N → cC j = a_cCopy j ∧ cL j = a_cLit j ∧ cP j = a_cPar j) → (∀ j, j < S → cS j = a_cStk j) →
      yg_rep cC cL cP cS x1 x4 N S (yg_l sk (st c) (cd_en nc nl st c) k) →
      wY_pushCopy_8 post x1 (nI c) skI x4 f_clauseCount (nI nl) f_kept f_kN f_bN f_sealed f_lastStep f_pNodes f_pSp (k + 1) (nI k + (-1)) (nI (N + (yg_l sk (st c) (cd_en nc nl st c) k).length)) (nI (S + (yg_l sk (st c) (cd_en nc nl st c) k).length)) a_lSign a_lPred a_lA0 a_lA1 a_lOwner a_arity a_kKind a_kA a_kB a_kBind a_bKind a_bA a_bB a_bBind cC cL cP cS a_cl a_gtab a_pLit a_pPar a_pStk := by
    intro k
    induction k with
    | zero =>
      intro _ cC cL cP cS hag hs hrep
      rw [yg_l_0] at hrep ⊢
      exact br_t (by decide) (h cC cL cP cS hag hs hrep)
    | succ k ih =>
      intro hk cC cL cP cS hag hs hrep
      rw [pk_m1]
      have ih2 := ih (by omega)
      refine br_f (nI_pos (by omega)) ⟨vp_in_nI (by omega) (by decide), ?_⟩
      rw [nI_clamp (show k < 2 ^ 31 by omega)]
      refine ek_if (cd_own_iff hw ho (show k < nl by omega) hc) (fun z => ?_) (fun z => nm_e ?_)
      · rw [yg_l_in z.1 z.2] at ih2
        refine ek_if (hsk k (by omega)) (fun e => nm_e ?_) (fun e => ?_)
        · rw [if_pos e] at ih2
          exact ih2 cC cL cP cS hag hs hrep
        · rw [if_neg e] at ih2
          have hsuf := yg_l_suf (sk := sk) b1 k
          rw [yg_l_in z.1 z.2, if_neg e, List.length_cons] at hsuf
          have inN : vp_in (nI (N + (yg_l sk (st c) (cd_en nc nl st c) (k + 1)).length)) 520 := vp_in_nI (by omega) (by decide)
          have inS : vp_in (nI (S + (yg_l sk (st c) (cd_en nc nl st c) (k + 1)).length)) 520 := vp_in_nI (by omega) (by decide)
          refine br_f (nI_ge (b := 520) (by omega) (by decide)) (br_t (nI_lt (b := 520) (by omega) (by decide)) ?_)
          rw [nI_clamp (show N + (yg_l sk (st c) (cd_en nc nl st c) (k + 1)).length < 2 ^ 31 by omega), nI_clamp (show S + (yg_l sk (st c) (cd_en nc nl st c) (k + 1)).length < 2 ^ 31 by omega)]
          refine ⟨inN, nm_e ⟨inN, nm_e ⟨inN, nm_e ⟨inS, nm_e (nm_r (nI_1 _) (nm_r (nI_1 _) (nm_e ?_)))⟩⟩⟩⟩
          refine ih2 _ _ _ _ (fun j hj => ?_) (fun j hj => ?_) ⟨pk_us, pk_us, pk_us, pk_us, yg_rep_fr (fun j hj => ?_) (fun j hj => ?_) hrep⟩
          · rw [pk_un (by omega), pk_un (by omega), pk_un (by omega)]
            exact hag j hj
          · rw [pk_un (by omega)]
            exact hs j hj
          · rw [pk_un (by omega), pk_un (by omega), pk_un (by omega)]
            exact ⟨rfl, rfl, rfl⟩
          · rw [pk_un (by omega)]
      · rw [yg_l_out b1 z] at ih2
        exact ih2 cC cL cP cS hag hs hrep
  have k0 := key nl (Nat.le_refl _) a_cCopy a_cLit a_cPar a_cStk (fun _ _ => ⟨rfl, rfl, rfl⟩) (fun _ _ => rfl) (by rw [yg_l_top b1 b3]; trivial)
  rw [yg_l_top b1 b3] at k0
  exact nm_r (Int32.sub_eq_add_neg _ _) ⟨_, k0⟩
end
theorem yc_stk_app {cC cL cP cS : Nat → Int32} {M m N copy : Nat} {x4 : Int32} {p : List (Nat × Nat)} {R : List ck_G} (hc : copy < m)
    (hpar : ∀ q, N ≤ q → ∀ l, l < M → cC q = nI copy → cL q = nI l → cP q = x4 → yc_nd cC cL cP M m p q copy l) {N' : Nat} (hR : yc_stk cC cL cP cS M m N' R) :
    ∀ {ls : List Nat}, N + ls.length ≤ N' → (∀ l, l ∈ ls → l < M) → yg_rep cC cL cP cS (nI copy) x4 N R.length ls → yc_stk cC cL cP cS M m N' (ls.map (fun l => (copy, l, p)) ++ R)
  | [], _, _, _ => hR
  | l :: ls, hN, hl, hr => by
    rw [List.length_cons] at hN
    have e : (ls.map (fun l => ((copy, l, p) : ck_G)) ++ R).length = R.length + ls.length := by
      rw [List.length_append, List.length_map]; omega
    obtain ⟨r1, r2, r3, r4, r5⟩ := hr
    refine ⟨⟨N + ls.length, by omega, ?_, hpar _ (by omega) l (hl l List.mem_cons_self) r1 r2 r3⟩, yc_stk_app hc hpar hR (by omega) (fun l' h' => hl l' (List.mem_cons_of_mem l h')) r5⟩
    show cS (ls.map (fun l => ((copy, l, p) : ck_G)) ++ R).length = nI (N + ls.length)
    rw [e]
    exact r4
/-! resolving -/
def ck_ry (o : Option Nat) : Int32 := match o with
  | some x => nI x
  | none => -2
theorem ck_ry_some {x : Nat} (h : x < 514) : ¬ ck_ry (some x) = -2 := by
  show ¬ nI x = -2
  intro e
  have := congrArg Int32.toInt e
  rw [nI_toInt (by omega), show (-2 : Int32).toInt = -2 from by decide] at this
  omega
section
variable {f_clauseCount f_litCount f_kept f_kN f_bN f_sealed f_lastStep f_cNodes f_cSp f_pNodes f_pSp : Int32} {a_lSign a_lPred a_lA0 a_lA1 a_lOwner a_arity a_kKind a_kA a_kB a_kBind a_bKind a_bA a_bB a_bBind a_cCopy a_cLit a_cPar a_cStk a_cl a_gtab a_pLit a_pPar a_pStk : Nat → Int32}
theorem yr_loop {post : Int32 → Prop} {b : Nat → Nat} (hb : cr_by b a_bBind) : ∀ (n t mv : Nat), mv + n = 512 → t < 514 → post (ck_ry (ck_res b (n + 1) t)) → wY_resolve_20 post f_clauseCount f_litCount f_kept f_kN f_bN f_sealed f_lastStep f_cNodes f_cSp f_pNodes f_pSp a_lSign a_lPred a_lA0 a_lA1 a_lOwner a_arity a_kKind a_kA a_kB a_kBind a_bKind a_bA a_bB a_bBind a_cCopy a_cLit a_cPar a_cStk a_cl a_gtab a_pLit a_pPar a_pStk (n + 1) (nI t) (nI mv) := by
  intro n
  induction n with
  | zero =>
    intro t mv hm ht h
    obtain ⟨hb1, hb2⟩ := hb.2.2 t ht
    refine br_f (nI_nlt (b := mv) (a := 512) (by omega) (by decide)) ?_
    unfold ck_res at h
    refine pk_le 2 t (fun h2 => ?_) (fun h2 => ?_)
    · have e2 : nI t - 2 = nI (t - 2) := by rw [show (2 : Int32) = nI 2 from rfl, pk_sub h2]
      rw [e2]
      refine ⟨vp_in_nI (by omega) (by decide), ?_⟩
      rw [nI_clamp (show t - 2 < 2 ^ 31 by omega)]
      refine nm_r (hb2 h2) ?_
      by_cases e : b t = t
      · rw [if_pos e] at h ⊢
        exact br_f (by decide) h
      · rw [if_neg e] at h ⊢
        refine br_t (nI_pos' (by omega)) (br_t ?_ h)
        have : mv = 512 := by omega
        rw [this]
        rfl
    · have e : b t = t := by
        have : t = 0 ∨ t = 1 := by omega
        rcases this with z | z <;> rw [z]
        · exact hb.1
        · exact hb.2.1
      rw [if_pos e] at h
      exact h
  | succ n ih =>
    intro t mv hm ht h
    obtain ⟨hb1, hb2⟩ := hb.2.2 t ht
    refine br_f (nI_nlt (b := mv) (a := 512) (by omega) (by decide)) ?_
    rw [ck_res] at h
    refine pk_le 2 t (fun h2 => ?_) (fun h2 => ?_)
    · have e2 : nI t - 2 = nI (t - 2) := by rw [show (2 : Int32) = nI 2 from rfl, pk_sub h2]
      rw [e2]
      refine ⟨vp_in_nI (by omega) (by decide), ?_⟩
      rw [nI_clamp (show t - 2 < 2 ^ 31 by omega)]
      refine nm_r (hb2 h2) ?_
      by_cases e : b t = t
      · rw [if_pos e] at h ⊢
        exact br_f (by decide) h
      · rw [if_neg e] at h ⊢
        refine br_t (nI_pos' (by omega)) (br_f ?_ (nm_r (nI_1 mv) (ih (b t) (mv + 1) (by omega) hb1 h)))
        intro z
        rw [show (512 : Int32) = nI 512 from rfl, nI_eq (by omega) (by omega)] at z
        omega
    · have e : b t = t := by
        have : t = 0 ∨ t = 1 := by omega
        rcases this with z | z <;> rw [z]
        · exact hb.1
        · exact hb.2.1
      rw [if_pos e] at h
      exact h
theorem yr_res {post : Int32 → Prop} {b : Nat → Nat} (hb : cr_by b a_bBind) {c t : Nat} (hc : c < 256) (ht : t < 4) (h : post (ck_ry (ck_res b 513 (ck_tm c t)))) : wpY_resolve post (f_clauseCount, f_litCount, f_kept, f_kN, f_bN, f_sealed, f_lastStep, f_cNodes, f_cSp, f_pNodes, f_pSp, a_lSign, a_lPred, a_lA0, a_lA1, a_lOwner, a_arity, a_kKind, a_kA, a_kB, a_kBind, a_bKind, a_bA, a_bB, a_bBind, a_cCopy, a_cLit, a_cPar, a_cStk, a_cl, a_gtab, a_pLit, a_pPar, a_pStk) (nI c) (nI t) := by
  unfold ck_tm at h
  refine pk_le 2 t (fun h2 => ?_) (fun h2 => ?_)
  · rw [if_neg (by omega)] at h
    have e : (2 + nI c * 2) + (nI t - 2) = nI (2 * c + t) := by
      rw [show (2 : Int32) = nI 2 from rfl, pk_mul, pk_sub h2, nI_add, nI_add]
      exact congrArg nI (by omega)
    exact nm_r e ⟨_, yr_loop hb 512 (2 * c + t) 0 rfl (by omega) h⟩
  · rw [if_pos (by omega)] at h
    have e : b t = t := by
      have : t = 0 ∨ t = 1 := by omega
      rcases this with z | z <;> rw [z]
      · exact hb.1
      · exact hb.2.1
    rw [ck_res0 e] at h
    exact h
end
