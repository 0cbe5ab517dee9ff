/-! a buffer that checks as valid refutes the clauses -/
def sd_val (o0 o1 : Bool) (r : Nat) : Nat := if (o0 && o1) = true then (if r = 1 then 1 else 0) else if o1 = true then 1 else 0
theorem sd_val_U (o0 o1 : Bool) (r : Nat) : cg_U o0 o1 (sd_val o0 o1 r) := by
  unfold cg_U sd_val
  by_cases e : r = 1
  · cases o0 <;> cases o1 <;> simp [e]
  · cases o0 <;> cases o1 <;> simp [e]
theorem sd_val_c {o0 o1 : Bool} {t : Nat} (ht : t < 2) (h0 : t = 0 → o0 = true) (h1 : t = 1 → o1 = true) : sd_val o0 o1 t = t := by
  have : t = 0 ∨ t = 1 := by omega
  rcases this with e | e
  · subst e
    have := h0 rfl
    subst this
    cases o1 <;> rfl
  · subst e
    have := h1 rfl
    subst this
    cases o0 <;> rfl
def sd_rt (b : Nat → Nat) (t : Nat) : Nat := match ck_res b 513 t with
  | some x => x
  | none => 0
def sd_v (o0 o1 : Bool) (b : Nat → Nat) (t : Nat) : Nat := sd_val o0 o1 (sd_rt b t)
theorem sd_v_eq {o0 o1 : Bool} {b : Nat → Nat} {s t v : Nat} (h1 : ck_res b 513 s = some v) (h2 : ck_res b 513 t = some v) : sd_v o0 o1 b s = sd_v o0 o1 b t := by
  unfold sd_v sd_rt
  rw [h1, h2]
/-- the ground literal of l in the copy c -/
def sd_g (nc : Nat) (st : Nat → Nat) (sg pr a0 a1 ar : Nat → Int32) (b : Nat → Nat) (c l : Nat) : Nat :=
  cg_L sg pr a0 a1 ar (st nc) l (sd_v (cg_oc a0 a1 0 (st nc)) (cg_oc a0 a1 1 (st nc)) b (2 * c + 2)) (sd_v (cg_oc a0 a1 0 (st nc)) (cg_oc a0 a1 1 (st nc)) b (2 * c + 3))
theorem sd_arg {nc nl : Nat} {st : Nat → Nat} {sg pr a0 a1 ar : Nat → Int32} (hw : cd_wf nc nl st sg pr a0 a1 ar) {b : Nat → Nat} (b0 : b 0 = 0) (b1 : b 1 = 1) {l : Nat} (hl : l < st nc) {pos : Nat} (hp : pos < ck_ar (a0 l) (a1 l)) (c : Nat) :
    cg_vl (if pos = 0 then a0 l else a1 l) (sd_v (cg_oc a0 a1 0 (st nc)) (cg_oc a0 a1 1 (st nc)) b (2 * c + 2)) (sd_v (cg_oc a0 a1 0 (st nc)) (cg_oc a0 a1 1 (st nc)) b (2 * c + 3)) =
      sd_v (cg_oc a0 a1 0 (st nc)) (cg_oc a0 a1 1 (st nc)) b (ck_tm c (ck_ag a0 a1 l pos)) := by
  obtain ⟨n, hn, e, g⟩ := (cd_arg hw (Nat.lt_of_lt_of_le hl hw.2.2.2.2.1)).2 pos hp
  have occ : a0 l = nI n ∨ a1 l = nI n := by
    by_cases z : pos = 0
    · rw [if_pos z] at e
      exact Or.inl e
    · rw [if_neg z] at e
      exact Or.inr e
  rw [g, e]
  have cn : n < 2 ∨ n = 2 ∨ n = 3 := by omega
  rcases cn with h | h | h
  · have e1 : ck_tm c n = n := by unfold ck_tm; rw [if_pos h]
    have bn : b n = n := by
      have : n = 0 ∨ n = 1 := by omega
      rcases this with z | z <;> rw [z] <;> assumption
    have e2 : sd_rt b n = n := by
      unfold sd_rt
      rw [ck_res0 (n := 512) bn]
    have h2 : ¬ nI n = 2 := by
      rw [show (2 : Int32) = nI 2 from rfl, nI_eq (by omega) (by omega)]
      omega
    have h3 : ¬ nI n = 3 := by
      rw [show (3 : Int32) = nI 3 from rfl, nI_eq (by omega) (by omega)]
      omega
    rw [e1]
    unfold cg_vl
    rw [if_neg h2, if_neg h3, nI_clamp (by omega)]
    unfold sd_v
    rw [e2, sd_val_c h]
    · intro z
      subst z
      exact (cg_oc_iff _).mpr ⟨l, hl, occ⟩
    · intro z
      subst z
      exact (cg_oc_iff _).mpr ⟨l, hl, occ⟩
  · subst h
    have e1 : ck_tm c 2 = 2 * c + 2 := by unfold ck_tm; rw [if_neg (by omega)]
    rw [e1]
    rfl
  · subst h
    have e1 : ck_tm c 3 = 2 * c + 3 := by unfold ck_tm; rw [if_neg (by omega)]
    rw [e1]
    rfl
theorem sd_ps {b A1 A2 : Nat → Nat} : ∀ (r p : Nat), ck_ps b A1 A2 r p = 0 → ∀ q, p ≤ q → q < p + r → ∃ v, ck_res b 513 (A1 q) = some v ∧ ck_res b 513 (A2 q) = some v
  | 0, p, _, q, h1, h2 => by omega
  | r + 1, p, h, q, h1, h2 => by
    unfold ck_ps at h
    cases o1 : ck_res b 513 (A1 p) with
    | none =>
      rw [o1] at h
      exact absurd (show (-17 : Int32) = 0 from h) (by decide)
    | some x =>
      cases o2 : ck_res b 513 (A2 p) with
      | none =>
        rw [o1, o2] at h
        exact absurd (show (-17 : Int32) = 0 from h) (by decide)
      | some y =>
        rw [o1, o2] at h
        have h' : (if x = y then ck_ps b A1 A2 r (p + 1) else -16) = 0 := h
        by_cases e : x = y
        · rw [if_pos e] at h'
          by_cases z : q = p
          · subst z
            exact ⟨x, o1, by rw [o2, e]⟩
          · exact sd_ps r (p + 1) h' q (by omega) (by omega)
        · rw [if_neg e] at h'
          exact absurd h' (by decide)
theorem sd_conn {nc nl : Nat} {st : Nat → Nat} {sg pr a0 a1 ar : Nat → Int32} (hw : cd_wf nc nl st sg pr a0 a1 ar) {b : Nat → Nat} (b0 : b 0 = 0) (b1 : b 1 = 1) {c1 l1 c2 l2 : Nat} (h1 : l1 < st nc) (h2 : l2 < st nc)
    (h : ck_conn (cd_mk (st nc) sg) (cd_mk (st nc) pr) (cd_mk (st nc) a0) (cd_mk (st nc) a1) b c1 l1 c2 l2 = 0) :
    sd_g nc st sg pr a0 a1 ar b c1 l1 = cq_neg (sd_g nc st sg pr a0 a1 ar b c2 l2) := by
  have M0 : ∀ l, l < st nc → ∀ p, ck_ag (cd_mk (st nc) a0) (cd_mk (st nc) a1) l p = ck_ag a0 a1 l p := by
    intro l hl p
    unfold ck_ag
    rw [cd_mk_lt hl, cd_mk_lt hl]
  unfold ck_conn at h
  rw [cd_mk_lt h1, cd_mk_lt h1, cd_mk_lt h1, cd_mk_lt h1, cd_mk_lt h2, cd_mk_lt h2] at h
  by_cases hs : sg l1 = sg l2 ∨ ¬ pr l1 = pr l2
  · rw [if_pos hs] at h
    exact absurd h (by decide)
  · rw [if_neg hs] at h
    have hsg : ¬ sg l1 = sg l2 := fun z => hs (Or.inl z)
    have hpr : pr l1 = pr l2 := Classical.byContradiction (fun z => hs (Or.inr z))
    have hM := hw.2.2.2.2.1
    have eA := cd_ar_eq hw (Nat.lt_of_lt_of_le h1 hM) (Nat.lt_of_lt_of_le h2 hM) hpr
    obtain ⟨s1, es1, _, _, _, _, _, _, le1⟩ := cg_lit hw h1
    obtain ⟨s2, es2, _⟩ := cg_lit hw h2
    have val : ∀ pos, pos < ck_ar (a0 l1) (a1 l1) → cg_vl (if pos = 0 then a0 l1 else a1 l1) (sd_v (cg_oc a0 a1 0 (st nc)) (cg_oc a0 a1 1 (st nc)) b (2 * c1 + 2)) (sd_v (cg_oc a0 a1 0 (st nc)) (cg_oc a0 a1 1 (st nc)) b (2 * c1 + 3)) =
        cg_vl (if pos = 0 then a0 l2 else a1 l2) (sd_v (cg_oc a0 a1 0 (st nc)) (cg_oc a0 a1 1 (st nc)) b (2 * c2 + 2)) (sd_v (cg_oc a0 a1 0 (st nc)) (cg_oc a0 a1 1 (st nc)) b (2 * c2 + 3)) := by
      intro pos hp
      rw [sd_arg hw b0 b1 h1 hp c1, sd_arg hw b0 b1 h2 (by rw [← eA]; exact hp) c2]
      obtain ⟨v, v1, v2⟩ := sd_ps _ 0 h pos (Nat.zero_le _) (by omega)
      rw [M0 l1 h1] at v1
      rw [M0 l2 h2] at v2
      exact sd_v_eq v1 v2
    have etup : cg_tup a0 a1 (cg_oc a0 a1 0 (st nc) && cg_oc a0 a1 1 (st nc)) l1 (sd_v (cg_oc a0 a1 0 (st nc)) (cg_oc a0 a1 1 (st nc)) b (2 * c1 + 2)) (sd_v (cg_oc a0 a1 0 (st nc)) (cg_oc a0 a1 1 (st nc)) b (2 * c1 + 3)) =
        cg_tup a0 a1 (cg_oc a0 a1 0 (st nc) && cg_oc a0 a1 1 (st nc)) l2 (sd_v (cg_oc a0 a1 0 (st nc)) (cg_oc a0 a1 1 (st nc)) b (2 * c2 + 2)) (sd_v (cg_oc a0 a1 0 (st nc)) (cg_oc a0 a1 1 (st nc)) b (2 * c2 + 3)) := by
      unfold cg_tup
      rw [← eA]
      by_cases t : (cg_oc a0 a1 0 (st nc) && cg_oc a0 a1 1 (st nc)) = true
      · rw [if_pos t, if_pos t]
        by_cases e0 : ck_ar (a0 l1) (a1 l1) = 0
        · rw [if_pos e0, if_pos e0]
        · rw [if_neg e0, if_neg e0]
          have v0 := val 0 (by omega)
          rw [if_pos rfl, if_pos rfl] at v0
          by_cases e1 : ck_ar (a0 l1) (a1 l1) = 1
          · rw [if_pos e1, if_pos e1]
            exact v0
          · rw [if_neg e1, if_neg e1]
            have v1 := val 1 (by omega)
            rw [if_neg (by decide), if_neg (by decide)] at v1
            rw [v0, v1]
      · rw [if_neg t, if_neg t]
    unfold sd_g cg_L cg_gl
    rw [etup, hpr]
    have hne : ¬ (sg l1).toNatClampNeg = (sg l2).toNatClampNeg := fun z => hsg (by rw [es1, es2, z])
    unfold cq_neg
    split <;> omega
theorem sd_neg {f : Nat → Bool} {m k : Nat} (e : m = cq_neg k) (h1 : cq_tr f m) (h2 : cq_tr f k) : False := by
  subst e
  unfold cq_tr at h1 h2
  rw [cq_neg_div, cq_neg_mod, h2] at h1
  have : k % 2 = 0 ∨ k % 2 = 1 := by omega
  rcases this with z | z <;> rw [z] at h1 <;> exact absurd h1 (by decide)
theorem sd_gl_in {copy sk : Nat} {p : List (Nat × Nat)} : ∀ (n j k : Nat), j ≤ k → k < j + n → ¬ k = sk → (copy, k, p) ∈ ck_gl copy sk p n j
  | 0, j, k, h1, h2, _ => by omega
  | n + 1, j, k, h1, h2, h3 => by
    unfold ck_gl
    by_cases e : j = sk
    · rw [if_pos e]
      exact sd_gl_in n (j + 1) k (by omega) (by omega) h3
    · rw [if_neg e]
      by_cases z : k = j
      · subst z
        exact List.mem_cons_self
      · exact List.mem_cons_of_mem _ (sd_gl_in n (j + 1) k (by omega) (by omega) h3)
def sd_wit (nc : Nat) (st : Nat → Nat) (sg pr a0 a1 ar : Nat → Int32) (b : Nat → Nat) (f : Nat → Bool) (L : List ck_G) : Prop :=
  ∃ g, g ∈ L ∧ g.2.1 < st nc ∧ cq_tr f (sd_g nc st sg pr a0 a1 ar b g.1 g.2.1) ∧ ∀ e, e ∈ g.2.2 → e.2 < st nc ∧ cq_tr f (sd_g nc st sg pr a0 a1 ar b e.1 e.2)
theorem sd_step {nc nl : Nat} {st : Nat → Nat} {sg pr a0 a1 ar : Nat → Int32} (hw : cd_wf nc nl st sg pr a0 a1 ar) {b : Nat → Nat} (b0 : b 0 = 0) (b1 : b 1 = 1) {f : Nat → Bool}
    (hs : ∀ a, a < nc → ∀ i, ∃ j, st a ≤ j ∧ j < st (a + 1) ∧ cq_tr f (sd_g nc st sg pr a0 a1 ar b i j)) {K A B : Nat → Int32} {i : Nat} {L : List ck_G}
    (h : (ck_step nc st (cd_mk (st nc) sg) (cd_mk (st nc) pr) (cd_mk (st nc) a0) (cd_mk (st nc) a1) K A B b i L).1 = 0) (w : sd_wit nc st sg pr a0 a1 ar b f L) :
    sd_wit nc st sg pr a0 a1 ar b f (ck_step nc st (cd_mk (st nc) sg) (cd_mk (st nc) pr) (cd_mk (st nc) a0) (cd_mk (st nc) a1) K A B b i L).2 := by
  have hnc := hw.1
  match L, h, w with
  | [], _, w =>
    obtain ⟨g, hg, _⟩ := w
    cases hg
  | (c, l, p) :: R, h, w =>
    obtain ⟨g, hg, g1, g2, g3⟩ := w
    unfold ck_step at h ⊢
    dsimp only at h ⊢
    by_cases k0 : K i = 0
    · rw [ck_if_t k0] at h
      exact absurd (show (-11 : Int32) = 0 from h) (by decide)
    · rw [ck_if_f k0] at h ⊢
      by_cases k1 : K i = 1
      · rw [ck_if_t k1] at h ⊢
        by_cases ho : ck_out (A i) nc
        · rw [ck_if_t ho] at h
          exact absurd (show (-12 : Int32) = 0 from h) (by decide)
        · rw [ck_if_f ho] at h ⊢
          obtain ⟨a, ha, ea⟩ := (ck_out_or (A i) (n := nc) (by omega)).resolve_left ho |>.2
          rw [ea, nI_clamp (show a < 2 ^ 31 by omega)] at h ⊢
          have hst := cd_mono' hw (c := a + 1) (d := nc) (by omega) (Nat.le_refl _)
          obtain ⟨q1, q2⟩ := hw.2.2.2.1 a ha
          by_cases hob : ck_out (B i) (st (a + 1) - st a)
          · rw [ck_if_t hob] at h
            exact absurd (show (-13 : Int32) = 0 from h) (by decide)
          · rw [ck_if_f hob] at h ⊢
            obtain ⟨bb, hbb, eb⟩ := (ck_out_or (B i) (n := st (a + 1) - st a) (by omega)).resolve_left hob |>.2
            rw [eb, nI_clamp (show bb < 2 ^ 31 by omega)] at h ⊢
            by_cases hcn : ck_conn (cd_mk (st nc) sg) (cd_mk (st nc) pr) (cd_mk (st nc) a0) (cd_mk (st nc) a1) b c l i (st a + bb) = 0
            · rw [ck_if_t hcn]
              rcases List.mem_cons.mp hg with e | hg
              · subst e
                dsimp only at g1 g2 g3
                have hneg := sd_conn hw b0 b1 g1 (show st a + bb < st nc by omega) hcn
                obtain ⟨j, j1, j2, jt⟩ := hs a ha i
                have hj : ¬ j = st a + bb := fun z => sd_neg hneg g2 (by rw [← z]; exact jt)
                refine ⟨(i, j, (c, l) :: p), List.mem_append_left _ (sd_gl_in _ _ _ (by omega) (by omega) hj), by dsimp only; omega, jt, fun e he => ?_⟩
                rcases List.mem_cons.mp he with e2 | he
                · rw [e2]
                  exact ⟨g1, g2⟩
                · exact g3 e he
              · exact ⟨g, List.mem_append_right _ hg, g1, g2, g3⟩
            · rw [ck_if_f hcn] at h
              exact absurd h hcn
      · rw [ck_if_f k1] at h ⊢
        by_cases ho : ck_out (A i) p.length
        · rw [ck_if_t ho] at h
          exact absurd (show (-14 : Int32) = 0 from h) (by decide)
        · rw [ck_if_f ho] at h ⊢
          rcases List.mem_cons.mp hg with e | hg
          · exfalso
            subst e
            dsimp only at g1 g2 g3 h
            have hlen : 0 < p.length := by
              apply Classical.byContradiction
              intro z
              have z0 : p.length = 0 := by omega
              rw [z0] at ho
              apply ho
              by_cases n0 : A i < 0
              · exact Or.inl n0
              · obtain ⟨k, hk, ek⟩ := nI_of n0
                exact Or.inr (by rw [ek]; exact nI_le (Nat.zero_le k) hk)
            have hm := xw_gmem p (p.length - 1 - (A i).toNatClampNeg) (by omega)
            obtain ⟨e1, e2⟩ := g3 _ hm
            exact sd_neg (sd_conn hw b0 b1 g1 e1 h) g2 e2
          · exact ⟨g, hg, g1, g2, g3⟩
theorem sd_go {nc nl : Nat} {st : Nat → Nat} {sg pr a0 a1 ar : Nat → Int32} (hw : cd_wf nc nl st sg pr a0 a1 ar) {b : Nat → Nat} (b0 : b 0 = 0) (b1 : b 1 = 1) {f : Nat → Bool}
    (hs : ∀ a, a < nc → ∀ i, ∃ j, st a ≤ j ∧ j < st (a + 1) ∧ cq_tr f (sd_g nc st sg pr a0 a1 ar b i j)) {K A B : Nat → Int32} : ∀ (r i : Nat) (L : List ck_G), sd_wit nc st sg pr a0 a1 ar b f L →
    ¬ ck_go nc st (cd_mk (st nc) sg) (cd_mk (st nc) pr) (cd_mk (st nc) a0) (cd_mk (st nc) a1) K A B b r i L = (0, -1)
  | 0, i, L, w => by
    obtain ⟨g, hg, _⟩ := w
    unfold ck_go
    match L, hg with
    | x :: R, _ =>
      intro z
      have := congrArg Prod.fst z
      exact absurd (show (-19 : Int32) = 0 from this) (by decide)
  | r + 1, i, L, w => by
    rw [ck_go]
    by_cases z : (ck_step nc st (cd_mk (st nc) sg) (cd_mk (st nc) pr) (cd_mk (st nc) a0) (cd_mk (st nc) a1) K A B b i L).1 = 0
    · rw [if_pos z]
      exact sd_go hw b0 b1 hs r (i + 1) _ (sd_step hw b0 b1 hs z w)
    · rw [if_neg z]
      intro y
      exact z (congrArg Prod.fst y)
theorem sd_all {nc nl : Nat} {st : Nat → Nat} {sg pr a0 a1 ar : Nat → Int32} (hw : cd_wf nc nl st sg pr a0 a1 ar) {b : Nat → Nat} (b0 : b 0 = 0) (b1 : b 1 = 1) {K A B : Nat → Int32} {n : Nat}
    (h : ck_all nc st (cd_mk (st nc) sg) (cd_mk (st nc) pr) (cd_mk (st nc) a0) (cd_mk (st nc) a1) K A B b n = (0, -1)) :
    ¬ cq_sat (cg_HX nc st sg pr a0 a1 ar) (cg_RX nc st a0 a1) (fun _ => False) := by
  intro ⟨f, hf, _⟩
  have hnc := hw.1
  have hs : ∀ a, a < nc → ∀ i, ∃ j, st a ≤ j ∧ j < st (a + 1) ∧ cq_tr f (sd_g nc st sg pr a0 a1 ar b i j) := by
    intro a ha i
    have u0 := sd_val_U (cg_oc a0 a1 0 (st nc)) (cg_oc a0 a1 1 (st nc)) (sd_rt b (2 * i + 2))
    have u1 := sd_val_U (cg_oc a0 a1 0 (st nc)) (cg_oc a0 a1 1 (st nc)) (sd_rt b (2 * i + 3))
    have l0 := cg_U_lt u0
    have l1 := cg_U_lt u1
    unfold sd_g sd_v
    generalize sd_val (cg_oc a0 a1 0 (st nc)) (cg_oc a0 a1 1 (st nc)) (sd_rt b (2 * i + 2)) = x at u0 l0 ⊢
    generalize sd_val (cg_oc a0 a1 0 (st nc)) (cg_oc a0 a1 1 (st nc)) (sd_rt b (2 * i + 3)) = y at u1 l1 ⊢
    have q1 : (4 * a + 2 * x + y) / 4 = a := by omega
    have q2 : (4 * a + 2 * x + y) / 2 % 2 = x := by omega
    have q3 : (4 * a + 2 * x + y) % 2 = y := by omega
    obtain ⟨m, ⟨j, j1, j2, em⟩, t⟩ := hf (4 * a + 2 * x + y) ⟨by omega, by rw [q2]; exact u0, by rw [q3]; exact u1⟩
    rw [q1] at j1 j2
    rw [q2, q3] at em
    rw [em] at t
    exact ⟨j, j1, j2, t⟩
  unfold ck_all at h
  by_cases e0 : n = 0
  · rw [if_pos e0] at h
    exact absurd (show (-10 : Int32) = 0 from congrArg Prod.fst h) (by decide)
  · rw [if_neg e0] at h
    by_cases k0 : K 0 = 0
    · rw [if_pos k0] at h
      by_cases ho : ck_out (A 0) nc
      · rw [ck_if_t ho] at h
        exact absurd (show (-12 : Int32) = 0 from congrArg Prod.fst h) (by decide)
      · rw [ck_if_f ho] at h
        obtain ⟨a, ha, ea⟩ := (ck_out_or (A 0) (n := nc) (by omega)).resolve_left ho |>.2
        rw [ea, nI_clamp (show a < 2 ^ 31 by omega)] at h
        have hst := cd_mono' hw (c := a + 1) (d := nc) (by omega) (Nat.le_refl _)
        have hM := hw.2.2.2.2.1
        have hnl := hw.2.1
        obtain ⟨j, j1, j2, t⟩ := hs a ha 0
        refine sd_go hw b0 b1 hs _ _ _ ⟨(0, j, []), sd_gl_in _ _ _ (by omega) (by omega) (by omega), by dsimp only; omega, t, fun e he => by cases he⟩ h
    · rw [if_neg k0] at h
      exact absurd (show (-11 : Int32) = 0 from congrArg Prod.fst h) (by decide)
/-- an answer 0 comes with the step -1 -/
theorem lk_go1 {nc : Nat} {st : Nat → Nat} {sg pr a0 a1 K A B : Nat → Int32} {b : Nat → Nat} : ∀ (r i : Nat) (L : List ck_G), (ck_go nc st sg pr a0 a1 K A B b r i L).1 = 0 → ck_go nc st sg pr a0 a1 K A B b r i L = (0, -1)
  | 0, i, L, h => by
    unfold ck_go at h ⊢
    by_cases e : L.isEmpty = true
    · rw [if_pos e]
    · rw [if_neg e] at h
      exact absurd (show (-19 : Int32) = 0 from h) (by decide)
  | r + 1, i, L, h => by
    rw [ck_go] at h ⊢
    by_cases z : (ck_step nc st sg pr a0 a1 K A B b i L).1 = 0
    · rw [if_pos z] at h ⊢
      exact lk_go1 r (i + 1) _ h
    · rw [if_neg z] at h
      exact absurd h z
theorem lk_all1 {nc : Nat} {st : Nat → Nat} {sg pr a0 a1 K A B : Nat → Int32} {b : Nat → Nat} {n : Nat} (h : (ck_all nc st sg pr a0 a1 K A B b n).1 = 0) : ck_all nc st sg pr a0 a1 K A B b n = (0, -1) := by
  unfold ck_all at h ⊢
  by_cases e0 : n = 0
  · rw [if_pos e0] at h
    exact absurd (show (-10 : Int32) = 0 from h) (by decide)
  · rw [if_neg e0] at h ⊢
    by_cases k0 : K 0 = 0
    · rw [if_pos k0] at h ⊢
      by_cases ho : ck_out (A 0) nc
      · rw [ck_if_t ho] at h
        exact absurd (show (-12 : Int32) = 0 from h) (by decide)
      · rw [ck_if_f ho] at h ⊢
        exact lk_go1 _ _ _ h
    · rw [if_neg k0] at h
      exact absurd (show (-11 : Int32) = 0 from h) (by decide)
