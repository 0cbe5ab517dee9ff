/-! Y's table: C m s says that the literal m is known to close below the path state s -/
def ye_ok (nc : Nat) (st : Nat → Nat) (sg pr a0 a1 ar : Nat → Int32) (C : Nat → Nat → Prop) (q b s2 : Nat) : Prop :=
  ∀ j, st (q / 4) ≤ j → j < st (q / 4 + 1) → ¬ j = b → ¬ yt_d s2 (cg_YL nc st sg pr a0 a1 ar j q / 2) = cg_YL nc st sg pr a0 a1 ar j q % 2 + 1 ∧ (yt_d s2 (cg_YL nc st sg pr a0 a1 ar j q / 2) = 0 → C (cg_YL nc st sg pr a0 a1 ar j q) s2)
def ye_at (nc : Nat) (st : Nat → Nat) (sg pr a0 a1 ar : Nat → Int32) (C : Nat → Nat → Prop) (m s2 q j : Nat) : Prop :=
  q < 4 * nc ∧ st (q / 4) ≤ j ∧ j < st (q / 4 + 1) ∧ cg_YL nc st sg pr a0 a1 ar j q = cm_neg m ∧ ye_ok nc st sg pr a0 a1 ar C q j s2
def ye_ev (nc : Nat) (st : Nat → Nat) (sg pr a0 a1 ar : Nat → Int32) (C : Nat → Nat → Prop) (m s : Nat) : Prop :=
  yt_d s (m / 2) = 2 - m % 2 ∨ (yt_d s (m / 2) = 0 ∧ ∃ q j, ye_at nc st sg pr a0 a1 ar C m (s + (m % 2 + 1) * 3 ^ (m / 2)) q j)
theorem ye_ev_mono {nc : Nat} {st : Nat → Nat} {sg pr a0 a1 ar : Nat → Int32} {C C' : Nat → Nat → Prop} (hC : ∀ m s, C m s → C' m s) {m s : Nat} (h : ye_ev nc st sg pr a0 a1 ar C m s) : ye_ev nc st sg pr a0 a1 ar C' m s := by
  rcases h with h | ⟨h0, q, j, h1, h2, h3, h4, h5⟩
  · exact Or.inl h
  · exact Or.inr ⟨h0, q, j, h1, h2, h3, h4, fun j' y1 y2 y3 => ⟨(h5 j' y1 y2 y3).1, fun z => hC _ _ ((h5 j' y1 y2 y3).2 z)⟩⟩
/-- what is known to close after p passes -/
def ye_lv (nc g : Nat) (st : Nat → Nat) (sg pr a0 a1 ar : Nat → Int32) (C : Nat → Nat → Prop) (p : Nat) : Prop :=
  ∀ (ms : List Nat) (m : Nat) (R : Nat → Prop), cm_ok ms → (∀ k, k ∈ ms → k / 2 < g) → m / 2 < g → (∀ r, R r → r < 4 * nc) → cm_goal (cg_HY nc st sg pr a0 a1 ar) R (fun k => k ∈ ms) m → 6 ≤ ms.length + p → C m (yp_s ms)
theorem ye_lv_0 {nc g : Nat} {st : Nat → Nat} {sg pr a0 a1 ar : Nat → Int32} {C : Nat → Nat → Prop} : ye_lv nc g st sg pr a0 a1 ar C 0 := by
  intro ms m R hok _ _ _ _ h6
  have := cm_cnt_le ms
  rw [cm_cnt_ok hok] at this
  omega
theorem ye_lv_s {nc nl g : Nat} {st : Nat → Nat} {sg pr a0 a1 ar : Nat → Int32} (hw : cd_wf nc nl st sg pr a0 a1 ar) (eg : cg_base pr ar (st nc) (cg_oc a0 a1 0 (st nc) && cg_oc a0 a1 1 (st nc)) 4 = g) (h5 : g ≤ 5) {C C' : Nat → Nat → Prop} {p : Nat}
    (h : ye_lv nc g st sg pr a0 a1 ar C p) (hs : ∀ m s, m < 2 * g → s < 3 ^ g → ye_ev nc st sg pr a0 a1 ar C m s → C' m s) : ye_lv nc g st sg pr a0 a1 ar C' (p + 1) := by
  intro ms m R hok hg hm hR hgoal h6
  have hnc := hw.1
  refine hs m (yp_s ms) (by omega) (yp_lt h5 hok hg) ?_
  by_cases hn : cm_neg m ∈ ms
  · exact Or.inl ((yp_neg hok (by omega)).mpr hn)
  · have hm1 : m ∉ ms := cm_goal_new hgoal
    have hok2 := (cm_len4 hok (by omega) hm1 hn).2
    refine Or.inr ⟨((yp_ok hok).2.1 (m / 2) (by omega)).mpr hok2.2.1, ?_⟩
    obtain ⟨R', r1, r2, r3⟩ := cm_thin (cg_HY nc st sg pr a0 a1 ar) R (cm_add (fun k => k ∈ ms) m) hgoal.2 (4 * nc)
    obtain ⟨q, hq, j, j1, j2, j3⟩ := cm_partner hgoal.1 r2 r1 hn
    have hq4 := hR q (r1 q hq)
    have hst := cd_mono' hw (c := q / 4 + 1) (d := nc) (by omega) (Nat.le_refl _)
    refine ⟨q, j, hq4, j1, j2, j3.symm, fun j' y1 y2 y3 => ?_⟩
    have hY := cg_YL_lt (q := q) hw (show j' < st nc by omega)
    rw [eg] at hY
    have hmem : cg_HY nc st sg pr a0 a1 ar q (cg_YL nc st sg pr a0 a1 ar j' q) := ⟨j', y1, y2, rfl⟩
    generalize cg_YL nc st sg pr a0 a1 ar j' q = K at hY hmem ⊢
    have goal2 : cm_goal (cg_HY nc st sg pr a0 a1 ar) (cm_del R' q) (fun k => k ∈ m :: ms) K := by
      refine cm_goal_congr (fun _ => Iff.rfl) (fun k => ?_) (cm_goal_next r2 (r3 q hq4 hq) hmem)
      unfold cm_add
      rw [List.mem_cons]
      exact Or.comm
    have es : yp_s ms + (m % 2 + 1) * 3 ^ (m / 2) = yp_s (m :: ms) := rfl
    rw [es]
    have nK := cm_goal_new goal2
    refine ⟨fun z => nK (((yp_ok hok2).2.2 K (by omega)).mp z), fun z => ?_⟩
    refine h (m :: ms) K (cm_del R' q) hok2 (fun k hk => ?_) (by omega) (fun r hr => hR r (r1 r hr.1)) goal2 (by rw [List.length_cons]; omega)
    rcases List.mem_cons.mp hk with z2 | z2
    · rw [z2]
      exact hm
    · exact hg k z2
/-! the walks -/
def ye_C (a : Nat → Int32) (m s : Nat) : Prop := ¬ a (m * 243 + s) = 0
section
variable {f_clauseCount f_litCount f_kept f_kN f_bN f_sealed f_lastStep f_cNodes f_cSp f_pNodes f_pSp : Int32} {a_lSign a_lPred a_lA0 a_lA1 a_lOwner a_arity a_kKind a_kA a_kB a_kBind a_bKind a_bA a_bB a_bBind a_cCopy a_cLit a_cPar a_cStk a_cl a_gtab a_pLit a_pPar a_pStk : Nat → Int32}
theorem ye_trit {post : Int32 → Prop} {s a : Nat} (hs : s < 2 ^ 20) (ha : a ≤ 8) (h : post (nI (yt_d s a))) : wpY_trit post (f_clauseCount, f_litCount, f_kept, f_kN, f_bN, f_sealed, f_lastStep, f_cNodes, f_cSp, f_pNodes, f_pSp, a_lSign, a_lPred, a_lA0, a_lA1, a_lOwner, a_arity, a_kKind, a_kA, a_kB, a_kBind, a_bKind, a_bA, a_bB, a_bBind, a_cCopy, a_cLit, a_cPar, a_cStk, a_cl, a_gtab, a_pLit, a_pPar, a_pStk) (nI s) (nI a) := by
  have hp : 3 ^ a ≤ 3 ^ 8 := Nat.pow_le_pow_right (by omega) ha
  have h38 : 3 ^ 8 = 6561 := by decide
  have hpos : 0 < 3 ^ a := Nat.pow_pos (by omega)
  have hd : s / 3 ^ a ≤ s := Nat.div_le_self _ _
  refine yu_pow3 ha ⟨nI_ne0 hpos (by omega), by decide, ?_⟩
  rw [pk_div (by omega) hpos (by omega), show (3 : Int32) = nI 3 from rfl, pk_rem (by omega) (by omega) (by omega)]
  exact h
theorem ye_ext {post : Int32 → Prop} {nc nl g : Nat} {st : Nat → Nat} (hw : cd_wf nc nl st a_lSign a_lPred a_lA0 a_lA1 a_arity) (how : cd_own nc nl st a_lOwner)
    (eg : cg_base a_lPred a_arity (st nc) (cg_oc a_lA0 a_lA1 0 (st nc) && cg_oc a_lA0 a_lA1 1 (st nc)) 4 = g) (h5 : g ≤ 5) (hgt : yn_gt nc st a_lSign a_lPred a_lA0 a_lA1 a_arity a_gtab) {q b s2 : Nat} (hq : q < 4 * nc) (hs : s2 < 243)
    (h1 : ye_ok nc st a_lSign a_lPred a_lA0 a_lA1 a_arity (ye_C a_cl) q b s2 → post 1) (h0 : ¬ ye_ok nc st a_lSign a_lPred a_lA0 a_lA1 a_arity (ye_C a_cl) q b s2 → post 0) (hb : b < 16) :
    wpY_extOk post (nI nc, nI nl, f_kept, f_kN, f_bN, f_sealed, f_lastStep, f_cNodes, f_cSp, f_pNodes, f_pSp, a_lSign, a_lPred, a_lA0, a_lA1, a_lOwner, a_arity, a_kKind, a_kA, a_kB, a_kBind, a_bKind, a_bA, a_bB, a_bBind, a_cCopy, a_cLit, a_cPar, a_cStk, a_cl, a_gtab, a_pLit, a_pPar, a_pStk) (nI (q / 4)) (nI (q % 4)) (nI b) (nI s2) := by
  have hnc := hw.1
  have hM := hw.2.2.2.2.1
  have hnl := hw.2.1
  have hc : q / 4 < nc := by omega
  have een : cd_en nc nl st (q / 4) = st (q / 4 + 1) := cd_en_lt hc
  obtain ⟨b1, b2, b3⟩ := cd_en_bd hw (show q / 4 ≤ nc by omega)
  have hst := cd_mono' hw (c := q / 4 + 1) (d := nc) (by omega) (Nat.le_refl _)
  have key : ∀ d j : Nat, j + d = nl → (∀ j', j' < j → st (q / 4) ≤ j' → j' < st (q / 4 + 1) → ¬ j' = b → ¬ yt_d s2 (cg_YL nc st a_lSign a_lPred a_lA0 a_lA1 a_arity j' q / 2) = cg_YL nc st a_lSign a_lPred a_lA0 a_lA1 a_arity j' q % 2 + 1 ∧ (yt_d s2 (cg_YL nc st a_lSign a_lPred a_lA0 a_lA1 a_arity j' q / 2) = 0 → ye_C a_cl (cg_YL nc st a_lSign a_lPred a_lA0 a_lA1 a_arity j' q) s2)) →
      wY_extOk_3 post (nI (q / 4)) (nI (q % 4)) (nI b) (nI s2) (nI nc) (nI nl) f_kept f_kN f_bN f_sealed f_lastStep f_cNodes f_cSp f_pNodes f_pSp a_lSign a_lPred a_lA0 a_lA1 a_lOwner a_arity a_kKind a_kA a_kB a_kBind a_bKind a_bA a_bB a_bBind a_cCopy a_cLit a_cPar a_cStk a_cl a_gtab a_pLit a_pPar a_pStk (d + 1) (nI j) := by
    intro d
    induction d with
    | zero =>
      intro j hj hall
      exact br_t (nI_le (by omega) (by omega)) (h1 (fun j' y1 y2 y3 => hall j' (by omega) y1 y2 y3))
    | succ d ih =>
      intro j hj hall
      refine br_f (nI_ge (show j < nl by omega) (by omega)) ⟨vp_in_nI (by omega) (by decide), ?_⟩
      rw [nI_clamp (show j < 2 ^ 31 by omega)]
      refine ek_if (cd_own_iff hw how (show j < nl by omega) (show q / 4 ≤ nc by omega)) (fun z => ?_) (fun z => nm_r (nI_1 j) (ih (j + 1) (by omega) (fun j' hj' y1 y2 y3 => ?_)))
      · rw [een] at z
        refine pk_eq j b (fun e => nm_r (nI_1 j) (ih (j + 1) (by omega) (fun j' hj' y1 y2 y3 => ?_))) (fun e => ?_)
        · exact hall j' (by omega) y1 y2 y3
        · have eix : nI j * 4 + nI (q % 4) = nI (j * 4 + q % 4) := by
            rw [show (4 : Int32) = nI 4 from rfl, pk_mul, nI_add]
          rw [eix]
          refine ⟨vp_in_nI (by omega) (by decide), ?_⟩
          rw [nI_clamp (show j * 4 + q % 4 < 2 ^ 31 by omega), hgt j (q % 4) (by omega) (by omega), cg_YL_mod]
          have hY := cg_YL_lt (q := q) hw (show j < st nc by omega)
          rw [eg] at hY
          have bad : ¬ (¬ yt_d s2 (cg_YL nc st a_lSign a_lPred a_lA0 a_lA1 a_arity j q / 2) = cg_YL nc st a_lSign a_lPred a_lA0 a_lA1 a_arity j q % 2 + 1 ∧ (yt_d s2 (cg_YL nc st a_lSign a_lPred a_lA0 a_lA1 a_arity j q / 2) = 0 → ye_C a_cl (cg_YL nc st a_lSign a_lPred a_lA0 a_lA1 a_arity j q) s2)) → post 0 :=
            fun y => h0 (fun ok => y (ok j z.1 z.2 e))
          have good : (¬ yt_d s2 (cg_YL nc st a_lSign a_lPred a_lA0 a_lA1 a_arity j q / 2) = cg_YL nc st a_lSign a_lPred a_lA0 a_lA1 a_arity j q % 2 + 1 ∧ (yt_d s2 (cg_YL nc st a_lSign a_lPred a_lA0 a_lA1 a_arity j q / 2) = 0 → ye_C a_cl (cg_YL nc st a_lSign a_lPred a_lA0 a_lA1 a_arity j q) s2)) →
              wY_extOk_3 post (nI (q / 4)) (nI (q % 4)) (nI b) (nI s2) (nI nc) (nI nl) f_kept f_kN f_bN f_sealed f_lastStep f_cNodes f_cSp f_pNodes f_pSp a_lSign a_lPred a_lA0 a_lA1 a_lOwner a_arity a_kKind a_kA a_kB a_kBind a_bKind a_bA a_bB a_bBind a_cCopy a_cLit a_cPar a_cStk a_cl a_gtab a_pLit a_pPar a_pStk (d + 1) (nI (j + 1)) := by
            intro y
            refine ih (j + 1) (by omega) (fun j' hj' y1 y2 y3 => ?_)
            by_cases e2 : j' = j
            · rw [e2]
              exact y
            · exact hall j' (by omega) y1 y2 y3
          generalize cg_YL nc st a_lSign a_lPred a_lA0 a_lA1 a_arity j q = K at hY bad good ⊢
          have ed : nI K / 2 = nI (K / 2) := by
            rw [show (2 : Int32) = nI 2 from rfl, pk_div (by omega) (by omega) (by omega)]
          have er : nI K - nI K / 2 * 2 = nI (K % 2) := by
            rw [show (2 : Int32) = nI 2 from rfl, pk_rem (by omega) (by omega) (by omega)]
          refine nm_e ⟨by decide, ?_⟩
          rw [er, ed]
          have t3 : yt_d s2 (K / 2) < 3 := Nat.mod_lt _ (by omega)
          refine ye_trit (by omega) (by omega) ⟨by decide, ?_⟩
          rw [nI_1]
          refine pk_eq (yt_d s2 (K / 2)) (K % 2 + 1) (fun t1 => bad (fun y => y.1 t1)) (fun t1 => pk_eq (yt_d s2 (K / 2)) 0 (fun t0 => ?_) (fun t0 => nm_r (nI_1 j) (good ⟨t1, fun y => absurd y t0⟩)))
          have eK : nI K * 243 + nI s2 = nI (K * 243 + s2) := by
            rw [show (243 : Int32) = nI 243 from rfl, pk_mul, nI_add]
          rw [eK]
          refine ⟨vp_in_nI (by omega) (by decide), ?_⟩
          rw [nI_clamp (show K * 243 + s2 < 2 ^ 31 by omega)]
          exact br_c (fun y => bad (fun y2 => y2.2 t0 y)) (fun y => nm_r (nI_1 j) (good ⟨t1, fun _ => y⟩))
      · by_cases e : j' = j
        · subst e
          rw [een] at z
          exact absurd ⟨y1, y2⟩ z
        · exact hall j' (by omega) y1 y2 y3
  exact ⟨_, key nl 0 (by omega) (fun j' hj' => absurd hj' (Nat.not_lt_zero j'))⟩
theorem ye_find {post : Int32 → Prop} {nc nl g : Nat} {st : Nat → Nat} (hw : cd_wf nc nl st a_lSign a_lPred a_lA0 a_lA1 a_arity) (how : cd_own nc nl st a_lOwner)
    (eg : cg_base a_lPred a_arity (st nc) (cg_oc a_lA0 a_lA1 0 (st nc) && cg_oc a_lA0 a_lA1 1 (st nc)) 4 = g) (h5 : g ≤ 5) (hgt : yn_gt nc st a_lSign a_lPred a_lA0 a_lA1 a_arity a_gtab) {m s2 : Nat} (hm : m < 10) (hs : s2 < 243)
    (h1 : ∀ q j, ye_at nc st a_lSign a_lPred a_lA0 a_lA1 a_arity (ye_C a_cl) m s2 q j → post (nI (q * 16 + j))) (h0 : ¬ (∃ q j, ye_at nc st a_lSign a_lPred a_lA0 a_lA1 a_arity (ye_C a_cl) m s2 q j) → post (-1)) :
    wpY_findExt post (nI nc, nI nl, f_kept, f_kN, f_bN, f_sealed, f_lastStep, f_cNodes, f_cSp, f_pNodes, f_pSp, a_lSign, a_lPred, a_lA0, a_lA1, a_lOwner, a_arity, a_kKind, a_kA, a_kB, a_kBind, a_bKind, a_bA, a_bB, a_bBind, a_cCopy, a_cLit, a_cPar, a_cStk, a_cl, a_gtab, a_pLit, a_pPar, a_pStk) (nI m) (nI s2) := by
  have hnc := hw.1
  have hM := hw.2.2.2.2.1
  have hnl := hw.2.1
  have hn10 := cm_neg_lt hm
  have e4 : nI nc * 4 = nI (4 * nc) := by
    rw [show (4 : Int32) = nI 4 from rfl, pk_mul, Nat.mul_comm]
  have key : ∀ d q : Nat, q + d = 4 * nc → (∀ q' j', q' < q → ¬ ye_at nc st a_lSign a_lPred a_lA0 a_lA1 a_arity (ye_C a_cl) m s2 q' j') → wY_findExt_2 post (nI m) (nI s2) (nI nc) (nI nl) f_kept f_kN f_bN f_sealed f_lastStep f_cNodes f_cSp f_pNodes f_pSp a_lSign a_lPred a_lA0 a_lA1 a_lOwner a_arity a_kKind a_kA a_kB a_kBind a_bKind a_bA a_bB a_bBind a_cCopy a_cLit a_cPar a_cStk a_cl a_gtab a_pLit a_pPar a_pStk (d + 1) (nI q) := by
    intro d
    induction d with
    | zero =>
      intro q hq hno
      refine br_t (by rw [e4]; exact nI_le (by omega) (by omega)) (h0 (fun ⟨q', j', y⟩ => hno q' j' (by have := y.1; omega) y))
    | succ d ih =>
      intro q hq hno
      have hq4 : q < 4 * nc := by omega
      have hc : q / 4 < nc := by omega
      have een : cd_en nc nl st (q / 4) = st (q / 4 + 1) := cd_en_lt hc
      obtain ⟨b1, b2, b3⟩ := cd_en_bd hw (show q / 4 ≤ nc by omega)
      have hst := cd_mono' hw (c := q / 4 + 1) (d := nc) (by omega) (Nat.le_refl _)
      have ed : nI q / 4 = nI (q / 4) := by
        rw [show (4 : Int32) = nI 4 from rfl, pk_div (by omega) (by omega) (by omega)]
      have er : nI q - nI q / 4 * 4 = nI (q % 4) := by
        rw [show (4 : Int32) = nI 4 from rfl, pk_rem (by omega) (by omega) (by omega)]
      refine br_f (by rw [e4]; exact nI_ge (by omega) (by omega)) ?_
      have inner : ∀ d2 j : Nat, j + d2 = nl → (∀ j', j' < j → ¬ ye_at nc st a_lSign a_lPred a_lA0 a_lA1 a_arity (ye_C a_cl) m s2 q j') →
          wY_findExt_15 post (wY_findExt_2 post (nI m) (nI s2) (nI nc) (nI nl) f_kept f_kN f_bN f_sealed f_lastStep f_cNodes f_cSp f_pNodes f_pSp a_lSign a_lPred a_lA0 a_lA1 a_lOwner a_arity a_kKind a_kA a_kB a_kBind a_bKind a_bA a_bB a_bBind a_cCopy a_cLit a_cPar a_cStk a_cl a_gtab a_pLit a_pPar a_pStk (d + 1)) (nI m) (nI s2) (nI q) (nI nc) (nI nl) f_kept f_kN f_bN f_sealed f_lastStep f_cNodes f_cSp f_pNodes f_pSp a_lSign a_lPred a_lA0 a_lA1 a_lOwner a_arity a_kKind a_kA a_kB a_kBind a_bKind a_bA a_bB a_bBind a_cCopy a_cLit a_cPar a_cStk a_cl a_gtab a_pLit a_pPar a_pStk (d2 + 1) (nI j) := by
        intro d2
        induction d2 with
        | zero =>
          intro j hj hn
          refine br_t (nI_le (by omega) (by omega)) (nm_r (nI_1 q) (ih (q + 1) (by omega) (fun q' j' hq' y => ?_)))
          by_cases e : q' = q
          · subst e
            have := y.2.2.1
            exact hn j' (by omega) y
          · exact hno q' j' (by omega) y
        | succ d2 ih2 =>
          intro j hj hn
          have next : ¬ ye_at nc st a_lSign a_lPred a_lA0 a_lA1 a_arity (ye_C a_cl) m s2 q j → wY_findExt_15 post (wY_findExt_2 post (nI m) (nI s2) (nI nc) (nI nl) f_kept f_kN f_bN f_sealed f_lastStep f_cNodes f_cSp f_pNodes f_pSp a_lSign a_lPred a_lA0 a_lA1 a_lOwner a_arity a_kKind a_kA a_kB a_kBind a_bKind a_bA a_bB a_bBind a_cCopy a_cLit a_cPar a_cStk a_cl a_gtab a_pLit a_pPar a_pStk (d + 1)) (nI m) (nI s2) (nI q) (nI nc) (nI nl) f_kept f_kN f_bN f_sealed f_lastStep f_cNodes f_cSp f_pNodes f_pSp a_lSign a_lPred a_lA0 a_lA1 a_lOwner a_arity a_kKind a_kA a_kB a_kBind a_bKind a_bA a_bB a_bBind a_cCopy a_cLit a_cPar a_cStk a_cl a_gtab a_pLit a_pPar a_pStk (d2 + 1) (nI (j + 1)) := by
            intro y
            refine ih2 (j + 1) (by omega) (fun j' hj' => ?_)
            by_cases e : j' = j
            · rw [e]
              exact y
            · exact hn j' (by omega)
          refine br_f (nI_ge (show j < nl by omega) (by omega)) ⟨vp_in_nI (by omega) (by decide), by decide, ?_⟩
          rw [nI_clamp (show j < 2 ^ 31 by omega), er, ed]
          refine ek_if (cd_own_iff hw how (show j < nl by omega) (show q / 4 ≤ nc by omega)) (fun z => ⟨by decide, ?_⟩) (fun z => nm_r (nI_1 j) (next (fun y => z ⟨y.2.1, by rw [een]; exact y.2.2.1⟩)))
          rw [een] at z
          have eix : nI j * 4 + nI (q % 4) = nI (j * 4 + q % 4) := by
            rw [show (4 : Int32) = nI 4 from rfl, pk_mul, nI_add]
          rw [eix]
          refine ⟨vp_in_nI (by omega) (by decide), ?_⟩
          have hY := cg_YL_lt (q := q) hw (show j < st nc by omega)
          rw [eg] at hY
          rw [nI_clamp (show j * 4 + q % 4 < 2 ^ 31 by omega), hgt j (q % 4) (by omega) (by omega), cg_YL_mod, xw_neg m hm]
          refine pk_eq (cg_YL nc st a_lSign a_lPred a_lA0 a_lA1 a_arity j q) (cm_neg m) (fun e => ⟨by decide, by decide, ?_⟩) (fun e => nm_r (nI_1 j) (next (fun y => e y.2.2.2.1)))
          refine ye_ext hw how eg h5 hgt hq4 hs (fun ok => br_f (by decide) ?_) (fun ok => br_t rfl (nm_r (nI_1 j) (next (fun y => ok y.2.2.2.2)))) (by omega)
          have e16 : nI q * 16 + nI j = nI (q * 16 + j) := by
            rw [show (16 : Int32) = nI 16 from rfl, pk_mul, nI_add]
          rw [e16]
          exact h1 q j ⟨hq4, z.1, z.2, e, ok⟩
      exact ⟨_, inner nl 0 (by omega) (fun j' hj' => absurd hj' (Nat.not_lt_zero j'))⟩
  exact ⟨_, key (4 * nc) 0 (by omega) (fun q' j' hq' => absurd hq' (Nat.not_lt_zero q'))⟩
theorem ye_eval {post : Int32 → Prop} {nc nl g : Nat} {st : Nat → Nat} (hw : cd_wf nc nl st a_lSign a_lPred a_lA0 a_lA1 a_arity) (how : cd_own nc nl st a_lOwner)
    (eg : cg_base a_lPred a_arity (st nc) (cg_oc a_lA0 a_lA1 0 (st nc) && cg_oc a_lA0 a_lA1 1 (st nc)) 4 = g) (h5 : g ≤ 5) (hgt : yn_gt nc st a_lSign a_lPred a_lA0 a_lA1 a_arity a_gtab) {m s : Nat} (hm : m < 2 * g) (hs : s < 243)
    (h1 : ye_ev nc st a_lSign a_lPred a_lA0 a_lA1 a_arity (ye_C a_cl) m s → post 1) (h0 : ¬ ye_ev nc st a_lSign a_lPred a_lA0 a_lA1 a_arity (ye_C a_cl) m s → post 0) :
    wpY_evalState post (nI nc, nI nl, f_kept, f_kN, f_bN, f_sealed, f_lastStep, f_cNodes, f_cSp, f_pNodes, f_pSp, a_lSign, a_lPred, a_lA0, a_lA1, a_lOwner, a_arity, a_kKind, a_kA, a_kB, a_kBind, a_bKind, a_bA, a_bB, a_bBind, a_cCopy, a_cLit, a_cPar, a_cStk, a_cl, a_gtab, a_pLit, a_pPar, a_pStk) (nI m) (nI s) := by
  have ed : nI m / 2 = nI (m / 2) := by
    rw [show (2 : Int32) = nI 2 from rfl, pk_div (by omega) (by omega) (by omega)]
  have er : nI m - nI m / 2 * 2 = nI (m % 2) := by
    rw [show (2 : Int32) = nI 2 from rfl, pk_rem (by omega) (by omega) (by omega)]
  have t3 : yt_d s (m / 2) < 3 := Nat.mod_lt _ (by omega)
  have e2 : (2 : Int32) - nI (m % 2) = nI (2 - m % 2) := by
    rw [show (2 : Int32) = nI 2 from rfl, pk_sub (by omega)]
  refine ⟨by decide, nm_r ed ?_⟩
  refine ye_trit (by omega) (by omega) ⟨by decide, ?_⟩
  rw [er, e2]
  refine pk_eq (yt_d s (m / 2)) (2 - m % 2) (fun t => h1 (Or.inl t)) (fun t => pk_eq (yt_d s (m / 2)) 0 (fun t0 => ⟨by decide, ?_⟩) (fun t0 => h0 (fun y => y.elim t (fun z => t0 z.1))))
  refine yu_pow3 (by omega) ?_
  have es : nI s + (nI (m % 2) + 1) * nI (3 ^ (m / 2)) = nI (s + (m % 2 + 1) * 3 ^ (m / 2)) := by
    rw [nI_1, pk_mul, nI_add]
  have hs2 := (yt_add hs (show m / 2 < 5 by omega) (b := 0) (by omega) (show m % 2 + 1 ≤ 2 by omega) t0).1
  refine nm_r es ?_
  refine ye_find hw how eg h5 hgt (by omega) hs2 (fun q j y => br_f (nI_pos ?_) (h1 (Or.inr ⟨t0, q, j, y⟩))) (fun y => br_t (by decide) (h0 (fun z => z.elim t (fun w => y w.2))))
  have hnc := hw.1
  have hnl := hw.2.1
  have hM := hw.2.2.2.2.1
  have hst := cd_mono' hw (c := q / 4 + 1) (d := nc) (by have := y.1; omega) (Nat.le_refl _)
  have := y.1
  have := y.2.2.1
  omega
end
