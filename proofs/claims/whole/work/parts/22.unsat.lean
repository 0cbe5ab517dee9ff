/-! Y decides -/
def yn_gt (nc : Nat) (st : Nat → Nat) (sg pr a0 a1 ar gt : Nat → Int32) : Prop := ∀ j k, j < st nc → k < 4 → gt (j * 4 + k) = nI (cg_YL nc st sg pr a0 a1 ar j k)
theorem cg_YL_mod {nc : Nat} {st : Nat → Nat} {sg pr a0 a1 ar : Nat → Int32} {j q : Nat} : cg_YL nc st sg pr a0 a1 ar j (q % 4) = cg_YL nc st sg pr a0 a1 ar j q := by
  unfold cg_YL
  rw [Nat.mod_mod]
theorem yn_bit : ∀ m, m < 32 → ∀ a, a < 5 → ((nI m >>> (nI a &&& 31)) &&& 1) = (if m.testBit a = true then 1 else 0) := by decide +kernel
section
variable {f_clauseCount f_litCount f_kept f_kN f_bN f_sealed f_lastStep f_cNodes f_cSp f_pNodes f_pSp : Int32} {a_lSign a_lPred a_lA0 a_lA1 a_lOwner a_arity a_kKind a_kA a_kB a_kBind a_bKind a_bA a_bB a_bBind a_cCopy a_cLit a_cPar a_cStk a_cl a_gtab a_pLit a_pPar a_pStk : Nat → Int32}
theorem yn_inst {post : Int32 → Prop} {nc nl : Nat} {st : Nat → Nat} (hw : cd_wf nc nl st a_lSign a_lPred a_lA0 a_lA1 a_arity) (how : cd_own nc nl st a_lOwner)
    (h5 : cg_base a_lPred a_arity (st nc) (cg_oc a_lA0 a_lA1 0 (st nc) && cg_oc a_lA0 a_lA1 1 (st nc)) 4 ≤ 5) (hgt : yn_gt nc st a_lSign a_lPred a_lA0 a_lA1 a_arity a_gtab) {q m : Nat} (hq : q < 4 * nc) (hm : m < 32)
    (h1 : (∃ x, cg_HY nc st a_lSign a_lPred a_lA0 a_lA1 a_arity q x ∧ cm_tr (cg_tb m) x) → post 1) (h0 : ¬ (∃ x, cg_HY nc st a_lSign a_lPred a_lA0 a_lA1 a_arity q x ∧ cm_tr (cg_tb m) x) → post 0) :
    wpY_instHolds post (nI nc, nI nl, f_kept, f_kN, f_bN, f_sealed, f_lastStep, f_cNodes, f_cSp, f_pNodes, f_pSp, a_lSign, a_lPred, a_lA0, a_lA1, a_lOwner, a_arity, a_kKind, a_kA, a_kB, a_kBind, a_bKind, a_bA, a_bB, a_bBind, a_cCopy, a_cLit, a_cPar, a_cStk, a_cl, a_gtab, a_pLit, a_pPar, a_pStk) (nI (q / 4)) (nI (q % 4)) (nI m) := by
  have hnc := hw.1
  have hM := hw.2.2.2.2.1
  have hnl := hw.2.1
  have hc : q / 4 < nc := by omega
  obtain ⟨b1, b2, b3⟩ := cd_en_bd hw (show q / 4 ≤ nc by omega)
  have een : cd_en nc nl st (q / 4) = st (q / 4 + 1) := cd_en_lt hc
  have hst := cd_mono' hw (c := q / 4 + 1) (d := nc) (by omega) (Nat.le_refl _)
  have key : ∀ d j : Nat, j + d = nl → (∀ j', j' < j → st (q / 4) ≤ j' → j' < st (q / 4 + 1) → ¬ cm_tr (cg_tb m) (cg_YL nc st a_lSign a_lPred a_lA0 a_lA1 a_arity j' q)) →
      wY_instHolds_3 post (nI (q / 4)) (nI (q % 4)) (nI m) (nI nc) (nI nl) f_kept f_kN f_bN f_sealed f_lastStep f_cNodes f_cSp f_pNodes f_pSp a_lSign a_lPred a_lA0 a_lA1 a_lOwner a_arity a_kKind a_kA a_kB a_kBind a_bKind a_bA a_bB a_bBind a_cCopy a_cLit a_cPar a_cStk a_cl a_gtab a_pLit a_pPar a_pStk (d + 1) (nI j) := by
    intro d
    induction d with
    | zero =>
      intro j hj hno
      refine br_t (nI_le (by omega) (by omega)) (h0 (fun ⟨x, ⟨j', e1, e2, e3⟩, t⟩ => ?_))
      rw [e3] at t
      exact hno j' (by omega) e1 e2 t
    | succ d ih =>
      intro j hj hno
      refine br_f (nI_ge (show j < nl by omega) (by omega)) ⟨vp_in_nI (by omega) (by decide), ?_⟩
      rw [nI_clamp (show j < 2 ^ 31 by omega)]
      refine ek_if (cd_own_iff hw how (show j < nl by omega) (show q / 4 ≤ nc by omega)) (fun z => ?_) (fun z => nm_r (nI_1 j) (ih (j + 1) (by omega) (fun j' hj' e1 e2 => ?_)))
      · rw [een] at z
        have eix : nI j * 4 + nI (q % 4) = nI (j * 4 + q % 4) := by
          rw [show (4 : Int32) = nI 4 from rfl, pk_mul, nI_add]
        rw [eix]
        refine ⟨vp_in_nI (by omega) (by decide), ?_⟩
        rw [nI_clamp (show j * 4 + q % 4 < 2 ^ 31 by omega), hgt j (q % 4) (by omega) (by omega), cg_YL_mod]
        have hY := cg_YL_lt (q := q) hw (show j < st nc by omega)
        have cont : ¬ cm_tr (cg_tb m) (cg_YL nc st a_lSign a_lPred a_lA0 a_lA1 a_arity j q) → wY_instHolds_3 post (nI (q / 4)) (nI (q % 4)) (nI m) (nI nc) (nI nl) f_kept f_kN f_bN f_sealed f_lastStep f_cNodes f_cSp f_pNodes f_pSp a_lSign a_lPred a_lA0 a_lA1 a_lOwner a_arity a_kKind a_kA a_kB a_kBind a_bKind a_bA a_bB a_bBind a_cCopy a_cLit a_cPar a_cStk a_cl a_gtab a_pLit a_pPar a_pStk (d + 1) (nI (j + 1)) := by
          intro nt
          refine ih (j + 1) (by omega) (fun j' hj' e1 e2 => ?_)
          by_cases e : j' = j
          · rw [e]
            exact nt
          · exact hno j' (by omega) e1 e2
        have yes : cm_tr (cg_tb m) (cg_YL nc st a_lSign a_lPred a_lA0 a_lA1 a_arity j q) → post 1 := fun t => h1 ⟨_, ⟨j, z.1, z.2, rfl⟩, t⟩
        generalize cg_YL nc st a_lSign a_lPred a_lA0 a_lA1 a_arity j q = x at hY cont yes ⊢
        have ed : nI x / 2 = nI (x / 2) := by
          rw [show (2 : Int32) = nI 2 from rfl, pk_div (by omega) (by omega) (by omega)]
        have er : nI x - nI x / 2 * 2 = nI (x % 2) := by
          rw [show (2 : Int32) = nI 2 from rfl, pk_rem (by omega) (by omega) (by omega)]
        refine nm_e ⟨by decide, ?_⟩
        rw [er, ed, yn_bit m hm (x / 2) (by omega)]
        refine nm_e ⟨by decide, ?_⟩
        unfold cm_tr cg_tb at cont yes
        have c2 : x % 2 = 0 ∨ x % 2 = 1 := by omega
        cases tb : m.testBit (x / 2)
        · rw [if_neg (by decide)]
          rw [tb] at cont yes
          rcases c2 with c2 | c2
          · rw [c2] at cont ⊢
            exact br_t rfl (br_f (by decide) (br_f (by decide) (nm_r (nI_1 j) (cont (by decide)))))
          · rw [c2] at yes ⊢
            exact br_f (by decide) (br_f (by decide) (br_t rfl (yes (by decide))))
        · rw [if_pos rfl]
          rw [tb] at cont yes
          rcases c2 with c2 | c2
          · rw [c2] at yes ⊢
            exact br_t rfl (br_t rfl (br_t rfl (yes (by decide))))
          · rw [c2] at cont ⊢
            exact br_f (by decide) (br_t rfl (br_f (by decide) (nm_r (nI_1 j) (cont (by decide)))))
      · by_cases e : j' = j
        · subst e
          rw [een] at z
          exact absurd ⟨e1, e2⟩ z
        · exact hno j' (by omega) e1 e2
  exact ⟨_, key nl 0 (by omega) (fun j' hj' => absurd hj' (Nat.not_lt_zero j'))⟩
theorem yn_all {post : Int32 → Prop} {nc nl : Nat} {st : Nat → Nat} (hw : cd_wf nc nl st a_lSign a_lPred a_lA0 a_lA1 a_arity) (how : cd_own nc nl st a_lOwner)
    (h5 : cg_base a_lPred a_arity (st nc) (cg_oc a_lA0 a_lA1 0 (st nc) && cg_oc a_lA0 a_lA1 1 (st nc)) 4 ≤ 5) (hgt : yn_gt nc st a_lSign a_lPred a_lA0 a_lA1 a_arity a_gtab) {m : Nat} (hm : m < 32)
    (h1 : (∀ q, q < 4 * nc → ∃ x, cg_HY nc st a_lSign a_lPred a_lA0 a_lA1 a_arity q x ∧ cm_tr (cg_tb m) x) → post 1) (h0 : ¬ (∀ q, q < 4 * nc → ∃ x, cg_HY nc st a_lSign a_lPred a_lA0 a_lA1 a_arity q x ∧ cm_tr (cg_tb m) x) → post 0) :
    wpY_holdsAll post (nI nc, nI nl, f_kept, f_kN, f_bN, f_sealed, f_lastStep, f_cNodes, f_cSp, f_pNodes, f_pSp, a_lSign, a_lPred, a_lA0, a_lA1, a_lOwner, a_arity, a_kKind, a_kA, a_kB, a_kBind, a_bKind, a_bA, a_bB, a_bBind, a_cCopy, a_cLit, a_cPar, a_cStk, a_cl, a_gtab, a_pLit, a_pPar, a_pStk) (nI m) := by
  have hnc := hw.1
  have e4 : nI nc * 4 = nI (4 * nc) := by
    rw [show (4 : Int32) = nI 4 from rfl, pk_mul, Nat.mul_comm]
  have key : ∀ d q : Nat, q + d = 4 * nc → (∀ q', q' < q → ∃ x, cg_HY nc st a_lSign a_lPred a_lA0 a_lA1 a_arity q' x ∧ cm_tr (cg_tb m) x) → wY_holdsAll_2 post (nI m) (nI nc) (nI nl) f_kept f_kN f_bN f_sealed f_lastStep f_cNodes f_cSp f_pNodes f_pSp a_lSign a_lPred a_lA0 a_lA1 a_lOwner a_arity a_kKind a_kA a_kB a_kBind a_bKind a_bA a_bB a_bBind a_cCopy a_cLit a_cPar a_cStk a_cl a_gtab a_pLit a_pPar a_pStk (d + 1) (nI q) := by
    intro d
    induction d with
    | zero =>
      intro q hq hall
      refine br_t (by rw [e4]; exact nI_le (by omega) (by omega)) (h1 (fun q' hq' => hall q' (by omega)))
    | succ d ih =>
      intro q hq hall
      have ed : nI q / 4 = nI (q / 4) := by
        rw [show (4 : Int32) = nI 4 from rfl, pk_div (by omega) (by omega) (by omega)]
      have er : nI q - nI q / 4 * 4 = nI (q % 4) := by
        rw [show (4 : Int32) = nI 4 from rfl, pk_rem (by omega) (by omega) (by omega)]
      refine br_f (by rw [e4]; exact nI_ge (by omega) (by omega)) ⟨by decide, by decide, ?_⟩
      rw [er, ed]
      refine yn_inst hw how h5 hgt (show q < 4 * nc by omega) hm (fun z => br_f (by decide) (nm_r (nI_1 q) (ih (q + 1) (by omega) (fun q' hq' => ?_)))) (fun z => br_t rfl (h0 (fun y => z (y q (by omega)))))
      by_cases e : q' = q
      · rw [e]
        exact z
      · exact hall q' (by omega)
  exact ⟨_, key (4 * nc) 0 (by omega) (fun q' hq' => absurd hq' (Nat.not_lt_zero q'))⟩
theorem yn_unsat {post : Int32 → Prop} {nc nl g : Nat} {st : Nat → Nat} (hw : cd_wf nc nl st a_lSign a_lPred a_lA0 a_lA1 a_arity) (how : cd_own nc nl st a_lOwner)
    (eg : cg_base a_lPred a_arity (st nc) (cg_oc a_lA0 a_lA1 0 (st nc) && cg_oc a_lA0 a_lA1 1 (st nc)) 4 = g) (h5 : g ≤ 5) (hgt : yn_gt nc st a_lSign a_lPred a_lA0 a_lA1 a_arity a_gtab)
    (h1 : ¬ cm_sat (cg_HY nc st a_lSign a_lPred a_lA0 a_lA1 a_arity) (fun q => q < 4 * nc) (fun _ => False) → post 1) (h0 : cm_sat (cg_HY nc st a_lSign a_lPred a_lA0 a_lA1 a_arity) (fun q => q < 4 * nc) (fun _ => False) → post 0) :
    wpY_unsat post (nI nc, nI nl, f_kept, f_kN, f_bN, f_sealed, f_lastStep, f_cNodes, f_cSp, f_pNodes, f_pSp, a_lSign, a_lPred, a_lA0, a_lA1, a_lOwner, a_arity, a_kKind, a_kA, a_kB, a_kBind, a_bKind, a_bA, a_bB, a_bBind, a_cCopy, a_cLit, a_cPar, a_cStk, a_cl, a_gtab, a_pLit, a_pPar, a_pStk) (nI g) := by
  have p32 : 2 ^ g ≤ 32 := Nat.pow_le_pow_right (by omega) h5
  have hM := hw.2.2.2.2.1
  have hnc := hw.1
  refine yu_power (b := 2) (by omega) ?_
  have key : ∀ d m : Nat, m + d = 2 ^ g → (∀ m', m' < m → ¬ (∀ q, q < 4 * nc → ∃ x, cg_HY nc st a_lSign a_lPred a_lA0 a_lA1 a_arity q x ∧ cm_tr (cg_tb m') x)) → wY_unsat_9 post (nI (2 ^ g)) (nI nc) (nI nl) f_kept f_kN f_bN f_sealed f_lastStep f_cNodes f_cSp f_pNodes f_pSp a_lSign a_lPred a_lA0 a_lA1 a_lOwner a_arity a_kKind a_kA a_kB a_kBind a_bKind a_bA a_bB a_bBind a_cCopy a_cLit a_cPar a_cStk a_cl a_gtab a_pLit a_pPar a_pStk (d + 1) (nI m) := by
    intro d
    induction d with
    | zero =>
      intro m hm hno
      refine br_t (nI_le (by omega) (by omega)) (h1 (fun ⟨f, y1, _⟩ => ?_))
      obtain ⟨t, ht, hf⟩ := xs_f5 f
      refine hno (t % 2 ^ g) (by have := Nat.mod_lt t (Nat.two_pow_pos g); omega) (fun q hq => ?_)
      obtain ⟨x, ⟨j, j1, j2, j3⟩, tx⟩ := y1 q hq
      have hst := cd_mono' hw (c := q / 4 + 1) (d := nc) (by omega) (Nat.le_refl _)
      have hx := cg_YL_lt (q := q) hw (show j < st nc by omega)
      rw [eg, ← j3] at hx
      refine ⟨x, ⟨j, j1, j2, j3⟩, ?_⟩
      unfold cm_tr cg_tb at *
      rw [Nat.testBit_mod_two_pow, decide_eq_true (show x / 2 < g by omega), Bool.true_and, hf (x / 2) (by omega)]
      exact tx
    | succ d ih =>
      intro m hm hno
      refine br_f (nI_ge (by omega) (by omega)) ?_
      refine yn_all hw how (by rw [eg]; exact h5) hgt (show m < 32 by omega) (fun z => br_f (by decide) (h0 ⟨cg_tb m, z, fun _ y => y.elim⟩)) (fun z => br_t rfl (nm_r (nI_1 m) (ih (m + 1) (by omega) (fun m' hm' => ?_))))
      by_cases e : m' = m
      · rw [e]
        exact z
      · exact hno m' (by omega)
  exact ⟨_, key (2 ^ g) 0 (by omega) (fun m' hm' => absurd hm' (Nat.not_lt_zero m'))⟩
end
/-! path states: base three -/
def yt_d (s a : Nat) : Nat := s / 3 ^ a % 3
def yp_s : List Nat → Nat
  | [] => 0
  | m :: ms => yp_s ms + (m % 2 + 1) * 3 ^ (m / 2)
theorem yt_add {s a b d : Nat} (hs : s < 243) (ha : a < 5) (hb : b < 5) (hd : d ≤ 2) (h0 : yt_d s a = 0) : s + d * 3 ^ a < 243 ∧ yt_d (s + d * 3 ^ a) b = if b = a then d else yt_d s b := by
  unfold yt_d at h0 ⊢
  have ca : a = 0 ∨ a = 1 ∨ a = 2 ∨ a = 3 ∨ a = 4 := by omega
  have cb : b = 0 ∨ b = 1 ∨ b = 2 ∨ b = 3 ∨ b = 4 := by omega
  rcases ca with e | e | e | e | e <;> subst e <;> rcases cb with e | e | e | e | e <;> subst e <;> simp only [Nat.pow_zero, Nat.reducePow, Nat.div_one, Nat.mul_one, if_true, if_false] at h0 ⊢ <;> constructor <;> (try split) <;> omega
theorem yt_add_g {s a d g : Nat} (hs : s < 3 ^ g) (ha : a < g) (hg : g ≤ 5) (hd : d ≤ 2) (h0 : yt_d s a = 0) : s + d * 3 ^ a < 3 ^ g := by
  unfold yt_d at h0
  have cg : g = 1 ∨ g = 2 ∨ g = 3 ∨ g = 4 ∨ g = 5 := by omega
  have ca : a = 0 ∨ a = 1 ∨ a = 2 ∨ a = 3 ∨ a = 4 := by omega
  rcases cg with e | e | e | e | e <;> subst e <;> rcases ca with e | e | e | e | e <;> subst e <;> simp only [Nat.pow_zero, Nat.reducePow, Nat.div_one, Nat.mul_one] at h0 hs ⊢ <;> omega
theorem yp_ok : ∀ {ms : List Nat}, cm_ok ms → yp_s ms < 243 ∧ (∀ a, a < 5 → (yt_d (yp_s ms) a = 0 ↔ cm_us ms a = false)) ∧ ∀ k, k / 2 < 5 → (yt_d (yp_s ms) (k / 2) = k % 2 + 1 ↔ k ∈ ms)
  | [], _ => by
    have z : ∀ a, yt_d 0 a = 0 := by
      intro a
      unfold yt_d
      rw [Nat.zero_div]
    refine ⟨by decide, fun a _ => ⟨fun _ => rfl, fun _ => z a⟩, fun k _ => ⟨fun h => ?_, fun h => by cases h⟩⟩
    have := z (k / 2)
    have h' : yt_d 0 (k / 2) = k % 2 + 1 := h
    omega
  | m :: ms, h => by
    obtain ⟨h1, h2, h3⟩ := h
    obtain ⟨i1, i2, i3⟩ := yp_ok h3
    have z0 := (i2 (m / 2) h1).mpr h2
    have add : ∀ b, b < 5 → yp_s (m :: ms) < 243 ∧ yt_d (yp_s (m :: ms)) b = if b = m / 2 then m % 2 + 1 else yt_d (yp_s ms) b := fun b hb => yt_add i1 h1 hb (by omega) z0
    refine ⟨(add 0 (by omega)).1, fun a ha => ?_, fun k hk => ?_⟩
    · rw [(add a ha).2, cm_us_cons]
      by_cases e : a = m / 2
      · rw [if_pos e, e]
        simp
      · rw [if_neg e, i2 a ha]
        have : (m / 2 == a) = false := by
          rw [beq_eq_false_iff_ne]
          omega
        rw [this, Bool.false_or]
    · rw [(add (k / 2) hk).2, List.mem_cons]
      by_cases e : k / 2 = m / 2
      · rw [if_pos e]
        constructor
        · intro z
          exact Or.inl (by omega)
        · intro z
          rcases z with z | z
          · rw [z]
          · have : cm_us ms (m / 2) = true := (cm_us_iff ms (m / 2)).mpr ⟨k, z, e⟩
            rw [h2] at this
            exact absurd this (by decide)
      · rw [if_neg e, i3 k hk]
        constructor
        · intro z
          exact Or.inr z
        · intro z
          rcases z with z | z
          · exact absurd (by rw [z]) e
          · exact z
theorem yp_lt {g : Nat} (hg : g ≤ 5) : ∀ {ms : List Nat}, cm_ok ms → (∀ k, k ∈ ms → k / 2 < g) → yp_s ms < 3 ^ g
  | [], _, _ => Nat.pow_pos (by omega)
  | m :: ms, h, hk => by
    obtain ⟨h1, h2, h3⟩ := h
    have ih := yp_lt hg h3 (fun k hh => hk k (List.mem_cons_of_mem m hh))
    exact yt_add_g ih (hk m List.mem_cons_self) hg (by omega) (((yp_ok h3).2.1 (m / 2) h1).mpr h2)
theorem yp_neg {ms : List Nat} {m : Nat} (h : cm_ok ms) (hm : m / 2 < 5) : yt_d (yp_s ms) (m / 2) = 2 - m % 2 ↔ cm_neg m ∈ ms := by
  have e1 := cm_neg_div m
  have e2 := cm_neg_mod m
  have := (yp_ok h).2.2 (cm_neg m) (by omega)
  rw [e1, e2] at this
  rw [← this]
  omega
