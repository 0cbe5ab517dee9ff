/-! the law's own functions -/
theorem lf_pw {post : Int32 → Prop} {u e : Nat} (he : e < 2 ^ 30) (h : post (nI (u ^ e))) : wpL_pw post () (nI u) (nI e) := by
  have key : ∀ d k : Nat, k + d = e → wL_pw_4 post (nI u) (nI e) (d + 1) (nI (u ^ k)) (nI k) := by
    intro d
    induction d with
    | zero =>
      intro k hk
      have : k = e := by omega
      subst this
      exact br_t (nI_le (Nat.le_refl k) (by omega)) h
    | succ d ih =>
      intro k hk
      have em : nI (u ^ k) * nI u = nI (u ^ (k + 1)) := by rw [pk_mul, Nat.pow_succ]
      exact br_f (nI_ge (show k < e by omega) (by omega)) (nm_r em (nm_r (nI_1 k) (ih (k + 1) (by omega))))
  exact ⟨e + 1, key e 0 (by omega)⟩
def lf_ok (pr ar : Nat → Int32) (M PM AR : Nat) : Prop :=
  (PM < 16 ∧ ∀ q, q < 4 → PM.testBit q = cg_op pr q M) ∧ (AR < 256 ∧ ∀ q, q < 4 → AR / 4 ^ q % 4 = if cg_op pr q M = true then (ar q).toNatClampNeg else 0)
theorem lf_dig {k q : Nat} : k / 4 ^ q % 4 < 4 := Nat.mod_lt _ (by decide)
theorem lf_off {post : Int32 → Prop} {pr ar : Nat → Int32} {M PM AR : Nat} {two : Bool} (ho : lf_ok pr ar M PM AR) {p : Nat} (hp : p < 4) (h : post (nI (cg_base pr ar M two p))) :
    wpL_offset post () (nI p) (nI PM) (nI AR) (nI (cg_sz two)) := by
  obtain ⟨⟨p1, p2⟩, r1, r2⟩ := ho
  have key : ∀ d q : Nat, q + d = p → wL_offset_6 post (nI p) (nI PM) (nI AR) (nI (cg_sz two)) (d + 1) (nI (cg_base pr ar M two q)) (nI q) := by
    intro d
    induction d with
    | zero =>
      intro q hq
      have : q = p := by omega
      subst this
      exact br_t (nI_le (Nat.le_refl q) (by omega)) h
    | succ d ih =>
      intro q hq
      have ih2 := ih (q + 1) (by omega)
      rw [cg_base] at ih2
      unfold cg_at at ih2
      refine br_f (nI_ge (show q < p by omega) (by omega)) ?_
      rw [le_pm_r PM p1 q (by omega), p2 q (by omega), le_ar_r q (by omega) AR r1, r2 q (by omega)]
      by_cases o : cg_op pr q M = true
      · rw [if_pos o] at ih2
        rw [if_pos o, if_pos o]
        have l4 : (ar q).toNatClampNeg < 4 := by
          have := lf_dig (k := AR) (q := q)
          rw [r2 q (by omega), if_pos o] at this
          exact this
        exact br_f (by decide) (lf_pw (by omega) (nm_r (nI_add _ _) (nm_r (nI_1 q) ih2)))
      · rw [if_neg o, Nat.add_zero] at ih2
        rw [if_neg o, if_neg o]
        exact br_t rfl (nm_r (nI_1 q) ih2)
  exact ⟨p + 1, key p 0 (by omega)⟩
theorem lf_cb3 (o0 o1 : Bool) : nI (cg_cb o0 o1) = 3 ↔ (o0 && o1) = true := by
  cases o0 <;> cases o1 <;> decide
theorem lf_ti {post : Int32 → Prop} {o0 o1 : Bool} {t : Int32} {n : Nat} (hn : n < 4) (e : t = nI n) {x y : Nat} (hxy : ¬ (o0 && o1) = true → x = 0 ∧ y = 0) (h : post (nI (if (o0 && o1) = true then cg_vl t x y else 0))) :
    wpL_ti post () t (nI x) (nI y) (nI (cg_cb o0 o1)) := by
  unfold cg_vl at h
  refine br_c (fun e2 => ?_) (fun e2 => br_c (fun e3 => ?_) (fun e3 => ek_if (lf_cb3 o0 o1) (fun z => ?_) (fun z => ?_)))
  · by_cases z : (o0 && o1) = true
    · rw [if_pos z, if_pos e2] at h
      exact h
    · rw [if_neg z] at h
      rw [(hxy z).1]
      exact h
  · by_cases z : (o0 && o1) = true
    · rw [if_pos z, if_neg e2, if_pos e3] at h
      exact h
    · rw [if_neg z] at h
      rw [(hxy z).2]
      exact h
  · rw [if_pos z, if_neg e2, if_neg e3, e, nI_clamp (by omega)] at h
    rw [e]
    exact h
  · rw [if_neg z] at h
    exact h
theorem lf_bit : ∀ m, m < 32 → ∀ a, a < 5 → ((nI m >>> (nI a &&& 31)) &&& 1) = (if m.testBit a = true then 1 else 0) := by decide +kernel
theorem lf_105 {post : Int32 → Prop} {pr ar : Nat → Int32} {M PM AR : Nat} {two : Bool} (ho : lf_ok pr ar M PM AR) {p t s tup : Nat} (hp : p < 4) (ht : t < 32) (hs : s < 2) (ha : cg_base pr ar M two p + tup < 5)
    (h1 : cq_tr (cg_tb t) (2 * (cg_base pr ar M two p + tup) + s) → post 1) (h0 : ¬ cq_tr (cg_tb t) (2 * (cg_base pr ar M two p + tup) + s) → post 0) :
    wL_holds_105 post (nI t) (nI (cg_sz two)) (nI PM) (nI AR) (nI s) (nI p) (nI tup) := by
  refine lf_off ho hp (nm_r (nI_add _ _) (nm_r (lf_bit t ht _ ha) ?_))
  unfold cq_tr cg_tb at h1 h0
  rw [show (2 * (cg_base pr ar M two p + tup) + s) / 2 = cg_base pr ar M two p + tup by omega, show (2 * (cg_base pr ar M two p + tup) + s) % 2 = s by omega] at h1 h0
  have cs : s = 0 ∨ s = 1 := by omega
  rcases cs with z | z
  · subst z
    refine br_t rfl ?_
    by_cases b : t.testBit (cg_base pr ar M two p + tup) = true
    · rw [if_pos b]
      exact br_t rfl (h1 (by rw [b]; rfl))
    · rw [if_neg b]
      exact br_f (by decide) (h0 (fun y => b (by rw [y]; rfl)))
  · subst z
    refine br_f (by decide) ?_
    by_cases b : t.testBit (cg_base pr ar M two p + tup) = true
    · rw [if_pos b]
      exact br_f (by decide) (h0 (fun y => by rw [b] at y; exact absurd y (by decide)))
    · rw [if_neg b]
      exact br_t rfl (h1 (by rw [Bool.not_eq_true] at b; rw [b]; rfl))
theorem lf_holds {post : Int32 → Prop} {nc nl : Nat} {st : Nat → Nat} {sg pr a0 a1 ar : Nat → Int32} (hw : cd_wf nc nl st sg pr a0 a1 ar) {PM AR : Nat} (ho : lf_ok pr ar (st nc) PM AR) (h5 : cg_base pr ar (st nc) (cg_oc a0 a1 0 (st nc) && cg_oc a0 a1 1 (st nc)) 4 ≤ 5) {j : Nat} (hj : j < st nc)
    {t x y : Nat} (ht : t < 32) (hx : x < 2) (hy : y < 2) (hxy : ¬ (cg_oc a0 a1 0 (st nc) && cg_oc a0 a1 1 (st nc)) = true → x = 0 ∧ y = 0)
    (h1 : cq_tr (cg_tb t) (cg_gl sg pr a0 a1 ar (st nc) (cg_oc a0 a1 0 (st nc) && cg_oc a0 a1 1 (st nc)) j x y) → post 1) (h0 : ¬ cq_tr (cg_tb t) (cg_gl sg pr a0 a1 ar (st nc) (cg_oc a0 a1 0 (st nc) && cg_oc a0 a1 1 (st nc)) j x y) → post 0) :
    wpL_holds post () (nI (ll_code sg pr a0 a1 j)) (nI t) (nI x) (nI y) (nI (cg_sz (cg_oc a0 a1 0 (st nc) && cg_oc a0 a1 1 (st nc)))) (nI (cg_cb (cg_oc a0 a1 0 (st nc)) (cg_oc a0 a1 1 (st nc)))) (nI PM) (nI AR) := by
  have hjl : j < nl := Nat.lt_of_lt_of_le hj hw.2.2.2.2.1
  obtain ⟨_, _, l3, l4, l5⟩ := hw.2.2.2.2.2.2.1 j hjl
  obtain ⟨s1, _, p1, _, _, _, f0, f1, a2⟩ := cg_lit hw hj
  obtain ⟨d1, d2, d3, d4⟩ := ll_dec hw hj
  have hlt := cg_tup_lt (two := (cg_oc a0 a1 0 (st nc) && cg_oc a0 a1 1 (st nc))) hw hj hx hy
  have hb := cg_base_lt (pr := pr) (ar := ar) (M := st nc) (two := (cg_oc a0 a1 0 (st nc) && cg_oc a0 a1 1 (st nc))) p1
  refine ⟨by decide, nm_r d1 ⟨by decide, by decide, nm_r d2 ⟨by decide, by decide, nm_r d3 ⟨by decide, nm_r d4 ?_⟩⟩⟩⟩
  refine ll_ar l3 l4 (P := fun z => wL_holds_54 post (nI t) (nI x) (nI y) (nI (cg_sz (cg_oc a0 a1 0 (st nc) && cg_oc a0 a1 1 (st nc)))) (nI (cg_cb (cg_oc a0 a1 0 (st nc)) (cg_oc a0 a1 1 (st nc)))) (nI PM) (nI AR) (nI (sg j).toNatClampNeg) (nI (pr j).toNatClampNeg) (a0 j) (a1 j) z) ?_
  have fin : wL_holds_105 post (nI t) (nI (cg_sz (cg_oc a0 a1 0 (st nc) && cg_oc a0 a1 1 (st nc)))) (nI PM) (nI AR) (nI (sg j).toNatClampNeg) (nI (pr j).toNatClampNeg) (nI (cg_tup a0 a1 (cg_oc a0 a1 0 (st nc) && cg_oc a0 a1 1 (st nc)) j x y)) :=
    lf_105 ho p1 ht s1 (by omega) h1 h0
  have c : ck_ar (a0 j) (a1 j) = 0 ∨ ck_ar (a0 j) (a1 j) = 1 ∨ ck_ar (a0 j) (a1 j) = 2 := by omega
  have ez : ∀ {A B : Nat}, (if (cg_oc a0 a1 0 (st nc) && cg_oc a0 a1 1 (st nc)) = true then A else 0) = B → (if (cg_oc a0 a1 0 (st nc) && cg_oc a0 a1 1 (st nc)) = true then A else 0) = B := fun h => h
  rcases c with c | c | c
  · have et : cg_tup a0 a1 (cg_oc a0 a1 0 (st nc) && cg_oc a0 a1 1 (st nc)) j x y = 0 := by
      unfold cg_tup
      rw [c, if_pos rfl]
      split <;> rfl
    rw [et] at fin
    rw [c]
    exact br_t rfl fin
  · obtain ⟨n, hn, e⟩ := f0 (by omega)
    have et : cg_tup a0 a1 (cg_oc a0 a1 0 (st nc) && cg_oc a0 a1 1 (st nc)) j x y = if (cg_oc a0 a1 0 (st nc) && cg_oc a0 a1 1 (st nc)) = true then cg_vl (a0 j) x y else 0 := by
      unfold cg_tup
      rw [c, if_neg (show ¬ (1 : Nat) = 0 by decide), if_pos (show (1 : Nat) = 1 from rfl)]
    rw [et] at fin
    rw [c]
    exact br_f (by decide) (br_t rfl (lf_ti hn e hxy fin))
  · obtain ⟨n, hn, e⟩ := f0 (by omega)
    obtain ⟨n2, hn2, e2⟩ := f1 (by omega)
    have et : cg_tup a0 a1 (cg_oc a0 a1 0 (st nc) && cg_oc a0 a1 1 (st nc)) j x y = (if (cg_oc a0 a1 0 (st nc) && cg_oc a0 a1 1 (st nc)) = true then cg_vl (a0 j) x y else 0) * cg_sz (cg_oc a0 a1 0 (st nc) && cg_oc a0 a1 1 (st nc)) + (if (cg_oc a0 a1 0 (st nc) && cg_oc a0 a1 1 (st nc)) = true then cg_vl (a1 j) x y else 0) := by
      unfold cg_tup
      rw [c, if_neg (show ¬ (2 : Nat) = 0 by decide), if_neg (show ¬ (2 : Nat) = 1 by decide)]
      by_cases z : (cg_oc a0 a1 0 (st nc) && cg_oc a0 a1 1 (st nc)) = true
      · rw [if_pos z, if_pos z, if_pos z]
        unfold cg_sz
        rw [if_pos z]
        omega
      · rw [if_neg z, if_neg z, if_neg z]
        omega
    rw [et] at fin
    rw [c]
    refine br_f (by decide) (br_f (by decide) (lf_ti hn e hxy (lf_ti hn2 e2 hxy ?_)))
    rw [pk_mul, nI_add]
    exact fin
theorem lf_cell {post : Int32 → Prop} {L : Nat} {xs : Nat → Int32} {i : Nat} (hL : L ≤ 260) (hi : i < 1000) (h : ∀ r, post r) : wpL_cell post L xs () (nI i) := by
  refine pk_le L i (fun e => h _) (fun e => ⟨vp_in_nI e (by omega), h _⟩) rfl rfl (by omega) (by omega)
