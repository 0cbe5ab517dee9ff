/-! the mathematics of both provers: literals are 2 * atom + sign, H q m says that the ground clause q holds the literal m -/
def cm_tr (f : Nat → Bool) (m : Nat) : Prop := f (m / 2) = decide (m % 2 = 0)
def cm_neg (m : Nat) : Nat := if m % 2 = 0 then m + 1 else m - 1
def cm_sat (H : Nat → Nat → Prop) (R G : Nat → Prop) : Prop :=
  ∃ f : Nat → Bool, (∀ q, R q → ∃ m, H q m ∧ cm_tr f m) ∧ (∀ m, G m → cm_tr f m)
def cm_add (G : Nat → Prop) (m : Nat) : Nat → Prop := fun k => G k ∨ k = m
def cm_del (R : Nat → Prop) (q : Nat) : Nat → Prop := fun k => R k ∧ k ≠ q
theorem cm_neg_div (m : Nat) : cm_neg m / 2 = m / 2 := by
  unfold cm_neg; split <;> omega
theorem cm_neg_mod (m : Nat) : cm_neg m % 2 = 1 - m % 2 := by
  unfold cm_neg; split <;> omega
theorem cm_neg_of {k m : Nat} (e : k / 2 = m / 2) (n : k ≠ m) : k = cm_neg m := by
  unfold cm_neg; split <;> omega
theorem cm_neg_neg (m : Nat) : cm_neg (cm_neg m) = m := by
  have h1 := cm_neg_div m
  have h2 := cm_neg_mod m
  have h3 := cm_neg_div (cm_neg m)
  have h4 := cm_neg_mod (cm_neg m)
  omega
theorem cm_neg_ne (m : Nat) : cm_neg m ≠ m := by
  unfold cm_neg; split <;> omega
theorem cm_sat_mono {H : Nat → Nat → Prop} {R R' G G' : Nat → Prop} (hR : ∀ q, R' q → R q) (hG : ∀ m, G' m → G m)
    (h : cm_sat H R G) : cm_sat H R' G' := by
  obtain ⟨f, h1, h2⟩ := h
  exact ⟨f, fun q hq => h1 q (hR q hq), fun m hm => h2 m (hG m hm)⟩
/-- turning K true breaks something: its complement stands in a needed ground clause -/
theorem cm_partner {H : Nat → Nat → Prop} {R R' G : Nat → Prop} {m : Nat} (hs : cm_sat H R G)
    (hu : ¬ cm_sat H R' (cm_add G m)) (hR : ∀ q, R' q → R q) (hn : ¬ G (cm_neg m)) : ∃ q, R' q ∧ H q (cm_neg m) := by
  obtain ⟨f, h1, h2⟩ := hs
  apply Classical.byContradiction
  intro hne
  apply hu
  refine ⟨fun a => if a = m / 2 then decide (m % 2 = 0) else f a, ?_, ?_⟩
  · intro q hq
    obtain ⟨k, hk, tk⟩ := h1 q (hR q hq)
    by_cases e : k / 2 = m / 2
    · by_cases e2 : k = m
      · refine ⟨k, hk, ?_⟩
        unfold cm_tr
        dsimp only
        rw [if_pos e, e2]
      · have e3 := cm_neg_of e e2
        exact absurd ⟨q, hq, e3 ▸ hk⟩ hne
    · refine ⟨k, hk, ?_⟩
      unfold cm_tr at tk ⊢
      dsimp only
      rw [if_neg e]
      exact tk
  · intro k hk
    by_cases e : k / 2 = m / 2
    · by_cases e2 : k = m
      · unfold cm_tr
        dsimp only
        rw [if_pos e, e2]
      · have e3 := cm_neg_of e e2
        rcases hk with hk | hk
        · exact absurd (e3 ▸ hk) hn
        · exact absurd hk e2
    · rcases hk with hk | hk
      · have t := h2 k hk
        unfold cm_tr at t ⊢
        dsimp only
        rw [if_neg e]
        exact t
      · exact absurd (by rw [hk]) e
theorem cm_thin (H : Nat → Nat → Prop) (R G : Nat → Prop) (hu : ¬ cm_sat H R G) : ∀ n : Nat, ∃ R' : Nat → Prop,
    (∀ q, R' q → R q) ∧ ¬ cm_sat H R' G ∧ ∀ q, q < n → R' q → cm_sat H (cm_del R' q) G := by
  intro n
  induction n with
  | zero => exact ⟨R, fun _ h => h, hu, fun q h => absurd h (Nat.not_lt_zero q)⟩
  | succ n ih =>
    obtain ⟨R', a, b, c⟩ := ih
    by_cases h : cm_sat H (cm_del R' n) G
    · refine ⟨R', a, b, fun q hq r => ?_⟩
      by_cases e : q = n
      · rw [e]; exact h
      · exact c q (by omega) r
    · refine ⟨cm_del R' n, fun q r => a q r.1, h, fun q hq r => ?_⟩
      have hne := r.2
      exact cm_sat_mono (fun k hk => ⟨hk.1.1, hk.2⟩) (fun _ h => h) (c q (by omega) r.1)
theorem cm_rest {H : Nat → Nat → Prop} {R G : Nat → Prop} {q K : Nat} (hu : ¬ cm_sat H R G) (hK : H q K) :
    ¬ cm_sat H (cm_del R q) (cm_add G K) := by
  intro hs
  obtain ⟨f, h1, h2⟩ := hs
  apply hu
  refine ⟨f, fun k hk => ?_, fun m hm => h2 m (Or.inl hm)⟩
  by_cases e : k = q
  · exact ⟨K, by rw [e]; exact hK, h2 K (Or.inr rfl)⟩
  · exact h1 k ⟨hk, e⟩
/-- what is known of a goal K: the rest R and the path G hold somewhere, but nowhere with K -/
def cm_goal (H : Nat → Nat → Prop) (R G : Nat → Prop) (K : Nat) : Prop := cm_sat H R G ∧ ¬ cm_sat H R (cm_add G K)
theorem cm_goal_new {H : Nat → Nat → Prop} {R G : Nat → Prop} {K : Nat} (h : cm_goal H R G K) : ¬ G K := by
  intro hG
  exact h.2 (cm_sat_mono (fun _ h => h) (fun m hm => hm.elim (fun h => h) (fun e => e ▸ hG)) h.1)
theorem cm_goal_next {H : Nat → Nat → Prop} {R G : Nat → Prop} {q K : Nat} (hu : ¬ cm_sat H R G)
    (hm : cm_sat H (cm_del R q) G) (hK : H q K) : cm_goal H (cm_del R q) G K := ⟨hm, cm_rest hu hK⟩
theorem cm_goal_congr {H : Nat → Nat → Prop} {R R' G G' : Nat → Prop} {K : Nat} (hR : ∀ q, R q ↔ R' q) (hG : ∀ q, G q ↔ G' q)
    (h : cm_goal H R G K) : cm_goal H R' G' K := by
  refine ⟨cm_sat_mono (fun q hq => (hR q).mpr hq) (fun q hq => (hG q).mpr hq) h.1, fun hs => h.2 ?_⟩
  exact cm_sat_mono (fun q hq => (hR q).mp hq) (fun q hq => hq.elim (fun z => Or.inl ((hG q).mp z)) Or.inr) hs
/-- the paths: literals of distinct atoms, five atoms at most -/
def cm_us (ms : List Nat) (a : Nat) : Bool := ms.any (fun k => k / 2 == a)
def cm_cnt (ms : List Nat) : Nat := (cm_us ms 0).toNat + (cm_us ms 1).toNat + (cm_us ms 2).toNat + (cm_us ms 3).toNat + (cm_us ms 4).toNat
def cm_ok : List Nat → Prop
  | [] => True
  | m :: ms => m / 2 < 5 ∧ cm_us ms (m / 2) = false ∧ cm_ok ms
theorem cm_us_cons (m : Nat) (ms : List Nat) (a : Nat) : cm_us (m :: ms) a = ((m / 2 == a) || cm_us ms a) := rfl
theorem cm_us_iff (ms : List Nat) (a : Nat) : cm_us ms a = true ↔ ∃ k, k ∈ ms ∧ k / 2 = a := by
  unfold cm_us
  rw [List.any_eq_true]
  constructor
  · intro ⟨k, h1, h2⟩
    exact ⟨k, h1, by simpa using h2⟩
  · intro ⟨k, h1, h2⟩
    exact ⟨k, h1, by simpa using h2⟩
theorem cm_us_false {ms : List Nat} {m : Nat} (h1 : m ∉ ms) (h2 : cm_neg m ∉ ms) : cm_us ms (m / 2) = false := by
  cases h : cm_us ms (m / 2) with
  | false => rfl
  | true =>
    obtain ⟨k, hk, e⟩ := (cm_us_iff ms (m / 2)).mp h
    by_cases e2 : k = m
    · exact absurd (e2 ▸ hk) h1
    · exact absurd (cm_neg_of e e2 ▸ hk) h2
theorem cm_cnt_cons {m : Nat} {ms : List Nat} (h : m / 2 < 5) (hn : cm_us ms (m / 2) = false) : cm_cnt (m :: ms) = cm_cnt ms + 1 := by
  unfold cm_cnt
  simp only [cm_us_cons]
  generalize m / 2 = a at h hn ⊢
  have : a = 0 ∨ a = 1 ∨ a = 2 ∨ a = 3 ∨ a = 4 := by omega
  rcases this with e | e | e | e | e <;> subst e <;> rw [hn] <;> simp <;> omega
theorem cm_cnt_ok : ∀ {ms : List Nat}, cm_ok ms → cm_cnt ms = ms.length
  | [], _ => rfl
  | m :: ms, h => by rw [cm_cnt_cons h.1 h.2.1, cm_cnt_ok h.2.2, List.length_cons]
theorem cm_cnt_le (ms : List Nat) : cm_cnt ms ≤ 5 := by
  unfold cm_cnt
  have h0 := Bool.toNat_le (cm_us ms 0)
  have h1 := Bool.toNat_le (cm_us ms 1)
  have h2 := Bool.toNat_le (cm_us ms 2)
  have h3 := Bool.toNat_le (cm_us ms 3)
  have h4 := Bool.toNat_le (cm_us ms 4)
  omega
/-- a goal that can't be reduced has at most four literals above it -/
theorem cm_len4 {ms : List Nat} {m : Nat} (h : cm_ok ms) (hm : m / 2 < 5) (h1 : m ∉ ms) (h2 : cm_neg m ∉ ms) : ms.length ≤ 4 ∧ cm_ok (m :: ms) := by
  have hu := cm_us_false h1 h2
  have e := cm_cnt_cons hm hu
  have l := cm_cnt_le (m :: ms)
  rw [cm_cnt_ok h] at e
  exact ⟨by omega, hm, hu, h⟩
/-- the steps that a goal below d literals may cost -/
def cm_w (d : Nat) : Nat := 2 ^ (6 - d) - 1
theorem cm_w_pos {d : Nat} (h : d ≤ 5) : 1 ≤ cm_w d := by
  have : d = 0 ∨ d = 1 ∨ d = 2 ∨ d = 3 ∨ d = 4 ∨ d = 5 := by omega
  rcases this with e | e | e | e | e | e <;> subst e <;> decide
theorem cm_w_succ {d : Nat} (h : d ≤ 4) : cm_w d = 2 * cm_w (d + 1) + 1 := by
  have : d = 0 ∨ d = 1 ∨ d = 2 ∨ d = 3 ∨ d = 4 := by omega
  rcases this with e | e | e | e | e <;> subst e <;> decide
