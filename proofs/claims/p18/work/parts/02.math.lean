/-! the mathematics of both provers: literals are 2 * atom + sign, H q m says that the ground clause q holds the literal m -/
def cq_tr (f : Nat → Bool) (m : Nat) : Prop := f (m / 2) = decide (m % 2 = 0)
def cq_neg (m : Nat) : Nat := if m % 2 = 0 then m + 1 else m - 1
def cq_sat (H : Nat → Nat → Prop) (R G : Nat → Prop) : Prop :=
  ∃ f : Nat → Bool, (∀ q, R q → ∃ m, H q m ∧ cq_tr f m) ∧ (∀ m, G m → cq_tr f m)
def cq_add (G : Nat → Prop) (m : Nat) : Nat → Prop := fun k => G k ∨ k = m
def cq_del (R : Nat → Prop) (q : Nat) : Nat → Prop := fun k => R k ∧ k ≠ q
theorem cq_neg_div (m : Nat) : cq_neg m / 2 = m / 2 := by
  unfold cq_neg; split <;> omega
theorem cq_neg_mod (m : Nat) : cq_neg m % 2 = 1 - m % 2 := by
  unfold cq_neg; split <;> omega
theorem cq_neg_of {k m : Nat} (e : k / 2 = m / 2) (n : k ≠ m) : k = cq_neg m := by
  unfold cq_neg; split <;> omega
theorem cq_neg_neg (m : Nat) : cq_neg (cq_neg m) = m := by
  have h1 := cq_neg_div m
  have h2 := cq_neg_mod m
  have h3 := cq_neg_div (cq_neg m)
  have h4 := cq_neg_mod (cq_neg m)
  omega
theorem cq_neg_ne (m : Nat) : cq_neg m ≠ m := by
  unfold cq_neg; split <;> omega
theorem cq_sat_mono {H : Nat → Nat → Prop} {R R' G G' : Nat → Prop} (hR : ∀ q, R' q → R q) (hG : ∀ m, G' m → G m)
    (h : cq_sat H R G) : cq_sat H R' G' := by
  obtain ⟨f, h1, h2⟩ := h
  exact ⟨f, fun q hq => h1 q (hR q hq), fun m hm => h2 m (hG m hm)⟩
/-- turning K true breaks something: its complement stands in a needed ground clause -/
theorem cq_partner {H : Nat → Nat → Prop} {R R' G : Nat → Prop} {m : Nat} (hs : cq_sat H R G)
    (hu : ¬ cq_sat H R' (cq_add G m)) (hR : ∀ q, R' q → R q) (hn : ¬ G (cq_neg m)) : ∃ q, R' q ∧ H q (cq_neg m) := by
  obtain ⟨f, h1, h2⟩ := hs
  apply Classical.byContradiction
  intro hne
  apply hu
  refine ⟨fun a => if a = m / 2 then decide (m % 2 = 0) else f a, ?_, ?_⟩
  · intro q hq
    obtain ⟨k, hk, tk⟩ := h1 q (hR q hq)
    by_cases e : k / 2 = m / 2
    · by_cases e2 : k = m
      · refine ⟨k, hk, ?_⟩
        unfold cq_tr
        dsimp only
        rw [if_pos e, e2]
      · have e3 := cq_neg_of e e2
        exact absurd ⟨q, hq, e3 ▸ hk⟩ hne
    · refine ⟨k, hk, ?_⟩
      unfold cq_tr at tk ⊢
      dsimp only
      rw [if_neg e]
      exact tk
  · intro k hk
    by_cases e : k / 2 = m / 2
    · by_cases e2 : k = m
      · unfold cq_tr
        dsimp only
        rw [if_pos e, e2]
      · have e3 := cq_neg_of e e2
        rcases hk with hk | hk
        · exact absurd (e3 ▸ hk) hn
        · exact absurd hk e2
    · rcases hk with hk | hk
      · have t := h2 k hk
        unfold cq_tr at t ⊢
        dsimp only
        rw [if_neg e]
        exact t
      · exact absurd (by rw [hk]) e
theorem cq_thin (H : Nat → Nat → Prop) (R G : Nat → Prop) (hu : ¬ cq_sat H R G) : ∀ n : Nat, ∃ R' : Nat → Prop,
    (∀ q, R' q → R q) ∧ ¬ cq_sat H R' G ∧ ∀ q, q < n → R' q → cq_sat H (cq_del R' q) G := by
  intro n
  induction n with
  | zero => exact ⟨R, fun _ h => h, hu, fun q h => absurd h (Nat.not_lt_zero q)⟩
  | succ n ih =>
    obtain ⟨R', a, b, c⟩ := ih
    by_cases h : cq_sat H (cq_del R' n) G
    · refine ⟨R', a, b, fun q hq r => ?_⟩
      by_cases e : q = n
      · rw [e]; exact h
      · exact c q (by omega) r
    · refine ⟨cq_del R' n, fun q r => a q r.1, h, fun q hq r => ?_⟩
      have hne := r.2
      exact cq_sat_mono (fun k hk => ⟨hk.1.1, hk.2⟩) (fun _ h => h) (c q (by omega) r.1)
theorem cq_rest {H : Nat → Nat → Prop} {R G : Nat → Prop} {q K : Nat} (hu : ¬ cq_sat H R G) (hK : H q K) :
    ¬ cq_sat H (cq_del R q) (cq_add G K) := by
  intro hs
  obtain ⟨f, h1, h2⟩ := hs
  apply hu
  refine ⟨f, fun k hk => ?_, fun m hm => h2 m (Or.inl hm)⟩
  by_cases e : k = q
  · exact ⟨K, by rw [e]; exact hK, h2 K (Or.inr rfl)⟩
  · exact h1 k ⟨hk, e⟩
/-- what is known of a goal K: the rest R and the path G hold somewhere, but nowhere with K -/
def cq_goal (H : Nat → Nat → Prop) (R G : Nat → Prop) (K : Nat) : Prop := cq_sat H R G ∧ ¬ cq_sat H R (cq_add G K)
theorem cq_goal_new {H : Nat → Nat → Prop} {R G : Nat → Prop} {K : Nat} (h : cq_goal H R G K) : ¬ G K := by
  intro hG
  exact h.2 (cq_sat_mono (fun _ h => h) (fun m hm => hm.elim (fun h => h) (fun e => e ▸ hG)) h.1)
theorem cq_goal_next {H : Nat → Nat → Prop} {R G : Nat → Prop} {q K : Nat} (hu : ¬ cq_sat H R G)
    (hm : cq_sat H (cq_del R q) G) (hK : H q K) : cq_goal H (cq_del R q) G K := ⟨hm, cq_rest hu hK⟩
theorem cq_goal_congr {H : Nat → Nat → Prop} {R R' G G' : Nat → Prop} {K : Nat} (hR : ∀ q, R q ↔ R' q) (hG : ∀ q, G q ↔ G' q)
    (h : cq_goal H R G K) : cq_goal H R' G' K := by
  refine ⟨cq_sat_mono (fun q hq => (hR q).mpr hq) (fun q hq => (hG q).mpr hq) h.1, fun hs => h.2 ?_⟩
  exact cq_sat_mono (fun q hq => (hR q).mp hq) (fun q hq => hq.elim (fun z => Or.inl ((hG q).mp z)) Or.inr) hs
/-- the paths: literals of distinct atoms, five atoms at most -/
def cq_us (ms : List Nat) (a : Nat) : Bool := ms.any (fun k => k / 2 == a)
def cq_cnt (ms : List Nat) : Nat := (cq_us ms 0).toNat + (cq_us ms 1).toNat + (cq_us ms 2).toNat + (cq_us ms 3).toNat + (cq_us ms 4).toNat
def cq_ok : List Nat → Prop
  | [] => True
  | m :: ms => m / 2 < 5 ∧ cq_us ms (m / 2) = false ∧ cq_ok ms
theorem cq_us_cons (m : Nat) (ms : List Nat) (a : Nat) : cq_us (m :: ms) a = ((m / 2 == a) || cq_us ms a) := rfl
theorem cq_us_iff (ms : List Nat) (a : Nat) : cq_us ms a = true ↔ ∃ k, k ∈ ms ∧ k / 2 = a := by
  unfold cq_us
  rw [List.any_eq_true]
  constructor
  · intro ⟨k, h1, h2⟩
    exact ⟨k, h1, by simpa using h2⟩
  · intro ⟨k, h1, h2⟩
    exact ⟨k, h1, by simpa using h2⟩
theorem cq_us_false {ms : List Nat} {m : Nat} (h1 : m ∉ ms) (h2 : cq_neg m ∉ ms) : cq_us ms (m / 2) = false := by
  cases h : cq_us ms (m / 2) with
  | false => rfl
  | true =>
    obtain ⟨k, hk, e⟩ := (cq_us_iff ms (m / 2)).mp h
    by_cases e2 : k = m
    · exact absurd (e2 ▸ hk) h1
    · exact absurd (cq_neg_of e e2 ▸ hk) h2
theorem cq_cnt_cons {m : Nat} {ms : List Nat} (h : m / 2 < 5) (hn : cq_us ms (m / 2) = false) : cq_cnt (m :: ms) = cq_cnt ms + 1 := by
  unfold cq_cnt
  simp only [cq_us_cons]
  generalize m / 2 = a at h hn ⊢
  have : a = 0 ∨ a = 1 ∨ a = 2 ∨ a = 3 ∨ a = 4 := by omega
  rcases this with e | e | e | e | e <;> subst e <;> rw [hn] <;> simp <;> omega
theorem cq_cnt_ok : ∀ {ms : List Nat}, cq_ok ms → cq_cnt ms = ms.length
  | [], _ => rfl
  | m :: ms, h => by rw [cq_cnt_cons h.1 h.2.1, cq_cnt_ok h.2.2, List.length_cons]
theorem cq_cnt_le (ms : List Nat) : cq_cnt ms ≤ 5 := by
  unfold cq_cnt
  have h0 := Bool.toNat_le (cq_us ms 0)
  have h1 := Bool.toNat_le (cq_us ms 1)
  have h2 := Bool.toNat_le (cq_us ms 2)
  have h3 := Bool.toNat_le (cq_us ms 3)
  have h4 := Bool.toNat_le (cq_us ms 4)
  omega
/-- a goal that can't be reduced has at most four literals above it -/
theorem cq_len4 {ms : List Nat} {m : Nat} (h : cq_ok ms) (hm : m / 2 < 5) (h1 : m ∉ ms) (h2 : cq_neg m ∉ ms) : ms.length ≤ 4 ∧ cq_ok (m :: ms) := by
  have hu := cq_us_false h1 h2
  have e := cq_cnt_cons hm hu
  have l := cq_cnt_le (m :: ms)
  rw [cq_cnt_ok h] at e
  exact ⟨by omega, hm, hu, h⟩
/-- the steps that a goal below d literals may cost -/
def cq_w (d : Nat) : Nat := 2 ^ (6 - d) - 1
theorem cq_w_pos {d : Nat} (h : d ≤ 5) : 1 ≤ cq_w d := by
  have : d = 0 ∨ d = 1 ∨ d = 2 ∨ d = 3 ∨ d = 4 ∨ d = 5 := by omega
  rcases this with e | e | e | e | e | e <;> subst e <;> decide
theorem cq_w_succ {d : Nat} (h : d ≤ 4) : cq_w d = 2 * cq_w (d + 1) + 1 := by
  have : d = 0 ∨ d = 1 ∨ d = 2 ∨ d = 3 ∨ d = 4 := by omega
  rcases this with e | e | e | e | e <;> subst e <;> decide
