section
theorem pk_us {f : Nat → Int32} {k : Nat} {x : Int32} : upd f k x k = x := if_pos rfl
theorem pk_un {f : Nat → Int32} {k j : Nat} {x : Int32} (h : j ≠ k) : upd f k x j = f j := if_neg h
theorem pk_sub {a b : Nat} (h : b ≤ a) : nI a - nI b = nI (a - b) := by
  obtain ⟨c, rfl⟩ : ∃ c, a = c + b := ⟨a - b, by omega⟩
  rw [← nI_add, Int32.add_sub_cancel, Nat.add_sub_cancel]
theorem pk_m1 (n : Nat) : nI (n + 1) + (-1) = nI n := by
  rw [← nI_1, Int32.add_assoc, show (1 : Int32) + (-1) = 0 from rfl, Int32.add_zero]
theorem pk_mul (a b : Nat) : nI a * nI b = nI (a * b) := (Int32.ofNat_mul a b).symm
theorem pk_div {a d : Nat} (ha : a < 2 ^ 31) (h0 : 0 < d) (hd : d < 2 ^ 31) : nI a / nI d = nI (a / d) := by
  apply Int32.toInt_inj.mp
  rw [lg_idiv_nonneg (by rw [nI_toInt ha]; omega) (by rw [nI_toInt hd]; omega), nI_toInt ha, nI_toInt hd, nI_toInt (Nat.lt_of_le_of_lt (Nat.div_le_self a d) ha)]
  first | rfl | exact (Int.natCast_ediv _ _).symm
theorem pk_rem {a d : Nat} (ha : a < 2 ^ 31) (h0 : 0 < d) (hd : d < 2 ^ 31) : nI a - nI a / nI d * nI d = nI (a % d) := by
  rw [pk_div ha h0 hd, pk_mul, pk_sub (Nat.div_mul_le_self a d)]
  exact congrArg nI (by have := Nat.div_add_mod' a d; omega)
theorem pk_ix (x : Int32) {n : Nat} (hn : n < 2 ^ 31) : x < 0 ∨ nI n ≤ x ∨ ∃ j : Nat, j < n ∧ x = nI j := by
  by_cases h : x < 0
  · exact Or.inl h
  · obtain ⟨j, hj, rfl⟩ := nI_of h
    by_cases h2 : j < n
    · exact Or.inr (Or.inr ⟨j, h2, rfl⟩)
    · exact Or.inr (Or.inl (nI_le (by omega) hj))
theorem pk_le {x y : Int32} {A B : Prop} (a b : Nat) (f : a ≤ b → A) (g : b < a → B) (hx : x = nI a := by rfl) (hy : y = nI b := by rfl) (ha : a < 2 ^ 31 := by omega) (hb : b < 2 ^ 31 := by omega) : (x ≤ y → A) ∧ (¬ x ≤ y → B) := by
  subst hx hy
  rw [nI_leI ha hb]
  exact ⟨f, fun z => g (by omega)⟩
theorem pk_lt {x y : Int32} {A B : Prop} (a b : Nat) (f : a < b → A) (g : b ≤ a → B) (hx : x = nI a := by rfl) (hy : y = nI b := by rfl) (ha : a < 2 ^ 31 := by omega) (hb : b < 2 ^ 31 := by omega) : (x < y → A) ∧ (¬ x < y → B) := by
  subst hx hy
  rw [nI_ltI ha hb]
  exact ⟨f, fun z => g (by omega)⟩
theorem pk_eq {x y : Int32} {A B : Prop} (a b : Nat) (f : a = b → A) (g : a ≠ b → B) (hx : x = nI a := by rfl) (hy : y = nI b := by rfl) (ha : a < 2 ^ 31 := by omega) (hb : b < 2 ^ 31 := by omega) : (x = y → A) ∧ (¬ x = y → B) := by
  subst hx hy
  rw [nI_eq ha hb]
  exact ⟨f, g⟩
theorem ek_if {c d A B : Prop} (e : c ↔ d) (f : d → A) (g : ¬ d → B) : (c → A) ∧ (¬ c → B) :=
  ⟨fun z => f (e.mp z), fun z => g (fun y => z (e.mpr y))⟩
def bt (x : Int32) (i : Nat) : Bool := x.toBitVec.getLsbD i
theorem b_ext {x y : Int32} (h : ∀ i, i < 32 → bt x i = bt y i) : x = y := Int32.toBitVec_inj.mp (BitVec.eq_of_getLsbD_eq (fun i hi => h i hi))
theorem b_or (x y : Int32) (i : Nat) : bt (x ||| y) i = (bt x i || bt y i) := by unfold bt; rw [Int32.toBitVec_or, BitVec.getLsbD_or]
theorem b_and (x y : Int32) (i : Nat) : bt (x &&& y) i = (bt x i && bt y i) := by unfold bt; rw [Int32.toBitVec_and, BitVec.getLsbD_and]
theorem b_xor (x y : Int32) (i : Nat) : bt (x ^^^ y) i = (bt x i ^^ bt y i) := by unfold bt; rw [Int32.toBitVec_xor, BitVec.getLsbD_xor]
theorem b_m1 : ∀ i, i < 32 → bt (-1) i = true := by decide +kernel
theorem b_0 (i : Nat) : bt 0 i = false := BitVec.getLsbD_zero
theorem s_l : ∀ n, n < 32 → ((nI n &&& 31).toBitVec.smod 32).toNat = n := by decide +kernel
theorem b_shl (n : Nat) (hn : n < 32) (x : Int32) {i : Nat} (hi : i < 32) : bt (x <<< (nI n &&& 31)) i = (decide (n ≤ i) && bt x (i - n)) := by
  unfold bt
  rw [Int32.toBitVec_shiftLeft]
  show (x.toBitVec <<< ((nI n &&& 31).toBitVec.smod 32).toNat).getLsbD i = _
  rw [s_l n hn, BitVec.getLsbD_shiftLeft]
  rcases Nat.lt_or_ge i n with h | h
  · simp [h, Nat.not_le.mpr h]
  · simp [hi, h, Nat.not_lt.mpr h]
theorem b_sshr (n : Nat) (hn : n < 32) (x : Int32) {i : Nat} (hi : i < 32) : bt (x >>> (nI n &&& 31)) i = if n + i < 32 then bt x (n + i) else bt x 31 := by
  unfold bt
  rw [Int32.toBitVec_shiftRight]
  show (x.toBitVec.sshiftRight ((nI n &&& 31).toBitVec.smod 32).toNat).getLsbD i = _
  rw [s_l n hn, BitVec.getLsbD_sshiftRight, BitVec.msb_eq_getLsbD_last]
  simp [hi]
end
section
/-! the mathematics of both provers: literals are 2 * atom + sign, H q m says that the ground clause q holds the literal m -/
def cm_tr (f : Nat → Bool) (m : Nat) : Prop := f (m / 2) = decide (m % 2 = 0)
def cm_neg (m : Nat) : Nat := if m % 2 = 0 then m + 1 else m - 1
def cm_sat (H : Nat → Nat → Prop) (R G : Nat → Prop) : Prop :=
  ∃ f : Nat → Bool, (∀ q, R q → ∃ m, H q m ∧ cm_tr f m) ∧ (∀ m, G m → cm_tr f m)
def cm_add (G : Nat → Prop) (m : Nat) : Nat → Prop := fun k => G k ∨ k = m
def cm_del (R : Nat → Prop) (q : Nat) : Nat → Prop := fun k => R k ∧ k ≠ q
theorem cm_neg_div (m : Nat) : cm_neg m / 2 = m / 2 := by
  unfold cm_neg; split <;> omega
theorem cm_neg_mod (m : Nat) : cm_neg m % 2 = 1 - m % 2 := by
  unfold cm_neg; split <;> omega
theorem cm_neg_of {k m : Nat} (e : k / 2 = m / 2) (n : k ≠ m) : k = cm_neg m := by
  unfold cm_neg; split <;> omega
theorem cm_neg_neg (m : Nat) : cm_neg (cm_neg m) = m := by
  have h1 := cm_neg_div m
  have h2 := cm_neg_mod m
  have h3 := cm_neg_div (cm_neg m)
  have h4 := cm_neg_mod (cm_neg m)
  omega
theorem cm_neg_ne (m : Nat) : cm_neg m ≠ m := by
  unfold cm_neg; split <;> omega
theorem cm_sat_mono {H : Nat → Nat → Prop} {R R' G G' : Nat → Prop} (hR : ∀ q, R' q → R q) (hG : ∀ m, G' m → G m)
    (h : cm_sat H R G) : cm_sat H R' G' := by
  obtain ⟨f, h1, h2⟩ := h
  exact ⟨f, fun q hq => h1 q (hR q hq), fun m hm => h2 m (hG m hm)⟩
/-- turning K true breaks something: its complement stands in a needed ground clause -/
theorem cm_partner {H : Nat → Nat → Prop} {R R' G : Nat → Prop} {m : Nat} (hs : cm_sat H R G)
    (hu : ¬ cm_sat H R' (cm_add G m)) (hR : ∀ q, R' q → R q) (hn : ¬ G (cm_neg m)) : ∃ q, R' q ∧ H q (cm_neg m) := by
  obtain ⟨f, h1, h2⟩ := hs
  apply Classical.byContradiction
  intro hne
  apply hu
  refine ⟨fun a => if a = m / 2 then decide (m % 2 = 0) else f a, ?_, ?_⟩
  · intro q hq
    obtain ⟨k, hk, tk⟩ := h1 q (hR q hq)
    by_cases e : k / 2 = m / 2
    · by_cases e2 : k = m
      · refine ⟨k, hk, ?_⟩
        unfold cm_tr
        dsimp only
        rw [if_pos e, e2]
      · have e3 := cm_neg_of e e2
        exact absurd ⟨q, hq, e3 ▸ hk⟩ hne
    · refine ⟨k, hk, ?_⟩
      unfold cm_tr at tk ⊢
      dsimp only
      rw [if_neg e]
      exact tk
  · intro k hk
    by_cases e : k / 2 = m / 2
    · by_cases e2 : k = m
      · unfold cm_tr
        dsimp only
        rw [if_pos e, e2]
      · have e3 := cm_neg_of e e2
        rcases hk with hk | hk
        · exact absurd (e3 ▸ hk) hn
        · exact absurd hk e2
    · rcases hk with hk | hk
      · have t := h2 k hk
        unfold cm_tr at t ⊢
        dsimp only
        rw [if_neg e]
        exact t
      · exact absurd (by rw [hk]) e
theorem cm_thin (H : Nat → Nat → Prop) (R G : Nat → Prop) (hu : ¬ cm_sat H R G) : ∀ n : Nat, ∃ R' : Nat → Prop,
    (∀ q, R' q → R q) ∧ ¬ cm_sat H R' G ∧ ∀ q, q < n → R' q → cm_sat H (cm_del R' q) G := by
  intro n
  induction n with
  | zero => exact ⟨R, fun _ h => h, hu, fun q h => absurd h (Nat.not_lt_zero q)⟩
  | succ n ih =>
    obtain ⟨R', a, b, c⟩ := ih
    by_cases h : cm_sat H (cm_del R' n) G
    · refine ⟨R', a, b, fun q hq r => ?_⟩
      by_cases e : q = n
      · rw [e]; exact h
      · exact c q (by omega) r
    · refine ⟨cm_del R' n, fun q r => a q r.1, h, fun q hq r => ?_⟩
      have hne := r.2
      exact cm_sat_mono (fun k hk => ⟨hk.1.1, hk.2⟩) (fun _ h => h) (c q (by omega) r.1)
theorem cm_rest {H : Nat → Nat → Prop} {R G : Nat → Prop} {q K : Nat} (hu : ¬ cm_sat H R G) (hK : H q K) :
    ¬ cm_sat H (cm_del R q) (cm_add G K) := by
  intro hs
  obtain ⟨f, h1, h2⟩ := hs
  apply hu
  refine ⟨f, fun k hk => ?_, fun m hm => h2 m (Or.inl hm)⟩
  by_cases e : k = q
  · exact ⟨K, by rw [e]; exact hK, h2 K (Or.inr rfl)⟩
  · exact h1 k ⟨hk, e⟩
/-- what is known of a goal K: the rest R and the path G hold somewhere, but nowhere with K -/
def cm_goal (H : Nat → Nat → Prop) (R G : Nat → Prop) (K : Nat) : Prop := cm_sat H R G ∧ ¬ cm_sat H R (cm_add G K)
theorem cm_goal_new {H : Nat → Nat → Prop} {R G : Nat → Prop} {K : Nat} (h : cm_goal H R G K) : ¬ G K := by
  intro hG
  exact h.2 (cm_sat_mono (fun _ h => h) (fun m hm => hm.elim (fun h => h) (fun e => e ▸ hG)) h.1)
theorem cm_goal_next {H : Nat → Nat → Prop} {R G : Nat → Prop} {q K : Nat} (hu : ¬ cm_sat H R G)
    (hm : cm_sat H (cm_del R q) G) (hK : H q K) : cm_goal H (cm_del R q) G K := ⟨hm, cm_rest hu hK⟩
theorem cm_goal_congr {H : Nat → Nat → Prop} {R R' G G' : Nat → Prop} {K : Nat} (hR : ∀ q, R q ↔ R' q) (hG : ∀ q, G q ↔ G' q)
    (h : cm_goal H R G K) : cm_goal H R' G' K := by
  refine ⟨cm_sat_mono (fun q hq => (hR q).mpr hq) (fun q hq => (hG q).mpr hq) h.1, fun hs => h.2 ?_⟩
  exact cm_sat_mono (fun q hq => (hR q).mp hq) (fun q hq => hq.elim (fun z => Or.inl ((hG q).mp z)) Or.inr) hs
/-- the paths: literals of distinct atoms, five atoms at most -/
def cm_us (ms : List Nat) (a : Nat) : Bool := ms.any (fun k => k / 2 == a)
def cm_cnt (ms : List Nat) : Nat := (cm_us ms 0).toNat + (cm_us ms 1).toNat + (cm_us ms 2).toNat + (cm_us ms 3).toNat + (cm_us ms 4).toNat
def cm_ok : List Nat → Prop
  | [] => True
  | m :: ms => m / 2 < 5 ∧ cm_us ms (m / 2) = false ∧ cm_ok ms
theorem cm_us_cons (m : Nat) (ms : List Nat) (a : Nat) : cm_us (m :: ms) a = ((m / 2 == a) || cm_us ms a) := rfl
theorem cm_us_iff (ms : List Nat) (a : Nat) : cm_us ms a = true ↔ ∃ k, k ∈ ms ∧ k / 2 = a := by
  unfold cm_us
  rw [List.any_eq_true]
  constructor
  · intro ⟨k, h1, h2⟩
    exact ⟨k, h1, by simpa using h2⟩
  · intro ⟨k, h1, h2⟩
    exact ⟨k, h1, by simpa using h2⟩
theorem cm_us_false {ms : List Nat} {m : Nat} (h1 : m ∉ ms) (h2 : cm_neg m ∉ ms) : cm_us ms (m / 2) = false := by
  cases h : cm_us ms (m / 2) with
  | false => rfl
  | true =>
    obtain ⟨k, hk, e⟩ := (cm_us_iff ms (m / 2)).mp h
    by_cases e2 : k = m
    · exact absurd (e2 ▸ hk) h1
    · exact absurd (cm_neg_of e e2 ▸ hk) h2
theorem cm_cnt_cons {m : Nat} {ms : List Nat} (h : m / 2 < 5) (hn : cm_us ms (m / 2) = false) : cm_cnt (m :: ms) = cm_cnt ms + 1 := by
  unfold cm_cnt
  simp only [cm_us_cons]
  generalize m / 2 = a at h hn ⊢
  have : a = 0 ∨ a = 1 ∨ a = 2 ∨ a = 3 ∨ a = 4 := by omega
  rcases this with e | e | e | e | e <;> subst e <;> rw [hn] <;> simp <;> omega
theorem cm_cnt_ok : ∀ {ms : List Nat}, cm_ok ms → cm_cnt ms = ms.length
  | [], _ => rfl
  | m :: ms, h => by rw [cm_cnt_cons h.1 h.2.1, cm_cnt_ok h.2.2, List.length_cons]
theorem cm_cnt_le (ms : List Nat) : cm_cnt ms ≤ 5 := by
  unfold cm_cnt
  have h0 := Bool.toNat_le (cm_us ms 0)
  have h1 := Bool.toNat_le (cm_us ms 1)
  have h2 := Bool.toNat_le (cm_us ms 2)
  have h3 := Bool.toNat_le (cm_us ms 3)
  have h4 := Bool.toNat_le (cm_us ms 4)
  omega
/-- a goal that can't be reduced has at most four literals above it -/
theorem cm_len4 {ms : List Nat} {m : Nat} (h : cm_ok ms) (hm : m / 2 < 5) (h1 : m ∉ ms) (h2 : cm_neg m ∉ ms) : ms.length ≤ 4 ∧ cm_ok (m :: ms) := by
  have hu := cm_us_false h1 h2
  have e := cm_cnt_cons hm hu
  have l := cm_cnt_le (m :: ms)
  rw [cm_cnt_ok h] at e
  exact ⟨by omega, hm, hu, h⟩
/-- the steps that a goal below d literals may cost -/
def cm_w (d : Nat) : Nat := 2 ^ (6 - d) - 1
theorem cm_w_pos {d : Nat} (h : d ≤ 5) : 1 ≤ cm_w d := by
  have : d = 0 ∨ d = 1 ∨ d = 2 ∨ d = 3 ∨ d = 4 ∨ d = 5 := by omega
  rcases this with e | e | e | e | e | e <;> subst e <;> decide
theorem cm_w_succ {d : Nat} (h : d ≤ 4) : cm_w d = 2 * cm_w (d + 1) + 1 := by
  have : d = 0 ∨ d = 1 ∨ d = 2 ∨ d = 3 ∨ d = 4 := by omega
  rcases this with e | e | e | e | e <;> subst e <;> decide
end
section
/-! the check, pure: goals are (copy, literal, path), the path's last entry first; b is the binding by term numbers -/
abbrev ck_G : Type := Nat × Nat × List (Nat × Nat)
def ck_res (b : Nat → Nat) : Nat → Nat → Option Nat
  | 0, _ => none
  | n + 1, t => if b t = t then some t else ck_res b n (b t)
def ck_tm (copy t : Nat) : Nat := if t < 2 then t else 2 * copy + t
def ck_ar (x y : Int32) : Nat := if x = -1 then 0 else if y = -1 then 1 else 2
def ck_ag (a0 a1 : Nat → Int32) (l p : Nat) : Nat := if p = 0 then (a0 l).toNatClampNeg else (a1 l).toNatClampNeg
def ck_ps (b : Nat → Nat) (A1 A2 : Nat → Nat) : Nat → Nat → Int32
  | 0, _ => 0
  | r + 1, p => match ck_res b 513 (A1 p), ck_res b 513 (A2 p) with
    | some x, some y => if x = y then ck_ps b A1 A2 r (p + 1) else -16
    | some _, none => -17
    | none, _ => -17
def ck_conn (sg pr a0 a1 : Nat → Int32) (b : Nat → Nat) (c1 l1 c2 l2 : Nat) : Int32 :=
  if sg l1 = sg l2 ∨ ¬ pr l1 = pr l2 then -15
  else ck_ps b (fun p => ck_tm c1 (ck_ag a0 a1 l1 p)) (fun p => ck_tm c2 (ck_ag a0 a1 l2 p)) (ck_ar (a0 l1) (a1 l1)) 0
/-- the goals of a copy: literals j .. j + n - 1 but sk, the smallest on top -/
def ck_gl (copy sk : Nat) (p : List (Nat × Nat)) : Nat → Nat → List ck_G
  | 0, _ => []
  | n + 1, j => if j = sk then ck_gl copy sk p n (j + 1) else (copy, j, p) :: ck_gl copy sk p n (j + 1)
def ck_out (x : Int32) (n : Nat) : Prop := x < 0 ∨ nI n ≤ x
theorem ck_out_or (x : Int32) {n : Nat} (hn : n < 2 ^ 31) : ck_out x n ∨ (¬ ck_out x n ∧ ∃ j, j < n ∧ x = nI j) := by
  by_cases h : x < 0
  · exact Or.inl (Or.inl h)
  · obtain ⟨j, hj, e⟩ := nI_of h
    by_cases h2 : nI n ≤ x
    · exact Or.inl (Or.inr h2)
    · refine Or.inr ⟨fun z => z.elim h h2, j, ?_, e⟩
      rw [e, nI_leI hn hj] at h2
      omega
theorem ck_out_nI {j n : Nat} (h : j < n) (hn : n < 2 ^ 31) : ¬ ck_out (nI j) n := by
  intro z
  rcases z with z | z
  · exact nI_pos (by omega) z
  · rw [nI_leI hn (by omega)] at z
    omega
theorem ck_out_nI' {j n : Nat} (h : n ≤ j) (hj : j < 2 ^ 31) : ck_out (nI j) n := Or.inr (nI_le h hj)
noncomputable def ck_if {α : Type} (p : Prop) (x y : α) : α := @ite α p (Classical.propDecidable p) x y
theorem ck_if_t {α : Type} {p : Prop} {x y : α} (h : p) : ck_if p x y = x := if_pos h
theorem ck_if_f {α : Type} {p : Prop} {x y : α} (h : ¬ p) : ck_if p x y = y := if_neg h
noncomputable def ck_step (nc : Nat) (st : Nat → Nat) (sg pr a0 a1 : Nat → Int32) (K A B : Nat → Int32) (b : Nat → Nat) (i : Nat) (L : List ck_G) : Int32 × List ck_G :=
  match L with
  | [] => (-18, [])
  | (c, l, p) :: R =>
    ck_if (K i = 0) (-11, R)
    (ck_if (K i = 1)
      (ck_if (ck_out (A i) nc) (-12, R)
        (ck_if (ck_out (B i) (st ((A i).toNatClampNeg + 1) - st (A i).toNatClampNeg)) (-13, R)
          (ck_if (ck_conn sg pr a0 a1 b c l i (st (A i).toNatClampNeg + (B i).toNatClampNeg) = 0)
            (0, ck_gl i (st (A i).toNatClampNeg + (B i).toNatClampNeg) ((c, l) :: p) (st ((A i).toNatClampNeg + 1) - st (A i).toNatClampNeg) (st (A i).toNatClampNeg) ++ R)
            (ck_conn sg pr a0 a1 b c l i (st (A i).toNatClampNeg + (B i).toNatClampNeg), R))))
      (ck_if (ck_out (A i) p.length) (-14, R)
        (ck_conn sg pr a0 a1 b c l (p.getD (p.length - 1 - (A i).toNatClampNeg) (0, 0)).1 (p.getD (p.length - 1 - (A i).toNatClampNeg) (0, 0)).2, R)))
noncomputable def ck_go (nc : Nat) (st : Nat → Nat) (sg pr a0 a1 : Nat → Int32) (K A B : Nat → Int32) (b : Nat → Nat) : Nat → Nat → List ck_G → Int32 × Int32
  | 0, i, L => if L.isEmpty then (0, -1) else (-19, nI i)
  | r + 1, i, L => if (ck_step nc st sg pr a0 a1 K A B b i L).1 = 0 then ck_go nc st sg pr a0 a1 K A B b r (i + 1) (ck_step nc st sg pr a0 a1 K A B b i L).2
    else ((ck_step nc st sg pr a0 a1 K A B b i L).1, nI i)
noncomputable def ck_all (nc : Nat) (st : Nat → Nat) (sg pr a0 a1 : Nat → Int32) (K A B : Nat → Int32) (b : Nat → Nat) (n : Nat) : Int32 × Int32 :=
  if n = 0 then (-10, 0) else
  if K 0 = 0 then
    ck_if (ck_out (A 0) nc) (-12, 0)
      (ck_go nc st sg pr a0 a1 K A B b (n - 1) 1 (ck_gl 0 16 [] (st ((A 0).toNatClampNeg + 1) - st (A 0).toNatClampNeg) (st (A 0).toNatClampNeg)))
  else (-11, 0)
/-! a proof under way: V0, V1 are the constants of a copy's two variables -/
def ck_bok (K : Nat → Int32) (V0 V1 : Nat → Nat) (m : Nat) (b : Nat → Nat) : Prop :=
  b 0 = 0 ∧ b 1 = 1 ∧ ∀ j, j < m → ¬ K j = 2 → b (2 * j + 2) = V0 j ∧ b (2 * j + 3) = V1 j
def ck_rch (nc : Nat) (st : Nat → Nat) (sg pr a0 a1 : Nat → Int32) (K A B : Nat → Int32) (V0 V1 : Nat → Nat) (L1 : List ck_G) (m : Nat) (L : List ck_G) : Prop :=
  ∀ (K' A' B' : Nat → Int32) (b : Nat → Nat), (∀ j, j < m → K' j = K j ∧ A' j = A j ∧ B' j = B j) → ck_bok K V0 V1 m b →
    ∀ r, ck_go nc st sg pr a0 a1 K' A' B' b (r + (m - 1)) 1 L1 = ck_go nc st sg pr a0 a1 K' A' B' b r m L
/-- the constant of an argument in copy j -/
def ck_gv (V0 V1 : Nat → Nat) (j t : Nat) : Nat := if t = 2 then V0 j else if t = 3 then V1 j else t
theorem ck_res0 {b : Nat → Nat} {n t : Nat} (h : b t = t) : ck_res b (n + 1) t = some t := by
  unfold ck_res; rw [if_pos h]
theorem ck_res_gv {K : Nat → Int32} {V0 V1 : Nat → Nat} {m : Nat} {b : Nat → Nat} (hb : ck_bok K V0 V1 m b) {j t : Nat} (hj : j < m) (hK : ¬ K j = 2)
    (ht : t < 4) (h0 : V0 j < 2) (h1 : V1 j < 2) : ck_res b 513 (ck_tm j t) = some (ck_gv V0 V1 j t) := by
  obtain ⟨b0, b1, bv⟩ := hb
  have bc : ∀ v, v < 2 → b v = v := by
    intro v hv
    have : v = 0 ∨ v = 1 := by omega
    rcases this with e | e <;> rw [e] <;> assumption
  obtain ⟨bv0, bv1⟩ := bv j hj hK
  have cases4 : t < 2 ∨ t = 2 ∨ t = 3 := by omega
  rcases cases4 with e | e | e
  · have e2 : ck_gv V0 V1 j t = t := by
      unfold ck_gv; rw [if_neg (by omega), if_neg (by omega)]
    have e3 : ck_tm j t = t := by unfold ck_tm; rw [if_pos e]
    rw [e2, e3]
    exact ck_res0 (bc t e)
  · subst e
    have e2 : ck_gv V0 V1 j 2 = V0 j := by unfold ck_gv; rw [if_pos rfl]
    have e3 : ck_tm j 2 = 2 * j + 2 := by unfold ck_tm; rw [if_neg (by omega)]
    rw [e2, e3]
    show ck_res b (512 + 1) (2 * j + 2) = _
    unfold ck_res
    rw [if_neg (by rw [bv0]; omega), bv0]
    exact ck_res0 (n := 511) (bc _ h0)
  · subst e
    have e2 : ck_gv V0 V1 j 3 = V1 j := by unfold ck_gv; rw [if_neg (by omega), if_pos rfl]
    have e3 : ck_tm j 3 = 2 * j + 3 := by unfold ck_tm; rw [if_neg (by omega)]
    rw [e2, e3]
    show ck_res b (512 + 1) (2 * j + 3) = _
    unfold ck_res
    rw [if_neg (by rw [bv1]; omega), bv1]
    exact ck_res0 (n := 511) (bc _ h1)
/-- a ground connection between the literal l1 of copy c1 and l2 of copy c2 -/
def ck_gc (sg pr a0 a1 : Nat → Int32) (V0 V1 : Nat → Nat) (c1 l1 c2 l2 : Nat) : Prop :=
  ¬ sg l1 = sg l2 ∧ pr l1 = pr l2 ∧
    ∀ p, p < ck_ar (a0 l1) (a1 l1) → ck_ag a0 a1 l1 p < 4 ∧ ck_ag a0 a1 l2 p < 4 ∧ ck_gv V0 V1 c1 (ck_ag a0 a1 l1 p) = ck_gv V0 V1 c2 (ck_ag a0 a1 l2 p)
theorem ck_ps_ok {b A1 A2 : Nat → Nat} : ∀ (r p : Nat), (∀ q, p ≤ q → q < p + r → ∃ v, ck_res b 513 (A1 q) = some v ∧ ck_res b 513 (A2 q) = some v) → ck_ps b A1 A2 r p = 0
  | 0, _, _ => rfl
  | r + 1, p, h => by
    obtain ⟨v, e1, e2⟩ := h p (Nat.le_refl p) (by omega)
    unfold ck_ps
    rw [e1, e2]
    show (if v = v then ck_ps b A1 A2 r (p + 1) else -16) = 0
    rw [if_pos rfl]
    exact ck_ps_ok r (p + 1) (fun q h1 h2 => h q (by omega) (by omega))
theorem ck_conn_ok {sg pr a0 a1 : Nat → Int32} {K : Nat → Int32} {V0 V1 : Nat → Nat} {m : Nat} {b : Nat → Nat} (hb : ck_bok K V0 V1 m b)
    {c1 l1 c2 l2 : Nat} (h1 : c1 < m) (k1 : ¬ K c1 = 2) (h2 : c2 < m) (k2 : ¬ K c2 = 2) (hv : ∀ j, j < m → ¬ K j = 2 → V0 j < 2 ∧ V1 j < 2)
    (h : ck_gc sg pr a0 a1 V0 V1 c1 l1 c2 l2) : ck_conn sg pr a0 a1 b c1 l1 c2 l2 = 0 := by
  obtain ⟨hs, hp, ha⟩ := h
  unfold ck_conn
  rw [if_neg (fun z => z.elim hs (fun y => y hp))]
  apply ck_ps_ok
  intro q _ hq
  obtain ⟨t1, t2, e⟩ := ha q (by omega)
  refine ⟨ck_gv V0 V1 c1 (ck_ag a0 a1 l1 q), ?_, ?_⟩
  · exact ck_res_gv hb h1 k1 t1 (hv c1 h1 k1).1 (hv c1 h1 k1).2
  · rw [e]
    exact ck_res_gv hb h2 k2 t2 (hv c2 h2 k2).1 (hv c2 h2 k2).2
theorem ck_rch_1 {nc : Nat} {st : Nat → Nat} {sg pr a0 a1 : Nat → Int32} {K A B : Nat → Int32} {V0 V1 : Nat → Nat} {L1 : List ck_G} :
    ck_rch nc st sg pr a0 a1 K A B V0 V1 L1 1 L1 := fun _ _ _ _ _ _ _ => rfl
/-- arrays that agree below m -/
def ck_agr (K A B : Nat → Int32) (V0 V1 : Nat → Nat) (K1 A1 B1 : Nat → Int32) (W0 W1 : Nat → Nat) (m : Nat) : Prop :=
  ∀ j, j < m → K1 j = K j ∧ A1 j = A j ∧ B1 j = B j ∧ (¬ K j = 2 → W0 j = V0 j ∧ W1 j = V1 j)
theorem ck_agr_bok {K A B : Nat → Int32} {V0 V1 : Nat → Nat} {K1 A1 B1 : Nat → Int32} {W0 W1 : Nat → Nat} {m : Nat} {b : Nat → Nat}
    (h : ck_agr K A B V0 V1 K1 A1 B1 W0 W1 m) (hb : ck_bok K1 W0 W1 (m + 1) b) : ck_bok K V0 V1 m b := by
  obtain ⟨b0, b1, bv⟩ := hb
  refine ⟨b0, b1, fun j hj hK => ?_⟩
  obtain ⟨e, _, _, e2⟩ := h j hj
  obtain ⟨w0, w1⟩ := bv j (by omega) (by rw [e]; exact hK)
  obtain ⟨v0, v1⟩ := e2 hK
  exact ⟨w0.trans v0, w1.trans v1⟩
theorem ck_rch_ext {nc : Nat} {st : Nat → Nat} {sg pr a0 a1 : Nat → Int32} {K A B : Nat → Int32} {V0 V1 : Nat → Nat} {L1 : List ck_G} {m : Nat}
    {c l : Nat} {p : List (Nat × Nat)} {R : List ck_G} (h : ck_rch nc st sg pr a0 a1 K A B V0 V1 L1 m ((c, l, p) :: R)) (hm : 1 ≤ m)
    {K1 A1 B1 : Nat → Int32} {W0 W1 : Nat → Nat} (ha : ck_agr K A B V0 V1 K1 A1 B1 W0 W1 m) {a bb : Nat} (eK : K1 m = 1) (eA : A1 m = nI a) (eB : B1 m = nI bb)
    (hnc : nc ≤ 8) (hac : a < nc) (hbb : bb < st (a + 1) - st a) (hst : st (a + 1) - st a < 2 ^ 31) (hc : c < m) (hKc : ¬ K c = 2)
    (hv : ∀ j, j < m + 1 → ¬ K1 j = 2 → W0 j < 2 ∧ W1 j < 2) (hg : ck_gc sg pr a0 a1 W0 W1 c l m (st a + bb)) :
    ck_rch nc st sg pr a0 a1 K1 A1 B1 W0 W1 L1 (m + 1) (ck_gl m (st a + bb) ((c, l) :: p) (st (a + 1) - st a) (st a) ++ R) := by
  intro K' A' B' b hag hb r
  have h2 := h K' A' B' b (fun j hj => by
    obtain ⟨x, y, z⟩ := hag j (by omega)
    obtain ⟨x', y', z', _⟩ := ha j hj
    exact ⟨x.trans x', y.trans y', z.trans z'⟩) (ck_agr_bok ha hb) (r + 1)
  have e1 : r + (m + 1 - 1) = r + 1 + (m - 1) := by omega
  rw [e1, h2]
  obtain ⟨kK, kA, kB⟩ := hag m (by omega)
  have ca : (nI a).toNatClampNeg = a := nI_clamp (by omega)
  have cb : (nI bb).toNatClampNeg = bb := nI_clamp (by omega)
  have hcn : ck_conn sg pr a0 a1 b c l m (st a + bb) = 0 :=
    ck_conn_ok hb (by omega) (by rw [(ha c hc).1]; exact hKc) (by omega) (by rw [eK]; decide) hv hg
  have hs : ck_step nc st sg pr a0 a1 K' A' B' b m ((c, l, p) :: R) = (0, ck_gl m (st a + bb) ((c, l) :: p) (st (a + 1) - st a) (st a) ++ R) := by
    unfold ck_step
    dsimp only
    rw [kK, kA, kB, eK, eA, eB, ca, cb]
    rw [ck_if_f (by decide), ck_if_t rfl, ck_if_f (ck_out_nI hac (by omega)), ck_if_f (ck_out_nI hbb hst), ck_if_t hcn]
  show ck_go nc st sg pr a0 a1 K' A' B' b (r + 1) m ((c, l, p) :: R) = _
  rw [ck_go, hs, if_pos rfl]
theorem ck_rch_red {nc : Nat} {st : Nat → Nat} {sg pr a0 a1 : Nat → Int32} {K A B : Nat → Int32} {V0 V1 : Nat → Nat} {L1 : List ck_G} {m : Nat}
    {c l : Nat} {p : List (Nat × Nat)} {R : List ck_G} (h : ck_rch nc st sg pr a0 a1 K A B V0 V1 L1 m ((c, l, p) :: R)) (hm : 1 ≤ m)
    {K1 A1 B1 : Nat → Int32} {W0 W1 : Nat → Nat} (ha : ck_agr K A B V0 V1 K1 A1 B1 W0 W1 m) {e c2 l2 : Nat} (eK : K1 m = 2) (eA : A1 m = nI e)
    (he : e < p.length) (hp : p.length < 2 ^ 31) (hx : p.getD (p.length - 1 - e) (0, 0) = (c2, l2)) (hc : c < m) (hKc : ¬ K c = 2) (hc2 : c2 < m) (hKc2 : ¬ K c2 = 2)
    (hv : ∀ j, j < m + 1 → ¬ K1 j = 2 → W0 j < 2 ∧ W1 j < 2) (hg : ck_gc sg pr a0 a1 W0 W1 c l c2 l2) :
    ck_rch nc st sg pr a0 a1 K1 A1 B1 W0 W1 L1 (m + 1) R := by
  intro K' A' B' b hag hb r
  have h2 := h K' A' B' b (fun j hj => by
    obtain ⟨x, y, z⟩ := hag j (by omega)
    obtain ⟨x', y', z', _⟩ := ha j hj
    exact ⟨x.trans x', y.trans y', z.trans z'⟩) (ck_agr_bok ha hb) (r + 1)
  have e1 : r + (m + 1 - 1) = r + 1 + (m - 1) := by omega
  rw [e1, h2]
  obtain ⟨kK, kA, _⟩ := hag m (by omega)
  have ca : (nI e).toNatClampNeg = e := nI_clamp (by omega)
  have hcn : ck_conn sg pr a0 a1 b c l c2 l2 = 0 :=
    ck_conn_ok hb (by omega) (by rw [(ha c hc).1]; exact hKc) (by omega) (by rw [(ha c2 hc2).1]; exact hKc2) hv hg
  have hs : ck_step nc st sg pr a0 a1 K' A' B' b m ((c, l, p) :: R) = (0, R) := by
    unfold ck_step
    dsimp only
    rw [kK, kA, eK, eA, ca, hx]
    rw [ck_if_f (by decide), ck_if_f (by decide), ck_if_f (ck_out_nI he hp), hcn]
  show ck_go nc st sg pr a0 a1 K' A' B' b (r + 1) m ((c, l, p) :: R) = _
  rw [ck_go, hs, if_pos rfl]
/-- a finished proof: every buffer that holds it checks as valid -/
def ck_val (nc : Nat) (st : Nat → Nat) (sg pr a0 a1 : Nat → Int32) (K A B : Nat → Int32) (V0 V1 : Nat → Nat) (n : Nat) : Prop :=
  ∀ (K' A' B' : Nat → Int32) (b : Nat → Nat), (∀ j, j < n → K' j = K j ∧ A' j = A j ∧ B' j = B j) → ck_bok K V0 V1 n b →
    ck_all nc st sg pr a0 a1 K' A' B' b n = (0, -1)
theorem ck_rch_end {nc : Nat} {st : Nat → Nat} {sg pr a0 a1 : Nat → Int32} {K A B : Nat → Int32} {V0 V1 : Nat → Nat} {m a : Nat} (hm : 1 ≤ m)
    (eK : K 0 = 0) (eA : A 0 = nI a) (hnc : nc ≤ 8) (hac : a < nc)
    (h : ck_rch nc st sg pr a0 a1 K A B V0 V1 (ck_gl 0 16 [] (st (a + 1) - st a) (st a)) m []) : ck_val nc st sg pr a0 a1 K A B V0 V1 m := by
  intro K' A' B' b hag hb
  obtain ⟨k0, k1, _⟩ := hag 0 (by omega)
  have ca : (nI a).toNatClampNeg = a := nI_clamp (by omega)
  unfold ck_all
  rw [if_neg (by omega), k0, eK, if_pos rfl, k1, eA, ca, ck_if_f (ck_out_nI hac (by omega))]
  have h2 := h K' A' B' b hag hb 0
  rw [Nat.zero_add] at h2
  rw [h2]
  rfl
/-! the goals' lists -/
theorem ck_gl_mem {copy sk : Nat} {p : List (Nat × Nat)} : ∀ {n j : Nat} {g : ck_G}, g ∈ ck_gl copy sk p n j → g.1 = copy ∧ j ≤ g.2.1 ∧ g.2.1 < j + n ∧ ¬ g.2.1 = sk ∧ g.2.2 = p
  | 0, _, _, h => by cases h
  | n + 1, j, g, h => by
    unfold ck_gl at h
    by_cases e : j = sk
    · rw [if_pos e] at h
      obtain ⟨x, y, z, w, v⟩ := ck_gl_mem h
      exact ⟨x, by omega, by omega, w, v⟩
    · rw [if_neg e] at h
      rcases List.mem_cons.mp h with h | h
      · rw [h]
        exact ⟨rfl, Nat.le_refl j, by show j < j + (n + 1); omega, e, rfl⟩
      · obtain ⟨x, y, z, w, v⟩ := ck_gl_mem h
        exact ⟨x, by omega, by omega, w, v⟩
theorem ck_gl_len {copy sk : Nat} {p : List (Nat × Nat)} : ∀ (n j : Nat), (ck_gl copy sk p n j).length ≤ n
  | 0, _ => Nat.le_refl 0
  | n + 1, j => by
    unfold ck_gl
    have := ck_gl_len (copy := copy) (sk := sk) (p := p) n (j + 1)
    by_cases e : j = sk
    · rw [if_pos e]; omega
    · rw [if_neg e, List.length_cons]; omega
theorem ck_gl_len' {copy sk : Nat} {p : List (Nat × Nat)} : ∀ (n j : Nat), j ≤ sk → sk < j + n → (ck_gl copy sk p n j).length ≤ n - 1
  | 0, _, h1, h2 => by omega
  | n + 1, j, h1, h2 => by
    unfold ck_gl
    by_cases e : j = sk
    · rw [if_pos e]
      exact ck_gl_len n (j + 1)
    · rw [if_neg e, List.length_cons]
      have := ck_gl_len' (copy := copy) (sk := sk) (p := p) n (j + 1) (by omega) (by omega)
      omega
/-- what the goals of a list may still cost -/
def ck_pot : List ck_G → Nat
  | [] => 0
  | g :: L => cm_w g.2.2.length + ck_pot L
theorem ck_pot_app : ∀ (L M : List ck_G), ck_pot (L ++ M) = ck_pot L + ck_pot M
  | [], M => by simp [ck_pot]
  | g :: L, M => by
    show cm_w g.2.2.length + ck_pot (L ++ M) = cm_w g.2.2.length + ck_pot L + ck_pot M
    rw [ck_pot_app L M]; omega
theorem ck_pot_gl {copy sk : Nat} {p : List (Nat × Nat)} : ∀ (n j : Nat), ck_pot (ck_gl copy sk p n j) = (ck_gl copy sk p n j).length * cm_w p.length
  | 0, _ => by simp [ck_gl, ck_pot]
  | n + 1, j => by
    unfold ck_gl
    by_cases e : j = sk
    · rw [if_pos e]; exact ck_pot_gl n (j + 1)
    · rw [if_neg e]
      show cm_w p.length + ck_pot (ck_gl copy sk p n (j + 1)) = _
      rw [ck_pot_gl n (j + 1), List.length_cons, Nat.add_mul, Nat.one_mul]; omega
theorem ck_pot_len : ∀ (L : List ck_G), (∀ g, g ∈ L → g.2.2.length ≤ 5) → L.length ≤ ck_pot L
  | [], _ => Nat.le_refl 0
  | g :: L, h => by
    have h1 := cm_w_pos (h g (List.mem_cons_self))
    have h2 := ck_pot_len L (fun g' hg => h g' (List.mem_cons_of_mem g hg))
    show (g :: L).length ≤ cm_w g.2.2.length + ck_pot L
    rw [List.length_cons]; omega
end
section
/-! the clauses: nc finished ones, nl literals in all, clause c begins at st c -/
def cd_at (x : Int32) : Prop := x = -1 ∨ ∃ t, t < 4 ∧ x = nI t
def cd_mk (M : Nat) (f : Nat → Int32) : Nat → Int32 := fun j => if j < M then f j else 0
theorem cd_mk_lt {M j : Nat} {f : Nat → Int32} (h : j < M) : cd_mk M f j = f j := if_pos h
theorem cd_mk_upd {M k : Nat} {f : Nat → Int32} {x : Int32} (h : M ≤ k) : cd_mk M (upd f k x) = cd_mk M f := by
  funext j
  by_cases hj : j < M
  · rw [cd_mk_lt hj, cd_mk_lt hj]
    exact pk_un (by omega)
  · unfold cd_mk
    rw [if_neg hj, if_neg hj]
def cd_lit (sg pr a0 a1 ar : Nat → Int32) (j : Nat) : Prop :=
  (sg j = 0 ∨ sg j = 1) ∧ (∃ p, p < 4 ∧ pr j = nI p ∧ ar p = nI (ck_ar (a0 j) (a1 j))) ∧ cd_at (a0 j) ∧ cd_at (a1 j) ∧ (a0 j = -1 → a1 j = -1)
def cd_wf (nc nl : Nat) (st : Nat → Nat) (sg pr a0 a1 ar : Nat → Int32) : Prop :=
  nc ≤ 8 ∧ nl ≤ 16 ∧ st 0 = 0 ∧ (∀ c, c < nc → st c ≤ st (c + 1) ∧ st (c + 1) ≤ st c + 3) ∧ st nc ≤ nl ∧ nl ≤ st nc + 3 ∧
  (∀ j, j < nl → cd_lit sg pr a0 a1 ar j) ∧ (∀ p, p < 4 → ar p = -1 ∨ ar p = 0 ∨ ar p = 1 ∨ ar p = 2)
theorem cd_mono {nc nl : Nat} {st : Nat → Nat} {sg pr a0 a1 ar : Nat → Int32} (h : cd_wf nc nl st sg pr a0 a1 ar) {c : Nat} : ∀ (d : Nat), c + d ≤ nc → st c ≤ st (c + d)
  | 0, _ => Nat.le_refl _
  | d + 1, hd => by
    have h1 := cd_mono h (c := c) d (by omega)
    have h2 := (h.2.2.2.1 (c + d) (by omega)).1
    show st c ≤ st (c + d + 1)
    omega
theorem cd_mono' {nc nl : Nat} {st : Nat → Nat} {sg pr a0 a1 ar : Nat → Int32} (h : cd_wf nc nl st sg pr a0 a1 ar) {c d : Nat} (hcd : c ≤ d) (hd : d ≤ nc) : st c ≤ st d := by
  obtain ⟨e, rfl⟩ : ∃ e, d = c + e := ⟨d - c, by omega⟩
  exact cd_mono h e hd
def cd_en (nc nl : Nat) (st : Nat → Nat) (c : Nat) : Nat := if c = nc then nl else st (c + 1)
theorem cd_en_nc {nc nl : Nat} {st : Nat → Nat} : cd_en nc nl st nc = nl := if_pos rfl
theorem cd_en_lt {nc nl : Nat} {st : Nat → Nat} {c : Nat} (h : c < nc) : cd_en nc nl st c = st (c + 1) := if_neg (by omega)
theorem cd_en_bd {nc nl : Nat} {st : Nat → Nat} {sg pr a0 a1 ar : Nat → Int32} (h : cd_wf nc nl st sg pr a0 a1 ar) {c : Nat} (hc : c ≤ nc) :
    st c ≤ cd_en nc nl st c ∧ cd_en nc nl st c ≤ st c + 3 ∧ cd_en nc nl st c ≤ nl := by
  obtain ⟨h1, h2, h3, h4, h5, h6, _⟩ := id h
  by_cases e : c = nc
  · rw [e, cd_en_nc]
    exact ⟨h5, h6, Nat.le_refl _⟩
  · rw [cd_en_lt (by omega)]
    obtain ⟨x, y⟩ := h4 c (by omega)
    have := cd_mono' h (c := c + 1) (d := nc) (by omega) (Nat.le_refl _)
    exact ⟨x, y, by omega⟩
def cd_own (nc nl : Nat) (st : Nat → Nat) (ow : Nat → Int32) : Prop :=
  ∀ j, j < nl → ∃ c, c ≤ nc ∧ ow j = nI c ∧ st c ≤ j ∧ j < cd_en nc nl st c
theorem cd_own_iff {nc nl : Nat} {st : Nat → Nat} {sg pr a0 a1 ar ow : Nat → Int32} (h : cd_wf nc nl st sg pr a0 a1 ar) (ho : cd_own nc nl st ow)
    {j c : Nat} (hj : j < nl) (hc : c ≤ nc) : ow j = nI c ↔ (st c ≤ j ∧ j < cd_en nc nl st c) := by
  obtain ⟨d, hd, e, h1, h2⟩ := ho j hj
  have hnc := h.1
  rw [e, nI_eq (by omega) (by omega)]
  constructor
  · intro x
    rw [← x]
    exact ⟨h1, h2⟩
  · intro ⟨x1, x2⟩
    apply Classical.byContradiction
    intro hne
    by_cases hlt : d < c
    · rw [cd_en_lt (by omega)] at h2
      have := cd_mono' h (c := d + 1) (d := c) (by omega) hc
      omega
    · rw [cd_en_lt (show c < nc by omega)] at x2
      have := cd_mono' h (c := c + 1) (d := d) (by omega) hd
      omega
/-! the relation -/
def xt_in (a : Nat) : Nat → Int32
  | 0 => 0
  | k + 1 => xt_in a k ||| (((nI k >>> (nI a &&& 31)) &&& 1) <<< (nI k &&& 31))
def cr_bx (b : Nat → Nat) (bd : Nat → Int32) : Prop := b 0 = 0 ∧ b 1 = 1 ∧ ∀ t, t < 514 → b t < 514 ∧ bd t = nI (b t)
def cr_by (b : Nat → Nat) (yb : Nat → Int32) : Prop := b 0 = 0 ∧ b 1 = 1 ∧ ∀ t, t < 514 → b t < 514 ∧ (2 ≤ t → yb (t - 2) = if b t = t then -1 else nI (b t))
def cr_cls (nc nl : Nat) (st : Nat → Nat) (cs ow sg pr a0 a1 ar : Nat → Int32) : Prop :=
  cd_wf nc nl st sg pr a0 a1 ar ∧ (∀ c, c ≤ nc → cs c = nI (st c)) ∧ cd_own nc nl st ow
def cr_fix (lh ph : Nat → Int32) : Prop :=
  (∀ a, a < 5 → lh (2 * a) = xt_in a 32 ∧ lh (2 * a + 1) = xt_in a 32 ^^^ (-1)) ∧ ph 0 = 0
/-- a buffer of n steps, with the binding b, checks as valid -/
def cr_ok (nc : Nat) (st : Nat → Nat) (sg pr a0 a1 K A B : Nat → Int32) (b : Nat → Nat) (n : Nat) : Prop :=
  ck_all nc st (cd_mk (st nc) sg) (cd_mk (st nc) pr) (cd_mk (st nc) a0) (cd_mk (st nc) a1) K A B b n = (0, -1)
def cr_buf (nc : Nat) (st : Nat → Nat) (sg pr a0 a1 : Nat → Int32) (sl : Int32) (ns bn : Nat) (xK xA xB bd yK yA yB yb : Nat → Int32) : Prop :=
  ns ≤ 256 ∧ bn ≤ 256 ∧
  ((sl = 0 ∧ bn = ns ∧ (∀ i, i < ns → yK i = xK i ∧ yA i = xA i ∧ yB i = xB i) ∧ ∃ b, cr_bx b bd ∧ cr_by b yb) ∨
   (sl = 1 ∧ (∃ b, cr_bx b bd ∧ cr_ok nc st sg pr a0 a1 xK xA xB b ns) ∧ (∃ b, cr_by b yb ∧ cr_ok nc st sg pr a0 a1 yK yA yB b bn)))
def cr_kx (nc : Nat) (st : Nat → Nat) (sg pr a0 a1 : Nat → Int32) (kc : Nat) (kK kA kB kI : Nat → Int32) : Prop :=
  ∃ q : Nat → Nat, kc ≤ 256 ∧ (∀ j, j < kc → ¬ kK j = 2 → q j < 32 ∧ kI j = nI (q j)) ∧
    ck_val nc st (cd_mk (st nc) sg) (cd_mk (st nc) pr) (cd_mk (st nc) a0) (cd_mk (st nc) a1) kK kA kB (fun j => q j / 2 % 2) (fun j => q j % 2) kc
def cr_ky (nc : Nat) (st : Nat → Nat) (sg pr a0 a1 : Nat → Int32) (kn : Nat) (kK kA kB kb : Nat → Int32) : Prop :=
  ∃ W0 W1 : Nat → Nat, kn ≤ 256 ∧ (∀ j, j < kn → ¬ kK j = 2 → W0 j < 2 ∧ W1 j < 2 ∧ kb (2 * j) = nI (W0 j) ∧ kb (2 * j + 1) = nI (W1 j)) ∧
    (∀ t, t < 512 → kb t = -1 ∨ kb t = 0 ∨ kb t = 1) ∧
    ck_val nc st (cd_mk (st nc) sg) (cd_mk (st nc) pr) (cd_mk (st nc) a0) (cd_mk (st nc) a1) kK kA kB W0 W1 kn
def cr_kept (nc : Nat) (st : Nat → Nat) (sg pr a0 a1 : Nat → Int32) (kp : Int32) (kc : Nat) (kK kA kB kI : Nat → Int32) (kn : Nat) (yK yA yB yb : Nat → Int32) : Prop :=
  kp = 0 ∨ (kp = 1 ∧ cr_kx nc st sg pr a0 a1 kc kK kA kB kI ∧ cr_ky nc st sg pr a0 a1 kn yK yA yB yb)
def cr_Q (nc nl : Nat) (st : Nat → Nat) (sl kp : Int32) (ns bn kc kn : Nat) (sg pr a0 a1 ar cs ow : Nat → Int32)
    (xK xA xB bd yK yA yB yb kK kA kB kI zK zA zB zb lh ph : Nat → Int32) : Prop :=
  cr_cls nc nl st cs ow sg pr a0 a1 ar ∧ cr_fix lh ph ∧ cr_buf nc st sg pr a0 a1 sl ns bn xK xA xB bd yK yA yB yb ∧
  cr_kept nc st sg pr a0 a1 kp kc kK kA kB kI kn zK zA zB zb
def i_Rel (_ : Nat) (u : SX) (v : SY) : Prop := ∃ (nc nl : Nat) (st : Nat → Nat) (sl kp ls : Int32) (ns bn kc kn : Nat) (sg pr a0 a1 ar cs ow : Nat → Int32)
    (xK xA xB bd yK yA yB yb kK kA kB kI zK zA zB zb lh ph : Nat → Int32) (x0 x1 x2 x3 y0 y1 y2 y3 : Int32) (X0 X1 X2 X3 X4 X5 X6 X7 X8 Y0 Y1 Y2 Y3 Y4 Y5 Y6 Y7 Y8 : Nat → Int32),
  u = (nI nl, nI nc, nI ns, sl, ls, nI kc, kp, x0, x1, x2, x3, sg, pr, a0, a1, cs, ar, xK, xA, xB, bd, kK, kA, kB, kI, X0, X1, X2, X3, ph, X4, X5, X6, lh, X7, X8) ∧
  v = (nI nc, nI nl, kp, nI kn, nI bn, sl, ls, y0, y1, y2, y3, sg, pr, a0, a1, ow, ar, zK, zA, zB, zb, yK, yA, yB, yb, Y0, Y1, Y2, Y3, Y4, Y5, Y6, Y7, Y8) ∧
  cr_Q nc nl st sl kp ns bn kc kn sg pr a0 a1 ar cs ow xK xA xB bd yK yA yB yb kK kA kB kI zK zA zB zb lh ph
theorem i_up {k : Nat} {u : SX} {v : SY} (h : i_Rel k u v) : i_Rel (k + 5) u v := h
theorem i_mk {k : Nat} {nc nl : Nat} {st : Nat → Nat} {sl kp ls : Int32} {ns bn kc kn : Nat} {sg pr a0 a1 ar cs ow xK xA xB bd yK yA yB yb kK kA kB kI zK zA zB zb lh ph : Nat → Int32} {x0 x1 x2 x3 y0 y1 y2 y3 : Int32} {X0 X1 X2 X3 X4 X5 X6 X7 X8 Y0 Y1 Y2 Y3 Y4 Y5 Y6 Y7 Y8 : Nat → Int32} (h : cr_Q nc nl st sl kp ns bn kc kn sg pr a0 a1 ar cs ow xK xA xB bd yK yA yB yb kK kA kB kI zK zA zB zb lh ph) :
    i_Rel k (nI nl, nI nc, nI ns, sl, ls, nI kc, kp, x0, x1, x2, x3, sg, pr, a0, a1, cs, ar, xK, xA, xB, bd, kK, kA, kB, kI, X0, X1, X2, X3, ph, X4, X5, X6, lh, X7, X8)
      (nI nc, nI nl, kp, nI kn, nI bn, sl, ls, y0, y1, y2, y3, sg, pr, a0, a1, ow, ar, zK, zA, zB, zb, yK, yA, yB, yb, Y0, Y1, Y2, Y3, Y4, Y5, Y6, Y7, Y8) :=
  ⟨nc, nl, st, sl, kp, ls, ns, bn, kc, kn, sg, pr, a0, a1, ar, cs, ow, xK, xA, xB, bd, yK, yA, yB, yb, kK, kA, kB, kI, zK, zA, zB, zb, lh, ph, x0, x1, x2, x3, y0, y1, y2, y3, X0, X1, X2, X3, X4, X5, X6, X7, X8, Y0, Y1, Y2, Y3, Y4, Y5, Y6, Y7, Y8, rfl, rfl, h⟩
end
section
/-! fills -/
def xe_fill (i : Nat) (a : Nat → Int32) : Nat → Int32 := fun j => if j < i then nI j else a j
def xe_m1 (i : Nat) (a : Nat → Int32) : Nat → Int32 := fun j => if j < i then -1 else a j
theorem xe_fill_0 (a : Nat → Int32) : a = xe_fill 0 a := by
  funext j; unfold xe_fill; rw [if_neg (Nat.not_lt_zero j)]
theorem xe_m1_0 (a : Nat → Int32) : a = xe_m1 0 a := by
  funext j; unfold xe_m1; rw [if_neg (Nat.not_lt_zero j)]
theorem xe_fill_s {i : Nat} {a : Nat → Int32} (h : i < 2 ^ 31) : upd (xe_fill i a) (nI i).toNatClampNeg (nI i) = xe_fill (i + 1) a := by
  rw [nI_clamp h]
  funext j
  unfold xe_fill upd
  dsimp only
  by_cases e : j = i
  · rw [if_pos e, if_pos (by omega), e]
  · rw [if_neg e]
    by_cases l : j < i
    · rw [if_pos l, if_pos (by omega)]
    · rw [if_neg l, if_neg (by omega)]
theorem xe_m1_s {i : Nat} {a : Nat → Int32} (h : i < 2 ^ 31) : upd (xe_m1 i a) (nI i).toNatClampNeg (-1) = xe_m1 (i + 1) a := by
  rw [nI_clamp h]
  funext j
  unfold xe_m1 upd
  dsimp only
  by_cases e : j = i
  · rw [if_pos e, if_pos (by omega)]
  · rw [if_neg e]
    by_cases l : j < i
    · rw [if_pos l, if_pos (by omega)]
    · rw [if_neg l, if_neg (by omega)]
section
variable {f_litCount f_clauseCount f_stepCount f_bufferSealed f_lastCheckStep f_keptCount f_proofKept f_openCount f_universeSize f_neededInstances f_givenLiterals : Int32} {a_litSign a_litPred a_litArg0 a_litArg1 a_clauseStart a_predArity a_stepKind a_stepA a_stepB a_binding a_keptKind a_keptA a_keptB a_keptInstance a_openCopy a_openLit a_parentCopy a_parentLit a_pathLength a_atomBase a_instanceLits a_instanceHolds a_literalHolds a_restInstances a_pathLiterals : Nat → Int32}
theorem xe_empty {post : SX → Prop} (h : post (f_litCount, f_clauseCount, 0, 0, f_lastCheckStep, f_keptCount, f_proofKept, f_openCount, f_universeSize, f_neededInstances, f_givenLiterals, a_litSign, a_litPred, a_litArg0, a_litArg1, a_clauseStart, a_predArity, a_stepKind, a_stepA, a_stepB, xe_fill 514 a_binding, a_keptKind, a_keptA, a_keptB, a_keptInstance, a_openCopy, a_openLit, a_parentCopy, a_parentLit, a_pathLength, a_atomBase, a_instanceLits, a_instanceHolds, a_literalHolds, a_restInstances, a_pathLiterals)) : wpX_emptyBuffer post (f_litCount, f_clauseCount, f_stepCount, f_bufferSealed, f_lastCheckStep, f_keptCount, f_proofKept, f_openCount, f_universeSize, f_neededInstances, f_givenLiterals, a_litSign, a_litPred, a_litArg0, a_litArg1, a_clauseStart, a_predArity, a_stepKind, a_stepA, a_stepB, a_binding, a_keptKind, a_keptA, a_keptB, a_keptInstance, a_openCopy, a_openLit, a_parentCopy, a_parentLit, a_pathLength, a_atomBase, a_instanceLits, a_instanceHolds, a_literalHolds, a_restInstances, a_pathLiterals) := by
  refine loop_0 (fun n i s => wX_emptyBuffer_12 post f_litCount f_clauseCount 0 0 f_lastCheckStep f_keptCount f_proofKept f_openCount f_universeSize f_neededInstances f_givenLiterals n (nI i) a_litSign a_litPred a_litArg0 a_litArg1 a_clauseStart a_predArity a_stepKind a_stepA a_stepB s a_keptKind a_keptA a_keptB a_keptInstance a_openCopy a_openLit a_parentCopy a_parentLit a_pathLength a_atomBase a_instanceLits a_instanceHolds a_literalHolds a_restInstances a_pathLiterals) (fun i s => s = xe_fill i a_binding) 514 a_binding (xe_fill_0 _) ?_ ?_
  · intro n s e
    subst e
    exact br_t (nI_le (a := 514) (b := 514) (Nat.le_refl _) (by decide)) h
  · intro n i s hi e ih
    subst e
    exact br_f (nI_ge (b := 514) hi (by decide)) ⟨vp_in_nI hi (by decide), nm_r (xe_fill_s (by omega)) (nm_r (nI_1 i) (ih _ rfl))⟩
theorem xe_remove {post : SX → Prop} (h : post (0, 0, f_stepCount, f_bufferSealed, f_lastCheckStep, f_keptCount, f_proofKept, f_openCount, f_universeSize, f_neededInstances, f_givenLiterals, a_litSign, a_litPred, a_litArg0, a_litArg1, a_clauseStart, xe_m1 4 a_predArity, a_stepKind, a_stepA, a_stepB, a_binding, a_keptKind, a_keptA, a_keptB, a_keptInstance, a_openCopy, a_openLit, a_parentCopy, a_parentLit, a_pathLength, a_atomBase, a_instanceLits, a_instanceHolds, a_literalHolds, a_restInstances, a_pathLiterals)) : wpX_removeClauses post (f_litCount, f_clauseCount, f_stepCount, f_bufferSealed, f_lastCheckStep, f_keptCount, f_proofKept, f_openCount, f_universeSize, f_neededInstances, f_givenLiterals, a_litSign, a_litPred, a_litArg0, a_litArg1, a_clauseStart, a_predArity, a_stepKind, a_stepA, a_stepB, a_binding, a_keptKind, a_keptA, a_keptB, a_keptInstance, a_openCopy, a_openLit, a_parentCopy, a_parentLit, a_pathLength, a_atomBase, a_instanceLits, a_instanceHolds, a_literalHolds, a_restInstances, a_pathLiterals) := by
  refine loop_0 (fun n i s => wX_removeClauses_12 post 0 0 f_stepCount f_bufferSealed f_lastCheckStep f_keptCount f_proofKept f_openCount f_universeSize f_neededInstances f_givenLiterals n (nI i) a_litSign a_litPred a_litArg0 a_litArg1 a_clauseStart s a_stepKind a_stepA a_stepB a_binding a_keptKind a_keptA a_keptB a_keptInstance a_openCopy a_openLit a_parentCopy a_parentLit a_pathLength a_atomBase a_instanceLits a_instanceHolds a_literalHolds a_restInstances a_pathLiterals) (fun i s => s = xe_m1 i a_predArity) 4 a_predArity (xe_m1_0 _) ?_ ?_
  · intro n s e
    subst e
    exact br_t (nI_le (a := 4) (b := 4) (Nat.le_refl _) (by decide)) h
  · intro n i s hi e ih
    subst e
    exact br_f (nI_ge (b := 4) hi (by decide)) ⟨vp_in_nI hi (by decide), nm_r (xe_m1_s (by omega)) (nm_r (nI_1 i) (ih _ rfl))⟩
theorem xe_forget {post : SX → Prop} (h0 : f_bufferSealed = 0 → post (f_litCount, f_clauseCount, f_stepCount, f_bufferSealed, f_lastCheckStep, f_keptCount, 0, f_openCount, f_universeSize, f_neededInstances, f_givenLiterals, a_litSign, a_litPred, a_litArg0, a_litArg1, a_clauseStart, a_predArity, a_stepKind, a_stepA, a_stepB, a_binding, a_keptKind, a_keptA, a_keptB, a_keptInstance, a_openCopy, a_openLit, a_parentCopy, a_parentLit, a_pathLength, a_atomBase, a_instanceLits, a_instanceHolds, a_literalHolds, a_restInstances, a_pathLiterals))
    (h1 : ¬ f_bufferSealed = 0 → post (f_litCount, f_clauseCount, 0, 0, f_lastCheckStep, f_keptCount, 0, f_openCount, f_universeSize, f_neededInstances, f_givenLiterals, a_litSign, a_litPred, a_litArg0, a_litArg1, a_clauseStart, a_predArity, a_stepKind, a_stepA, a_stepB, xe_fill 514 a_binding, a_keptKind, a_keptA, a_keptB, a_keptInstance, a_openCopy, a_openLit, a_parentCopy, a_parentLit, a_pathLength, a_atomBase, a_instanceLits, a_instanceHolds, a_literalHolds, a_restInstances, a_pathLiterals)) : wpX_forgetProofs post (f_litCount, f_clauseCount, f_stepCount, f_bufferSealed, f_lastCheckStep, f_keptCount, f_proofKept, f_openCount, f_universeSize, f_neededInstances, f_givenLiterals, a_litSign, a_litPred, a_litArg0, a_litArg1, a_clauseStart, a_predArity, a_stepKind, a_stepA, a_stepB, a_binding, a_keptKind, a_keptA, a_keptB, a_keptInstance, a_openCopy, a_openLit, a_parentCopy, a_parentLit, a_pathLength, a_atomBase, a_instanceLits, a_instanceHolds, a_literalHolds, a_restInstances, a_pathLiterals) := by
  refine br_c h0 (fun h => ?_)
  exact xe_empty (post := fun u => post u) (h1 h)
end
section
variable {f_clauseCount f_litCount f_kept f_kN f_bN f_sealed f_lastStep f_cNodes f_cSp f_pNodes f_pSp : Int32} {a_lSign a_lPred a_lA0 a_lA1 a_lOwner a_arity a_kKind a_kA a_kB a_kBind a_bKind a_bA a_bB a_bBind a_cCopy a_cLit a_cPar a_cStk a_cl a_gtab a_pLit a_pPar a_pStk : Nat → Int32}
theorem ye_clear {post : SY → Prop} (h : post (f_clauseCount, f_litCount, f_kept, f_kN, 0, 0, f_lastStep, f_cNodes, f_cSp, f_pNodes, f_pSp, a_lSign, a_lPred, a_lA0, a_lA1, a_lOwner, a_arity, a_kKind, a_kA, a_kB, a_kBind, a_bKind, a_bA, a_bB, xe_m1 512 a_bBind, a_cCopy, a_cLit, a_cPar, a_cStk, a_cl, a_gtab, a_pLit, a_pPar, a_pStk)) : wpY_clearProof post (f_clauseCount, f_litCount, f_kept, f_kN, f_bN, f_sealed, f_lastStep, f_cNodes, f_cSp, f_pNodes, f_pSp, a_lSign, a_lPred, a_lA0, a_lA1, a_lOwner, a_arity, a_kKind, a_kA, a_kB, a_kBind, a_bKind, a_bA, a_bB, a_bBind, a_cCopy, a_cLit, a_cPar, a_cStk, a_cl, a_gtab, a_pLit, a_pPar, a_pStk) := by
  refine loop_0 (fun n i s => wY_clearProof_7 post f_clauseCount f_litCount f_kept f_kN 0 f_sealed f_lastStep f_cNodes f_cSp f_pNodes f_pSp n (nI i) a_lSign a_lPred a_lA0 a_lA1 a_lOwner a_arity a_kKind a_kA a_kB a_kBind a_bKind a_bA a_bB s a_cCopy a_cLit a_cPar a_cStk a_cl a_gtab a_pLit a_pPar a_pStk) (fun i s => s = xe_m1 i a_bBind) 512 a_bBind (xe_m1_0 _) ?_ ?_
  · intro n s e
    subst e
    exact br_t (nI_le (a := 512) (b := 512) (Nat.le_refl _) (by decide)) h
  · intro n i s hi e ih
    subst e
    exact br_f (nI_ge (b := 512) hi (by decide)) ⟨vp_in_nI hi (by decide), nm_r (xe_m1_s (by omega)) (nm_r (nI_1 i) (ih _ rfl))⟩
theorem ye_clearCl {post : SY → Prop} (h0 : f_sealed = 0 → post (0, 0, 0, f_kN, f_bN, f_sealed, f_lastStep, f_cNodes, f_cSp, f_pNodes, f_pSp, a_lSign, a_lPred, a_lA0, a_lA1, a_lOwner, xe_m1 4 a_arity, a_kKind, a_kA, a_kB, a_kBind, a_bKind, a_bA, a_bB, a_bBind, a_cCopy, a_cLit, a_cPar, a_cStk, a_cl, a_gtab, a_pLit, a_pPar, a_pStk))
    (h1 : ¬ f_sealed = 0 → post (0, 0, 0, f_kN, 0, 0, f_lastStep, f_cNodes, f_cSp, f_pNodes, f_pSp, a_lSign, a_lPred, a_lA0, a_lA1, a_lOwner, xe_m1 4 a_arity, a_kKind, a_kA, a_kB, a_kBind, a_bKind, a_bA, a_bB, xe_m1 512 a_bBind, a_cCopy, a_cLit, a_cPar, a_cStk, a_cl, a_gtab, a_pLit, a_pPar, a_pStk)) : wpY_clearClauses post (f_clauseCount, f_litCount, f_kept, f_kN, f_bN, f_sealed, f_lastStep, f_cNodes, f_cSp, f_pNodes, f_pSp, a_lSign, a_lPred, a_lA0, a_lA1, a_lOwner, a_arity, a_kKind, a_kA, a_kB, a_kBind, a_bKind, a_bA, a_bB, a_bBind, a_cCopy, a_cLit, a_cPar, a_cStk, a_cl, a_gtab, a_pLit, a_pPar, a_pStk) := by
  refine loop_0 (fun n i s => wY_clearClauses_12 post 0 0 f_kept f_kN f_bN f_sealed f_lastStep f_cNodes f_cSp f_pNodes f_pSp n (nI i) a_lSign a_lPred a_lA0 a_lA1 a_lOwner s a_kKind a_kA a_kB a_kBind a_bKind a_bA a_bB a_bBind a_cCopy a_cLit a_cPar a_cStk a_cl a_gtab a_pLit a_pPar a_pStk) (fun i s => s = xe_m1 i a_arity) 4 a_arity (xe_m1_0 _) ?_ ?_
  · intro n s e
    subst e
    refine br_t (nI_le (a := 4) (b := 4) (Nat.le_refl _) (by decide)) (br_c h0 (fun h => ?_))
    exact ye_clear (post := fun u => post u) (h1 h)
  · intro n i s hi e ih
    subst e
    exact br_f (nI_ge (b := 4) hi (by decide)) ⟨vp_in_nI hi (by decide), nm_r (xe_m1_s (by omega)) (nm_r (nI_1 i) (ih _ rfl))⟩
end
/-! the emptied buffer -/
theorem cr_bx_id (a : Nat → Int32) : cr_bx (fun t => t) (xe_fill 514 a) :=
  ⟨rfl, rfl, fun t ht => ⟨ht, if_pos ht⟩⟩
theorem cr_by_id (a : Nat → Int32) : cr_by (fun t => t) (xe_m1 512 a) := by
  refine ⟨rfl, rfl, fun t ht => ⟨ht, fun h2 => ?_⟩⟩
  show xe_m1 512 a (t - 2) = if t = t then -1 else nI t
  rw [if_pos rfl]
  exact if_pos (by omega)
theorem cr_buf_0 {nc : Nat} {st : Nat → Nat} {sg pr a0 a1 xK xA xB bd yK yA yB yb : Nat → Int32} :
    cr_buf nc st sg pr a0 a1 0 0 0 xK xA xB (xe_fill 514 bd) yK yA yB (xe_m1 512 yb) :=
  ⟨by omega, by omega, Or.inl ⟨rfl, rfl, fun i hi => absurd hi (Nat.not_lt_zero i), _, cr_bx_id bd, cr_by_id yb⟩⟩
/-- an unsealed buffer doesn't depend on the clauses -/
theorem cr_buf_u {nc nc' : Nat} {st st' : Nat → Nat} {sg pr a0 a1 sg' pr' a0' a1' xK xA xB bd yK yA yB yb : Nat → Int32} {ns bn : Nat}
    (h : cr_buf nc st sg pr a0 a1 0 ns bn xK xA xB bd yK yA yB yb) : cr_buf nc' st' sg' pr' a0' a1' 0 ns bn xK xA xB bd yK yA yB yb := by
  obtain ⟨h1, h2, h3 | h3⟩ := h
  · exact ⟨h1, h2, Or.inl h3⟩
  · exact absurd h3.1 (by decide)
theorem cr_sl {nc : Nat} {st : Nat → Nat} {sg pr a0 a1 : Nat → Int32} {sl : Int32} {ns bn : Nat} {xK xA xB bd yK yA yB yb : Nat → Int32}
    (h : cr_buf nc st sg pr a0 a1 sl ns bn xK xA xB bd yK yA yB yb) : sl = 0 ∨ sl = 1 := by
  obtain ⟨_, _, h | h⟩ := h
  · exact Or.inl h.1
  · exact Or.inr h.1
theorem cr_kp {nc : Nat} {st : Nat → Nat} {sg pr a0 a1 : Nat → Int32} {kp : Int32} {kc kn : Nat} {kK kA kB kI yK yA yB yb : Nat → Int32}
    (h : cr_kept nc st sg pr a0 a1 kp kc kK kA kB kI kn yK yA yB yb) : kp = 0 ∨ kp = 1 := by
  rcases h with h | h
  · exact Or.inl h
  · exact Or.inr h.1
theorem cr_bool {x : Int32} (h : x = 0 ∨ x = 1) : narrow .boolean (.int x) = .int x := by
  rcases h with e | e <;> rw [e] <;> rfl
/-! calls that read a field -/
theorem i_vc_getClauseCount {k : Nat} {u : SX} {v : SY} (I : i_Rel k u v) (hk : k + 5 ≤ 2560) : wpX_getClauseCount (fun r => wpY_getClauseCount (fun r' => r' = r ∧ i_Rel (k + 5) u v) v) u := by
  obtain ⟨nc, nl, st, sl, kp, ls, ns, bn, kc, kn, sg, pr, a0, a1, ar, cs, ow, xK, xA, xB, bd, yK, yA, yB, yb, kK, kA, kB, kI, zK, zA, zB, zb, lh, ph, x0, x1, x2, x3, y0, y1, y2, y3, X0, X1, X2, X3, X4, X5, X6, X7, X8, Y0, Y1, Y2, Y3, Y4, Y5, Y6, Y7, Y8, rfl, rfl, h⟩ := I
  exact ⟨rfl, i_mk h⟩
theorem i_vc_hasProof {k : Nat} {u : SX} {v : SY} (I : i_Rel k u v) (hk : k + 5 ≤ 2560) : wpX_hasProof (fun r => wpY_hasProof (fun r' => r' = r ∧ i_Rel (k + 5) u v) v) u := by
  obtain ⟨nc, nl, st, sl, kp, ls, ns, bn, kc, kn, sg, pr, a0, a1, ar, cs, ow, xK, xA, xB, bd, yK, yA, yB, yb, kK, kA, kB, kI, zK, zA, zB, zb, lh, ph, x0, x1, x2, x3, y0, y1, y2, y3, X0, X1, X2, X3, X4, X5, X6, X7, X8, Y0, Y1, Y2, Y3, Y4, Y5, Y6, Y7, Y8, rfl, rfl, h⟩ := I
  have hb := cr_bool (cr_kp h.2.2.2)
  exact ⟨hb, hb, rfl, i_mk h⟩
theorem i_vc_isSealed {k : Nat} {u : SX} {v : SY} (I : i_Rel k u v) (hk : k + 5 ≤ 2560) : wpX_isSealed (fun r => wpY_isSealed (fun r' => r' = r ∧ i_Rel (k + 5) u v) v) u := by
  obtain ⟨nc, nl, st, sl, kp, ls, ns, bn, kc, kn, sg, pr, a0, a1, ar, cs, ow, xK, xA, xB, bd, yK, yA, yB, yb, kK, kA, kB, kI, zK, zA, zB, zb, lh, ph, x0, x1, x2, x3, y0, y1, y2, y3, X0, X1, X2, X3, X4, X5, X6, X7, X8, Y0, Y1, Y2, Y3, Y4, Y5, Y6, Y7, Y8, rfl, rfl, h⟩ := I
  have hb := cr_bool (cr_sl h.2.2.1)
  exact ⟨hb, hb, rfl, i_mk h⟩
theorem i_vc_getCheckStep {k : Nat} {u : SX} {v : SY} (I : i_Rel k u v) (hk : k + 5 ≤ 2560) : wpX_getCheckStep (fun r => wpY_getCheckStep (fun r' => r' = r ∧ i_Rel (k + 5) u v) v) u := by
  obtain ⟨nc, nl, st, sl, kp, ls, ns, bn, kc, kn, sg, pr, a0, a1, ar, cs, ow, xK, xA, xB, bd, yK, yA, yB, yb, kK, kA, kB, kI, zK, zA, zB, zb, lh, ph, x0, x1, x2, x3, y0, y1, y2, y3, X0, X1, X2, X3, X4, X5, X6, X7, X8, Y0, Y1, Y2, Y3, Y4, Y5, Y6, Y7, Y8, rfl, rfl, h⟩ := I
  exact ⟨rfl, i_mk h⟩
theorem i_vc_clearProof {k : Nat} {u : SX} {v : SY} (I : i_Rel k u v) (hk : k + 5 ≤ 2560) : wpX_clearProof (fun u' => wpY_clearProof (fun v' => i_Rel (k + 5) u' v') v) u := by
  obtain ⟨nc, nl, st, sl, kp, ls, ns, bn, kc, kn, sg, pr, a0, a1, ar, cs, ow, xK, xA, xB, bd, yK, yA, yB, yb, kK, kA, kB, kI, zK, zA, zB, zb, lh, ph, x0, x1, x2, x3, y0, y1, y2, y3, X0, X1, X2, X3, X4, X5, X6, X7, X8, Y0, Y1, Y2, Y3, Y4, Y5, Y6, Y7, Y8, rfl, rfl, h⟩ := I
  obtain ⟨h1, h2, h3, h4⟩ := h
  unfold wpX_clearProof
  dsimp only
  refine xe_empty (post := fun u' => wpY_clearProof (fun v' => i_Rel (k + 5) u' v') (nI nc, nI nl, kp, nI kn, nI bn, sl, ls, y0, y1, y2, y3, sg, pr, a0, a1, ow, ar, zK, zA, zB, zb, yK, yA, yB, yb, Y0, Y1, Y2, Y3, Y4, Y5, Y6, Y7, Y8)) ?_
  refine ye_clear ?_
  exact i_mk (ns := 0) (bn := 0) ⟨h1, h2, cr_buf_0, h4⟩
theorem i_vc_clearClauses {k : Nat} {u : SX} {v : SY} (I : i_Rel k u v) (hk : k + 5 ≤ 2560) : wpX_clearClauses (fun u' => wpY_clearClauses (fun v' => i_Rel (k + 5) u' v') v) u := by
  obtain ⟨nc, nl, st, sl, kp, ls, ns, bn, kc, kn, sg, pr, a0, a1, ar, cs, ow, xK, xA, xB, bd, yK, yA, yB, yb, kK, kA, kB, kI, zK, zA, zB, zb, lh, ph, x0, x1, x2, x3, y0, y1, y2, y3, X0, X1, X2, X3, X4, X5, X6, X7, X8, Y0, Y1, Y2, Y3, Y4, Y5, Y6, Y7, Y8, rfl, rfl, h⟩ := I
  obtain ⟨⟨hw, hcs, how⟩, h2, h3, h4⟩ := h
  have hsl := cr_sl h3
  have hwf : cr_cls 0 0 (fun _ => 0) (fun c => cs 0) ow sg pr a0 a1 (xe_m1 4 ar) := by
    have e0 : cs 0 = nI 0 := by rw [hcs 0 (Nat.zero_le _), hw.2.2.1]
    refine ⟨⟨Nat.zero_le _, Nat.zero_le _, rfl, fun c hc => absurd hc (Nat.not_lt_zero c), Nat.zero_le _, Nat.zero_le _, fun j hj => absurd hj (Nat.not_lt_zero j), fun p hp => Or.inl (if_pos hp)⟩, fun c hc => e0, fun j hj => absurd hj (Nat.not_lt_zero j)⟩
  have hwf' : cr_cls 0 0 (fun _ => 0) cs ow sg pr a0 a1 (xe_m1 4 ar) := by
    refine ⟨hwf.1, fun c hc => ?_, hwf.2.2⟩
    have : c = 0 := by omega
    rw [this]
    exact hwf.2.1 0 (Nat.le_refl 0)
  unfold wpX_clearClauses
  dsimp only
  refine xe_remove (post := fun u => wpX_forgetProofs (fun u' => wpY_clearClauses (fun v' => i_Rel (k + 5) u' v') (nI nc, nI nl, kp, nI kn, nI bn, sl, ls, y0, y1, y2, y3, sg, pr, a0, a1, ow, ar, zK, zA, zB, zb, yK, yA, yB, yb, Y0, Y1, Y2, Y3, Y4, Y5, Y6, Y7, Y8)) u) ?_
  rcases hsl with rfl | rfl
  · refine xe_forget (fun _ => ?_) (fun e => absurd rfl e)
    refine ye_clearCl (fun _ => ?_) (fun e => absurd rfl e)
    exact i_mk (nl := 0) (nc := 0) (st := fun _ => 0) ⟨hwf', h2, cr_buf_u h3, Or.inl rfl⟩
  · refine xe_forget (fun e => absurd e (by decide)) (fun _ => ?_)
    refine ye_clearCl (fun e => absurd e (by decide)) (fun _ => ?_)
    exact i_mk (nl := 0) (nc := 0) (st := fun _ => 0) (ns := 0) (bn := 0) ⟨hwf', h2, cr_buf_0, Or.inl rfl⟩
end
section
/-! Y's two scans of the owners -/
section
variable {f_clauseCount f_litCount f_kept f_kN f_bN f_sealed f_lastStep f_cNodes f_cSp f_pNodes f_pSp : Int32} {a_lSign a_lPred a_lA0 a_lA1 a_lOwner a_arity a_kKind a_kA a_kB a_kBind a_bKind a_bA a_bB a_bBind a_cCopy a_cLit a_cPar a_cStk a_cl a_gtab a_pLit a_pPar a_pStk : Nat → Int32}
theorem yl_lenOf {post : Int32 → Prop} {nc nl : Nat} {st : Nat → Nat} {sg pr a0 a1 ar : Nat → Int32} (hw : cd_wf nc nl st sg pr a0 a1 ar) (ho : cd_own nc nl st a_lOwner)
    {c : Nat} (hc : c ≤ nc) (h : post (nI (cd_en nc nl st c - st c))) : wpY_lenOf post (f_clauseCount, nI nl, f_kept, f_kN, f_bN, f_sealed, f_lastStep, f_cNodes, f_cSp, f_pNodes, f_pSp, a_lSign, a_lPred, a_lA0, a_lA1, a_lOwner, a_arity, a_kKind, a_kA, a_kB, a_kBind, a_bKind, a_bA, a_bB, a_bBind, a_cCopy, a_cLit, a_cPar, a_cStk, a_cl, a_gtab, a_pLit, a_pPar, a_pStk) (nI c) := by
  obtain ⟨b1, b2, b3⟩ := cd_en_bd hw hc
  have hnl := hw.2.1
  have key : ∀ d j : Nat, j + d = nl → wY_lenOf_4 post (nI c) f_clauseCount (nI nl) f_kept f_kN f_bN f_sealed f_lastStep f_cNodes f_cSp f_pNodes f_pSp a_lSign a_lPred a_lA0 a_lA1 a_lOwner a_arity a_kKind a_kA a_kB a_kBind a_bKind a_bA a_bB a_bBind a_cCopy a_cLit a_cPar a_cStk a_cl a_gtab a_pLit a_pPar a_pStk (d + 1) (nI (min j (cd_en nc nl st c) - st c)) (nI j) := by
    intro d
    induction d with
    | zero =>
      intro j hj
      have e : min j (cd_en nc nl st c) - st c = cd_en nc nl st c - st c := by omega
      rw [e]
      exact br_t (nI_le (by omega) (by omega)) h
    | succ d ih =>
      intro j hj
      have hj2 : j < nl := by omega
      refine br_f (nI_ge hj2 (by omega)) ⟨vp_in_nI (by omega) (by decide), ?_⟩
      rw [nI_clamp (show j < 2 ^ 31 by omega)]
      refine ek_if (cd_own_iff hw ho hj2 hc) (fun z => ?_) (fun z => ?_)
      · have e : min j (cd_en nc nl st c) - st c + 1 = min (j + 1) (cd_en nc nl st c) - st c := by omega
        refine nm_r (nI_1 _) (nm_r (nI_1 _) ?_)
        rw [e]
        exact ih (j + 1) (by omega)
      · have e : min j (cd_en nc nl st c) - st c = min (j + 1) (cd_en nc nl st c) - st c := by omega
        refine nm_r (nI_1 _) ?_
        rw [e]
        exact ih (j + 1) (by omega)
  have e : min 0 (cd_en nc nl st c) - st c = 0 := by omega
  have := key nl 0 (by omega)
  rw [e] at this
  exact ⟨_, this⟩
theorem yl_nth {post : Int32 → Prop} {nc nl : Nat} {st : Nat → Nat} {sg pr a0 a1 ar : Nat → Int32} (hw : cd_wf nc nl st sg pr a0 a1 ar) (ho : cd_own nc nl st a_lOwner)
    {c i : Nat} (hc : c ≤ nc) (hi : i < cd_en nc nl st c - st c) (h : post (nI (st c + i))) : wpY_nthLit post (f_clauseCount, nI nl, f_kept, f_kN, f_bN, f_sealed, f_lastStep, f_cNodes, f_cSp, f_pNodes, f_pSp, a_lSign, a_lPred, a_lA0, a_lA1, a_lOwner, a_arity, a_kKind, a_kA, a_kB, a_kBind, a_bKind, a_bA, a_bB, a_bBind, a_cCopy, a_cLit, a_cPar, a_cStk, a_cl, a_gtab, a_pLit, a_pPar, a_pStk) (nI c) (nI i) := by
  obtain ⟨b1, b2, b3⟩ := cd_en_bd hw hc
  have hnl := hw.2.1
  have key : ∀ d j : Nat, j + d = st c + i → wY_nthLit_5 post (nI c) (nI i) f_clauseCount (nI nl) f_kept f_kN f_bN f_sealed f_lastStep f_cNodes f_cSp f_pNodes f_pSp a_lSign a_lPred a_lA0 a_lA1 a_lOwner a_arity a_kKind a_kA a_kB a_kBind a_bKind a_bA a_bB a_bBind a_cCopy a_cLit a_cPar a_cStk a_cl a_gtab a_pLit a_pPar a_pStk (d + 1) (nI (j - st c)) (nI j) := by
    intro d
    induction d with
    | zero =>
      intro j hj
      refine br_f (nI_ge (show j < nl by omega) (by omega)) ⟨vp_in_nI (by omega) (by decide), ?_⟩
      rw [nI_clamp (show j < 2 ^ 31 by omega)]
      have e1 : j - st c = i := by omega
      have e2 : j = st c + i := by omega
      refine br_t ((cd_own_iff hw ho (by omega) hc).mpr ⟨by omega, by omega⟩) (br_t (by rw [e1]) ?_)
      rw [e2]
      exact h
    | succ d ih =>
      intro j hj
      refine br_f (nI_ge (show j < nl by omega) (by omega)) ⟨vp_in_nI (by omega) (by decide), ?_⟩
      rw [nI_clamp (show j < 2 ^ 31 by omega)]
      refine ek_if (cd_own_iff hw ho (by omega) hc) (fun z => ?_) (fun z => ?_)
      · refine br_f (fun e => ?_) ?_
        · rw [nI_eq (by omega) (by omega)] at e
          omega
        · have e : j - st c + 1 = j + 1 - st c := by omega
          refine nm_r (nI_1 _) (nm_r (nI_1 _) ?_)
          rw [e]
          exact ih (j + 1) (by omega)
      · have e : j - st c = j + 1 - st c := by omega
        refine nm_r (nI_1 _) ?_
        rw [e]
        exact ih (j + 1) (by omega)
  have e : 0 - st c = 0 := by omega
  have := key (st c + i) 0 (by omega)
  rw [e] at this
  exact ⟨_, this⟩
theorem yl_nth_no {post : Int32 → Prop} {nc nl : Nat} {st : Nat → Nat} {sg pr a0 a1 ar : Nat → Int32} (hw : cd_wf nc nl st sg pr a0 a1 ar) (ho : cd_own nc nl st a_lOwner)
    {c : Nat} {i : Int32} (hc : c ≤ nc) (hi : ∀ n, n < cd_en nc nl st c - st c → ¬ nI n = i) (h : post (-1)) : wpY_nthLit post (f_clauseCount, nI nl, f_kept, f_kN, f_bN, f_sealed, f_lastStep, f_cNodes, f_cSp, f_pNodes, f_pSp, a_lSign, a_lPred, a_lA0, a_lA1, a_lOwner, a_arity, a_kKind, a_kA, a_kB, a_kBind, a_bKind, a_bA, a_bB, a_bBind, a_cCopy, a_cLit, a_cPar, a_cStk, a_cl, a_gtab, a_pLit, a_pPar, a_pStk) (nI c) i := by
  obtain ⟨b1, b2, b3⟩ := cd_en_bd hw hc
  have hnl := hw.2.1
  have key : ∀ d j : Nat, j + d = nl → wY_nthLit_5 post (nI c) i f_clauseCount (nI nl) f_kept f_kN f_bN f_sealed f_lastStep f_cNodes f_cSp f_pNodes f_pSp a_lSign a_lPred a_lA0 a_lA1 a_lOwner a_arity a_kKind a_kA a_kB a_kBind a_bKind a_bA a_bB a_bBind a_cCopy a_cLit a_cPar a_cStk a_cl a_gtab a_pLit a_pPar a_pStk (d + 1) (nI (min j (cd_en nc nl st c) - st c)) (nI j) := by
    intro d
    induction d with
    | zero =>
      intro j hj
      exact br_t (nI_le (by omega) (by omega)) h
    | succ d ih =>
      intro j hj
      have hj2 : j < nl := by omega
      refine br_f (nI_ge hj2 (by omega)) ⟨vp_in_nI (by omega) (by decide), ?_⟩
      rw [nI_clamp (show j < 2 ^ 31 by omega)]
      refine ek_if (cd_own_iff hw ho hj2 hc) (fun z => ?_) (fun z => ?_)
      · have e : min j (cd_en nc nl st c) - st c + 1 = min (j + 1) (cd_en nc nl st c) - st c := by omega
        refine br_f (hi _ (by omega)) (nm_r (nI_1 _) (nm_r (nI_1 _) ?_))
        rw [e]
        exact ih (j + 1) (by omega)
      · have e : min j (cd_en nc nl st c) - st c = min (j + 1) (cd_en nc nl st c) - st c := by omega
        refine nm_r (nI_1 _) ?_
        rw [e]
        exact ih (j + 1) (by omega)
  have e : min 0 (cd_en nc nl st c) - st c = 0 := by omega
  have := key nl 0 (by omega)
  rw [e] at this
  exact ⟨_, this⟩
end
/-! X's length -/
section
variable {f_litCount f_clauseCount f_stepCount f_bufferSealed f_lastCheckStep f_keptCount f_proofKept f_openCount f_universeSize f_neededInstances f_givenLiterals : Int32} {a_litSign a_litPred a_litArg0 a_litArg1 a_clauseStart a_predArity a_stepKind a_stepA a_stepB a_binding a_keptKind a_keptA a_keptB a_keptInstance a_openCopy a_openLit a_parentCopy a_parentLit a_pathLength a_atomBase a_instanceLits a_instanceHolds a_literalHolds a_restInstances a_pathLiterals : Nat → Int32}
theorem xl_len {post : Int32 → Prop} {nc nl : Nat} {st : Nat → Nat} {sg pr a0 a1 ar : Nat → Int32} (hw : cd_wf nc nl st sg pr a0 a1 ar) (hcs : ∀ c, c ≤ nc → a_clauseStart c = nI (st c))
    {c : Nat} (hc : c ≤ nc) (h : post (nI (cd_en nc nl st c - st c))) : wpX_getClauseLength post (nI nl, nI nc, f_stepCount, f_bufferSealed, f_lastCheckStep, f_keptCount, f_proofKept, f_openCount, f_universeSize, f_neededInstances, f_givenLiterals, a_litSign, a_litPred, a_litArg0, a_litArg1, a_clauseStart, a_predArity, a_stepKind, a_stepA, a_stepB, a_binding, a_keptKind, a_keptA, a_keptB, a_keptInstance, a_openCopy, a_openLit, a_parentCopy, a_parentLit, a_pathLength, a_atomBase, a_instanceLits, a_instanceHolds, a_literalHolds, a_restInstances, a_pathLiterals) (nI c) := by
  obtain ⟨b1, b2, b3⟩ := cd_en_bd hw hc
  have hnc := hw.1
  have hnl := hw.2.1
  refine br_f (nI_pos (by omega)) (br_t (nI_le hc (by omega)) ?_)
  refine pk_eq c nc (fun e => ?_) (fun e => ?_)
  · refine ⟨vp_in_nI (by omega) (by decide), ?_⟩
    rw [nI_clamp (show c < 2 ^ 31 by omega), hcs c hc]
    rw [e, cd_en_nc] at h
    rw [e] at b1 ⊢
    rw [cd_en_nc] at b1
    rw [pk_sub b1]
    exact h
  · have hlt : c < nc := by omega
    refine ⟨?_, vp_in_nI (by omega) (by decide), ?_⟩
    · rw [nI_1]
      exact vp_in_nI (by omega) (by decide)
    · rw [nI_1, nI_clamp (show c + 1 < 2 ^ 31 by omega), nI_clamp (show c < 2 ^ 31 by omega), hcs c hc, hcs (c + 1) hlt]
      rw [cd_en_lt hlt] at b1 h
      rw [pk_sub b1]
      exact h
theorem xl_len_no {post : Int32 → Prop} {nc : Nat} (hnc : nc ≤ 8) {x : Int32} (hx : x < 0 ∨ ¬ x ≤ nI nc) (h : post (-1)) : wpX_getClauseLength post (f_litCount, nI nc, f_stepCount, f_bufferSealed, f_lastCheckStep, f_keptCount, f_proofKept, f_openCount, f_universeSize, f_neededInstances, f_givenLiterals, a_litSign, a_litPred, a_litArg0, a_litArg1, a_clauseStart, a_predArity, a_stepKind, a_stepA, a_stepB, a_binding, a_keptKind, a_keptA, a_keptB, a_keptInstance, a_openCopy, a_openLit, a_parentCopy, a_parentLit, a_pathLength, a_atomBase, a_instanceLits, a_instanceHolds, a_literalHolds, a_restInstances, a_pathLiterals) x := by
  by_cases h0 : x < 0
  · exact br_t h0 h
  · exact br_f h0 (br_f (hx.elim (fun z => absurd z h0) (fun z => z)) h)
end
theorem cd_cases (x : Int32) (nc : Nat) (hnc : nc ≤ 8) : (x < 0 ∨ ¬ x ≤ nI nc) ∨ ∃ c, c ≤ nc ∧ x = nI c := by
  rcases pk_ix x (n := nc + 1) (by omega) with h | h | ⟨j, hj, e⟩
  · exact Or.inl (Or.inl h)
  · by_cases h0 : x < 0
    · exact Or.inl (Or.inl h0)
    · obtain ⟨j, hj, e⟩ := nI_of h0
      refine Or.inl (Or.inr ?_)
      rw [e, nI_leI (by omega) hj] at h
      rw [e, nI_leI hj (by omega)]
      omega
  · exact Or.inr ⟨j, by omega, e⟩
theorem i_vc_getClauseLength {k : Nat} {u : SX} {v : SY} (I : i_Rel k u v) (hk : k + 5 ≤ 2560) (v1 : Int32) : wpX_getClauseLength (fun r => wpY_getClauseLength (fun r' => r' = r ∧ i_Rel (k + 5) u v) v v1) u v1 := by
  obtain ⟨nc, nl, st, sl, kp, ls, ns, bn, kc, kn, sg, pr, a0, a1, ar, cs, ow, xK, xA, xB, bd, yK, yA, yB, yb, kK, kA, kB, kI, zK, zA, zB, zb, lh, ph, x0, x1, x2, x3, y0, y1, y2, y3, X0, X1, X2, X3, X4, X5, X6, X7, X8, Y0, Y1, Y2, Y3, Y4, Y5, Y6, Y7, Y8, rfl, rfl, h⟩ := I
  obtain ⟨hw, hcs, how⟩ := h.1
  have hnc := hw.1
  rcases cd_cases v1 nc hnc with hx | ⟨c, hc, rfl⟩
  · refine xl_len_no hnc hx ?_
    by_cases h0 : v1 < 0
    · exact br_t h0 ⟨rfl, i_mk h⟩
    · exact br_f h0 (br_f (hx.elim (fun z => absurd z h0) (fun z => z)) ⟨rfl, i_mk h⟩)
  · refine xl_len hw hcs hc ?_
    refine br_f (nI_pos (by omega)) (br_t (nI_le hc (by omega)) ?_)
    exact yl_lenOf (post := fun r_3 => r_3 = nI (cd_en nc nl st c - st c) ∧ i_Rel (k + 5) (nI nl, nI nc, nI ns, sl, ls, nI kc, kp, x0, x1, x2, x3, sg, pr, a0, a1, cs, ar, xK, xA, xB, bd, kK, kA, kB, kI, X0, X1, X2, X3, ph, X4, X5, X6, lh, X7, X8) (nI nc, nI nl, kp, nI kn, nI bn, sl, ls, y0, y1, y2, y3, sg, pr, a0, a1, ow, ar, zK, zA, zB, zb, yK, yA, yB, yb, Y0, Y1, Y2, Y3, Y4, Y5, Y6, Y7, Y8)) hw how hc ⟨rfl, i_mk h⟩
theorem i_vc_getLiteral {k : Nat} {u : SX} {v : SY} (I : i_Rel k u v) (hk : k + 5 ≤ 2560) (v1 : Int32) (v2 : Int32) : wpX_getLiteral (fun r => wpY_getLiteral (fun r' => r' = r ∧ i_Rel (k + 5) u v) v v1 v2) u v1 v2 := by
  obtain ⟨nc, nl, st, sl, kp, ls, ns, bn, kc, kn, sg, pr, a0, a1, ar, cs, ow, xK, xA, xB, bd, yK, yA, yB, yb, kK, kA, kB, kI, zK, zA, zB, zb, lh, ph, x0, x1, x2, x3, y0, y1, y2, y3, X0, X1, X2, X3, X4, X5, X6, X7, X8, Y0, Y1, Y2, Y3, Y4, Y5, Y6, Y7, Y8, rfl, rfl, h⟩ := I
  obtain ⟨hw, hcs, how⟩ := id h.1
  have hnc := hw.1
  have hnl := hw.2.1
  have R : i_Rel (k + 5) (nI nl, nI nc, nI ns, sl, ls, nI kc, kp, x0, x1, x2, x3, sg, pr, a0, a1, cs, ar, xK, xA, xB, bd, kK, kA, kB, kI, X0, X1, X2, X3, ph, X4, X5, X6, lh, X7, X8) (nI nc, nI nl, kp, nI kn, nI bn, sl, ls, y0, y1, y2, y3, sg, pr, a0, a1, ow, ar, zK, zA, zB, zb, yK, yA, yB, yb, Y0, Y1, Y2, Y3, Y4, Y5, Y6, Y7, Y8) := i_mk h
  -- what the reference answers where there is no such literal
  have noY : ∀ r : Int32, r = -1 → (∀ c, c ≤ nc → v1 = nI c → ∀ n, n < cd_en nc nl st c - st c → ¬ nI n = v2) → wpY_getLiteral (fun r' => r' = r ∧ i_Rel (k + 5) (nI nl, nI nc, nI ns, sl, ls, nI kc, kp, x0, x1, x2, x3, sg, pr, a0, a1, cs, ar, xK, xA, xB, bd, kK, kA, kB, kI, X0, X1, X2, X3, ph, X4, X5, X6, lh, X7, X8) (nI nc, nI nl, kp, nI kn, nI bn, sl, ls, y0, y1, y2, y3, sg, pr, a0, a1, ow, ar, zK, zA, zB, zb, yK, yA, yB, yb, Y0, Y1, Y2, Y3, Y4, Y5, Y6, Y7, Y8)) (nI nc, nI nl, kp, nI kn, nI bn, sl, ls, y0, y1, y2, y3, sg, pr, a0, a1, ow, ar, zK, zA, zB, zb, yK, yA, yB, yb, Y0, Y1, Y2, Y3, Y4, Y5, Y6, Y7, Y8) v1 v2 := by
    intro r er hno
    subst er
    rcases cd_cases v1 nc hnc with hx | ⟨c, hc, rfl⟩
    · by_cases h0 : v1 < 0
      · exact br_t h0 ⟨rfl, R⟩
      · exact br_f h0 (br_f (hx.elim (fun z => absurd z h0) (fun z => z)) ⟨rfl, R⟩)
    · refine br_f (nI_pos (by omega)) (br_t (nI_le hc (by omega)) ?_)
      refine yl_nth_no hw how hc (hno c hc rfl) ?_
      exact br_f (by decide) ⟨rfl, R⟩
  by_cases hv2 : v2 < 0
  · refine br_t hv2 (noY _ rfl (fun c hc e n hn e2 => ?_))
    rw [← e2] at hv2
    obtain ⟨_, b2, _⟩ := cd_en_bd hw hc
    exact nI_pos (by omega) hv2
  · refine br_f hv2 ?_
    obtain ⟨i, hi, rfl⟩ := nI_of hv2
    rcases cd_cases v1 nc hnc with hx | ⟨c, hc, rfl⟩
    · refine xl_len_no hnc hx ?_
      refine br_f ?_ (noY _ rfl (fun c hc e => ?_))
      · intro z
        rw [Int32.lt_iff_toInt_lt, nI_toInt hi] at z
        have : (-1 : Int32).toInt = -1 := by decide
        omega
      · exfalso
        rw [e] at hx
        rcases hx with hx | hx
        · exact nI_pos (by omega) hx
        · exact hx (nI_le hc (by omega))
    · obtain ⟨b1, b2, b3⟩ := cd_en_bd hw hc
      refine xl_len hw hcs hc ?_
      refine pk_lt i (cd_en nc nl st c - st c) (fun hlt => ?_) (fun hge => ?_)
      · refine ⟨vp_in_nI (by omega) (by decide), ?_⟩
        rw [nI_clamp (show c < 2 ^ 31 by omega), hcs c hc]
        refine nm_r (nI_add _ _) ?_
        have hin : vp_in (nI (st c + i)) 16 := vp_in_nI (by omega) (by decide)
        rw [nI_clamp (show st c + i < 2 ^ 31 by omega)]
        refine ⟨hin, hin, hin, hin, ?_⟩
        refine br_f (nI_pos (by omega)) (br_t (nI_le hc (by omega)) ?_)
        refine yl_nth hw how hc hlt ?_
        refine br_t (nI_pos' (by omega)) ⟨hin, hin, hin, hin, ?_, R⟩
        rw [nI_clamp (show st c + i < 2 ^ 31 by omega)]
        exact (Int32.add_assoc _ _ _).symm
      · refine noY _ rfl (fun c' hc' e n hn e2 => ?_)
        rw [nI_eq (by omega) (by omega)] at e
        subst e
        rw [nI_eq (by omega) hi] at e2
        omega
end
section
/-! endClause -/
def cd_put (st : Nat → Nat) (k v : Nat) : Nat → Nat := fun c => if c = k then v else st c
theorem cd_put_s {st : Nat → Nat} {k v : Nat} : cd_put st k v k = v := if_pos rfl
theorem cd_put_n {st : Nat → Nat} {k v c : Nat} (h : c ≠ k) : cd_put st k v c = st c := if_neg h
theorem cr_cls_end {nc nl : Nat} {st : Nat → Nat} {cs ow sg pr a0 a1 ar : Nat → Int32} (h : cr_cls nc nl st cs ow sg pr a0 a1 ar) (hc : nc < 8) :
    cr_cls (nc + 1) nl (cd_put st (nc + 1) nl) (upd cs (nc + 1) (nI nl)) ow sg pr a0 a1 ar := by
  obtain ⟨hw, hcs, how⟩ := h
  obtain ⟨h1, h2, h3, h4, h5, h6, h7, h8⟩ := id hw
  have en_eq : ∀ c, c ≤ nc → cd_en (nc + 1) nl (cd_put st (nc + 1) nl) c = cd_en nc nl st c := by
    intro c hcc
    rw [cd_en_lt (by omega)]
    by_cases e : c = nc
    · rw [e, cd_put_s, cd_en_nc]
    · rw [cd_put_n (by omega), cd_en_lt (by omega)]
  refine ⟨⟨by omega, h2, ?_, fun c hcc => ?_, ?_, ?_, h7, h8⟩, fun c hcc => ?_, fun j hj => ?_⟩
  · rw [cd_put_n (by omega)]
    exact h3
  · by_cases e : c = nc
    · rw [e, cd_put_s, cd_put_n (by omega)]
      exact ⟨h5, h6⟩
    · rw [cd_put_n (by omega), cd_put_n (by omega)]
      exact h4 c (by omega)
  · rw [cd_put_s]
    exact Nat.le_refl _
  · rw [cd_put_s]
    omega
  · by_cases e : c = nc + 1
    · rw [e, cd_put_s]
      exact pk_us
    · rw [cd_put_n e, pk_un e]
      exact hcs c (by omega)
  · obtain ⟨c, hcn, eo, e1, e2⟩ := how j hj
    refine ⟨c, by omega, eo, ?_, ?_⟩
    · rw [cd_put_n (by omega)]
      exact e1
    · rw [en_eq c hcn]
      exact e2
theorem i_vc_endClause {k : Nat} {u : SX} {v : SY} (I : i_Rel k u v) (hk : k + 5 ≤ 2560) : wpX_endClause (fun r u' => wpY_endClause (fun r' v' => r' = r ∧ i_Rel (k + 5) u' v') v) u := by
  obtain ⟨nc, nl, st, sl, kp, ls, ns, bn, kc, kn, sg, pr, a0, a1, ar, cs, ow, xK, xA, xB, bd, yK, yA, yB, yb, kK, kA, kB, kI, zK, zA, zB, zb, lh, ph, x0, x1, x2, x3, y0, y1, y2, y3, X0, X1, X2, X3, X4, X5, X6, X7, X8, Y0, Y1, Y2, Y3, Y4, Y5, Y6, Y7, Y8, rfl, rfl, h⟩ := I
  obtain ⟨h1, h2, h3, h4⟩ := id h
  have hnc := h1.1.1
  by_cases hc : nc < 8
  · refine br_t (nI_lt (b := 8) hc (by decide)) ?_
    refine nm_r (nI_1 nc) ⟨vp_in_nI (by omega) (by decide), ?_⟩
    rw [nI_clamp (show nc + 1 < 2 ^ 31 by omega)]
    refine nm_e ?_
    have hn8 : ¬ nI nc = 8 := by
      intro e
      rw [show (8 : Int32) = nI 8 from rfl, nI_eq (by omega) (by omega)] at e
      omega
    have hcl := cr_cls_end h1 hc
    rcases cr_sl h3 with rfl | rfl
    · refine xe_forget (fun _ => ?_) (fun e => absurd rfl e)
      refine br_f hn8 (nm_r (nI_1 nc) (br_t rfl ⟨rfl, ?_⟩))
      exact i_mk (nc := nc + 1) ⟨hcl, h2, cr_buf_u h3, Or.inl rfl⟩
    · refine xe_forget (fun e => absurd e (by decide)) (fun _ => ?_)
      refine br_f hn8 (nm_r (nI_1 nc) (br_f (by decide) ?_))
      refine ye_clear ⟨rfl, ?_⟩
      exact i_mk (nc := nc + 1) (ns := 0) (bn := 0) ⟨hcl, h2, cr_buf_0, Or.inl rfl⟩
  · have e8 : nc = 8 := by omega
    subst e8
    exact br_f (nI_nlt (b := 8) (a := 8) (Nat.le_refl _) (by decide)) (br_t rfl ⟨rfl, i_mk h⟩)
/-! addLiteral -/
def cd_args (v1 v2 v3 v4 : Int32) : Prop := (v1 = 0 ∨ v1 = 1) ∧ (∃ p, p < 4 ∧ v2 = nI p) ∧ cd_at v3 ∧ cd_at v4 ∧ (v3 = -1 → v4 = -1)
theorem cd_at_of {x : Int32} (h1 : ¬ x < -1) (h2 : ¬ 3 < x) : cd_at x := by
  by_cases e : x = -1
  · exact Or.inl e
  · rw [Int32.lt_iff_toInt_lt, show (-1 : Int32).toInt = -1 from by decide] at h1
    rw [Int32.lt_iff_toInt_lt, show (3 : Int32).toInt = 3 from by decide] at h2
    have hne : ¬ x.toInt = -1 := fun z => e (Int32.toInt_inj.mp (z.trans (by decide)))
    have h0 : ¬ x < 0 := by
      rw [Int32.lt_iff_toInt_lt, show (0 : Int32).toInt = 0 from by decide]
      omega
    obtain ⟨j, hj, ej⟩ := nI_of h0
    rw [ej, nI_toInt hj] at h2
    exact Or.inr ⟨j, by omega, ej⟩
theorem cd_01 {x : Int32} (h1 : ¬ x < 0) (h2 : ¬ 1 < x) : x = 0 ∨ x = 1 := by
  obtain ⟨j, hj, e⟩ := nI_of h1
  rw [Int32.lt_iff_toInt_lt, show (1 : Int32).toInt = 1 from by decide, e, nI_toInt hj] at h2
  have : j = 0 ∨ j = 1 := by omega
  rcases this with z | z <;> rw [e, z]
  · exact Or.inl rfl
  · exact Or.inr rfl
theorem cd_04 {x : Int32} (h1 : ¬ x < 0) (h2 : x < 4) : ∃ p, p < 4 ∧ x = nI p := by
  obtain ⟨j, hj, e⟩ := nI_of h1
  rw [Int32.lt_iff_toInt_lt, show (4 : Int32).toInt = 4 from by decide, e, nI_toInt hj] at h2
  exact ⟨j, by omega, e⟩
section
variable {f_litCount f_clauseCount f_stepCount f_bufferSealed f_lastCheckStep f_keptCount f_proofKept f_openCount f_universeSize f_neededInstances f_givenLiterals : Int32} {a_litSign a_litPred a_litArg0 a_litArg1 a_clauseStart a_predArity a_stepKind a_stepA a_stepB a_binding a_keptKind a_keptA a_keptB a_keptInstance a_openCopy a_openLit a_parentCopy a_parentLit a_pathLength a_atomBase a_instanceLits a_instanceHolds a_literalHolds a_restInstances a_pathLiterals : Nat → Int32}
theorem xa_add {post : Int32 → SX → Prop} {v1 v2 v3 v4 : Int32} (hb : ¬ cd_args v1 v2 v3 v4 → post (-1) (f_litCount, f_clauseCount, f_stepCount, f_bufferSealed, f_lastCheckStep, f_keptCount, f_proofKept, f_openCount, f_universeSize, f_neededInstances, f_givenLiterals, a_litSign, a_litPred, a_litArg0, a_litArg1, a_clauseStart, a_predArity, a_stepKind, a_stepA, a_stepB, a_binding, a_keptKind, a_keptA, a_keptB, a_keptInstance, a_openCopy, a_openLit, a_parentCopy, a_parentLit, a_pathLength, a_atomBase, a_instanceLits, a_instanceHolds, a_literalHolds, a_restInstances, a_pathLiterals)) (hg : cd_args v1 v2 v3 v4 → wX_addLiteral_57 post v1 v2 v3 v4 f_litCount f_clauseCount f_stepCount f_bufferSealed f_lastCheckStep f_keptCount f_proofKept f_openCount f_universeSize f_neededInstances f_givenLiterals a_litSign a_litPred a_litArg0 a_litArg1 a_clauseStart a_predArity a_stepKind a_stepA a_stepB a_binding a_keptKind a_keptA a_keptB a_keptInstance a_openCopy a_openLit a_parentCopy a_parentLit a_pathLength a_atomBase a_instanceLits a_instanceHolds a_literalHolds a_restInstances a_pathLiterals) :
    wpX_addLiteral post (f_litCount, f_clauseCount, f_stepCount, f_bufferSealed, f_lastCheckStep, f_keptCount, f_proofKept, f_openCount, f_universeSize, f_neededInstances, f_givenLiterals, a_litSign, a_litPred, a_litArg0, a_litArg1, a_clauseStart, a_predArity, a_stepKind, a_stepA, a_stepB, a_binding, a_keptKind, a_keptA, a_keptB, a_keptInstance, a_openCopy, a_openLit, a_parentCopy, a_parentLit, a_pathLength, a_atomBase, a_instanceLits, a_instanceHolds, a_literalHolds, a_restInstances, a_pathLiterals) v1 v2 v3 v4 := by
  refine br_c (fun h => hb (fun z => ?_)) (fun h1 => br_c (fun h => hb (fun z => ?_)) (fun h2 => br_c (fun h => hb (fun z => ?_)) (fun h3 => br_c (fun h4 => br_c (fun h => hb (fun z => ?_)) (fun h5 => br_c (fun h => hb (fun z => ?_)) (fun h6 =>
    br_c (fun h => hb (fun z => ?_)) (fun h7 => br_c (fun h8 => br_c (fun h9 => br_c (fun h10 => hg ?_) (fun h => hb (fun z => ?_))) (fun h9 => hg ?_)) (fun h => hb (fun z => ?_)))))) (fun h => hb (fun z => ?_)))))
  · rcases z.1 with e | e <;> rw [e] at h <;> exact absurd h (by decide)
  · rcases z.1 with e | e <;> rw [e] at h <;> exact absurd h (by decide)
  · obtain ⟨p, hp, e⟩ := z.2.1
    rw [e] at h
    exact nI_pos (by omega) h
  · rcases z.2.2.1 with e | ⟨t, ht, e⟩ <;> rw [e] at h
    · exact absurd h (by decide)
    · rw [Int32.lt_iff_toInt_lt, show (-1 : Int32).toInt = -1 from by decide, nI_toInt (by omega)] at h
      omega
  · rcases z.2.2.1 with e | ⟨t, ht, e⟩ <;> rw [e] at h
    · exact absurd h (by decide)
    · rw [Int32.lt_iff_toInt_lt, show (3 : Int32).toInt = 3 from by decide, nI_toInt (by omega)] at h
      omega
  · rcases z.2.2.2.1 with e | ⟨t, ht, e⟩ <;> rw [e] at h
    · exact absurd h (by decide)
    · rw [Int32.lt_iff_toInt_lt, show (-1 : Int32).toInt = -1 from by decide, nI_toInt (by omega)] at h
      omega
  · exact ⟨cd_01 h1 h2, cd_04 h3 h4, cd_at_of h5 h6, Or.inl h10, fun _ => h10⟩
  · exact h (z.2.2.2.2 h9)
  · exact ⟨cd_01 h1 h2, cd_04 h3 h4, cd_at_of h5 h6, cd_at_of h7 (Int32.not_lt.mpr h8), fun e => absurd e h9⟩
  · rcases z.2.2.2.1 with e | ⟨t, ht, e⟩ <;> rw [e] at h
    · exact absurd (by decide) h
    · exact h (nI_le (b := 3) (by omega) (by decide))
  · obtain ⟨p, hp, e⟩ := z.2.1
    rw [e] at h
    exact h (nI_lt (b := 4) hp (by decide))
theorem xa_arity {post : Int32 → Prop} {x y : Int32} (h : post (nI (ck_ar x y))) : wpX_arityOf post (f_litCount, f_clauseCount, f_stepCount, f_bufferSealed, f_lastCheckStep, f_keptCount, f_proofKept, f_openCount, f_universeSize, f_neededInstances, f_givenLiterals, a_litSign, a_litPred, a_litArg0, a_litArg1, a_clauseStart, a_predArity, a_stepKind, a_stepA, a_stepB, a_binding, a_keptKind, a_keptA, a_keptB, a_keptInstance, a_openCopy, a_openLit, a_parentCopy, a_parentLit, a_pathLength, a_atomBase, a_instanceLits, a_instanceHolds, a_literalHolds, a_restInstances, a_pathLiterals) x y := by
  unfold ck_ar at h
  refine br_c (fun e => ?_) (fun e => br_c (fun e2 => ?_) (fun e2 => ?_))
  · rw [if_pos e] at h
    exact h
  · rw [if_neg e, if_pos e2] at h
    exact h
  · rw [if_neg e, if_neg e2] at h
    exact h
end
section
variable {f_clauseCount f_litCount f_kept f_kN f_bN f_sealed f_lastStep f_cNodes f_cSp f_pNodes f_pSp : Int32} {a_lSign a_lPred a_lA0 a_lA1 a_lOwner a_arity a_kKind a_kA a_kB a_kBind a_bKind a_bA a_bB a_bBind a_cCopy a_cLit a_cPar a_cStk a_cl a_gtab a_pLit a_pPar a_pStk : Nat → Int32}
theorem ya_add {post : Int32 → SY → Prop} {v1 v2 v3 v4 : Int32} (hb : ¬ cd_args v1 v2 v3 v4 → post (-1) (f_clauseCount, f_litCount, f_kept, f_kN, f_bN, f_sealed, f_lastStep, f_cNodes, f_cSp, f_pNodes, f_pSp, a_lSign, a_lPred, a_lA0, a_lA1, a_lOwner, a_arity, a_kKind, a_kA, a_kB, a_kBind, a_bKind, a_bA, a_bB, a_bBind, a_cCopy, a_cLit, a_cPar, a_cStk, a_cl, a_gtab, a_pLit, a_pPar, a_pStk)) (hg : cd_args v1 v2 v3 v4 → wY_addLiteral_57 post v1 v2 v3 v4 f_clauseCount f_litCount f_kept f_kN f_bN f_sealed f_lastStep f_cNodes f_cSp f_pNodes f_pSp a_lSign a_lPred a_lA0 a_lA1 a_lOwner a_arity a_kKind a_kA a_kB a_kBind a_bKind a_bA a_bB a_bBind a_cCopy a_cLit a_cPar a_cStk a_cl a_gtab a_pLit a_pPar a_pStk) :
    wpY_addLiteral post (f_clauseCount, f_litCount, f_kept, f_kN, f_bN, f_sealed, f_lastStep, f_cNodes, f_cSp, f_pNodes, f_pSp, a_lSign, a_lPred, a_lA0, a_lA1, a_lOwner, a_arity, a_kKind, a_kA, a_kB, a_kBind, a_bKind, a_bA, a_bB, a_bBind, a_cCopy, a_cLit, a_cPar, a_cStk, a_cl, a_gtab, a_pLit, a_pPar, a_pStk) v1 v2 v3 v4 := by
  refine br_c (fun h => hb (fun z => ?_)) (fun h1 => br_c (fun h2 => br_c (fun h => hb (fun z => ?_)) (fun h3 => br_c (fun h4 => br_c (fun h => hb (fun z => ?_)) (fun h5 => br_c (fun h => hb (fun z => ?_)) (fun h6 =>
    br_c (fun h => hb (fun z => ?_)) (fun h7 => br_c (fun h => hb (fun z => ?_)) (fun h8 => br_c (fun h9 => br_c (fun h10 => hg ?_) (fun h => hb (fun z => ?_))) (fun h9 => hg ?_)))))) (fun h => hb (fun z => ?_)))) (fun h => hb (fun z => ?_)))
  · rcases z.1 with e | e <;> rw [e] at h <;> exact absurd h (by decide)
  · obtain ⟨p, hp, e⟩ := z.2.1
    rw [e] at h
    exact nI_pos (by omega) h
  · rcases z.2.2.1 with e | ⟨t, ht, e⟩ <;> rw [e] at h
    · exact absurd h (by decide)
    · rw [Int32.lt_iff_toInt_lt, show (-1 : Int32).toInt = -1 from by decide, nI_toInt (by omega)] at h
      omega
  · rcases z.2.2.1 with e | ⟨t, ht, e⟩ <;> rw [e] at h
    · exact absurd h (by decide)
    · rw [Int32.lt_iff_toInt_lt, show (3 : Int32).toInt = 3 from by decide, nI_toInt (by omega)] at h
      omega
  · rcases z.2.2.2.1 with e | ⟨t, ht, e⟩ <;> rw [e] at h
    · exact absurd h (by decide)
    · rw [Int32.lt_iff_toInt_lt, show (-1 : Int32).toInt = -1 from by decide, nI_toInt (by omega)] at h
      omega
  · rcases z.2.2.2.1 with e | ⟨t, ht, e⟩ <;> rw [e] at h
    · exact absurd h (by decide)
    · rw [Int32.lt_iff_toInt_lt, show (3 : Int32).toInt = 3 from by decide, nI_toInt (by omega)] at h
      omega
  · exact ⟨cd_01 h1 (Int32.not_lt.mpr h2), cd_04 h3 (Int32.lt_of_le_of_lt h4 (by decide)), cd_at_of h5 h6, Or.inl h10, fun _ => h10⟩
  · exact h (z.2.2.2.2 h9)
  · exact ⟨cd_01 h1 (Int32.not_lt.mpr h2), cd_04 h3 (Int32.lt_of_le_of_lt h4 (by decide)), cd_at_of h5 h6, cd_at_of h7 h8, fun e => absurd e h9⟩
  · obtain ⟨p, hp, e⟩ := z.2.1
    rw [e] at h
    exact h (nI_le (b := 3) (by omega) (by decide))
  · rcases z.1 with e | e <;> rw [e] at h <;> exact absurd (by decide) h
theorem ya_arity {post : Int32 → SY → Prop} {x1 x2 x3 x4 : Int32} (h : wY_addLiteral_116 post x1 x2 x3 x4 (nI (ck_ar x3 x4)) f_clauseCount f_litCount f_kept f_kN f_bN f_sealed f_lastStep f_cNodes f_cSp f_pNodes f_pSp a_lSign a_lPred a_lA0 a_lA1 a_lOwner a_arity a_kKind a_kA a_kB a_kBind a_bKind a_bA a_bB a_bBind a_cCopy a_cLit a_cPar a_cStk a_cl a_gtab a_pLit a_pPar a_pStk) :
    ((x3 = (-1) → (wY_addLiteral_116 post x1 x2 x3 x4 0 f_clauseCount f_litCount f_kept f_kN f_bN f_sealed f_lastStep f_cNodes f_cSp f_pNodes f_pSp a_lSign a_lPred a_lA0 a_lA1 a_lOwner a_arity a_kKind a_kA a_kB a_kBind a_bKind a_bA a_bB a_bBind a_cCopy a_cLit a_cPar a_cStk a_cl a_gtab a_pLit a_pPar a_pStk)) ∧ (¬ x3 = (-1) → (((x4 = (-1) → (wY_addLiteral_116 post x1 x2 x3 x4 1 f_clauseCount f_litCount f_kept f_kN f_bN f_sealed f_lastStep f_cNodes f_cSp f_pNodes f_pSp a_lSign a_lPred a_lA0 a_lA1 a_lOwner a_arity a_kKind a_kA a_kB a_kBind a_bKind a_bA a_bB a_bBind a_cCopy a_cLit a_cPar a_cStk a_cl a_gtab a_pLit a_pPar a_pStk)) ∧ (¬ x4 = (-1) → (wY_addLiteral_116 post x1 x2 x3 x4 2 f_clauseCount f_litCount f_kept f_kN f_bN f_sealed f_lastStep f_cNodes f_cSp f_pNodes f_pSp a_lSign a_lPred a_lA0 a_lA1 a_lOwner a_arity a_kKind a_kA a_kB a_kBind a_bKind a_bA a_bB a_bBind a_cCopy a_cLit a_cPar a_cStk a_cl a_gtab a_pLit a_pPar a_pStk)))))) := by
  unfold ck_ar at h
  refine br_c (fun e => ?_) (fun e => br_c (fun e2 => ?_) (fun e2 => ?_))
  · rw [if_pos e] at h
    exact h
  · rw [if_neg e, if_pos e2] at h
    exact h
  · rw [if_neg e, if_neg e2] at h
    exact h
end
theorem cr_cls_add {nc nl : Nat} {st : Nat → Nat} {cs ow sg pr a0 a1 ar : Nat → Int32} (h : cr_cls nc nl st cs ow sg pr a0 a1 ar) {v1 v3 v4 : Int32} {p : Nat}
    (hz : cd_args v1 (nI p) v3 v4) (hp : p < 4) (hc : nc < 8) (h3 : nl < st nc + 3) (h16 : nl < 16) (har : ar p = -1 ∨ ar p = nI (ck_ar v3 v4)) :
    cr_cls nc (nl + 1) st cs (upd ow nl (nI nc)) (upd sg nl v1) (upd pr nl (nI p)) (upd a0 nl v3) (upd a1 nl v4) (upd ar p (nI (ck_ar v3 v4))) := by
  obtain ⟨hw, hcs, how⟩ := h
  obtain ⟨w1, w2, w3, w4, w5, w6, w7, w8⟩ := id hw
  obtain ⟨z1, _, z3, z4, z5⟩ := hz
  have hk : ∀ x y : Int32, nI (ck_ar x y) = 0 ∨ nI (ck_ar x y) = 1 ∨ nI (ck_ar x y) = 2 := by
    intro x y
    unfold ck_ar
    by_cases e : x = -1
    · rw [if_pos e]; exact Or.inl rfl
    · rw [if_neg e]
      by_cases e2 : y = -1
      · rw [if_pos e2]; exact Or.inr (Or.inl rfl)
      · rw [if_neg e2]; exact Or.inr (Or.inr rfl)
  refine ⟨⟨w1, by omega, w3, w4, by omega, by omega, fun j hj => ?_, fun q hq => ?_⟩, hcs, fun j hj => ?_⟩
  · by_cases e : j = nl
    · subst e
      unfold cd_lit
      rw [pk_us, pk_us, pk_us, pk_us]
      exact ⟨z1, ⟨p, hp, rfl, pk_us⟩, z3, z4, z5⟩
    · obtain ⟨l1, ⟨q, hq, eq, eq2⟩, l3, l4, l5⟩ := w7 j (by omega)
      unfold cd_lit
      rw [pk_un e, pk_un e, pk_un e, pk_un e]
      refine ⟨l1, ⟨q, hq, eq, ?_⟩, l3, l4, l5⟩
      by_cases eqp : q = p
      · subst eqp
        rw [pk_us]
        rcases har with har | har
        · exfalso
          rw [har] at eq2
          rcases hk (a0 j) (a1 j) with z | z | z <;> rw [z] at eq2 <;> exact absurd eq2 (by decide)
        · rw [← har]
          exact eq2
      · rw [pk_un eqp]
        exact eq2
  · by_cases e : q = p
    · subst e
      rw [pk_us]
      exact Or.inr (hk v3 v4)
    · rw [pk_un e]
      exact w8 q hq
  · by_cases e : j = nl
    · subst e
      refine ⟨nc, Nat.le_refl _, pk_us, w5, ?_⟩
      rw [cd_en_nc]
      omega
    · obtain ⟨c, hcn, eo, e1, e2⟩ := how j (by omega)
      refine ⟨c, hcn, ?_, e1, ?_⟩
      · rw [pk_un e]
        exact eo
      · by_cases ec : c = nc
        · rw [ec, cd_en_nc]
          omega
        · rw [cd_en_lt (by omega)] at e2 ⊢
          exact e2
theorem cr_buf_add {nc nl : Nat} {st : Nat → Nat} {sg pr a0 a1 : Nat → Int32} {v1 v2 v3 v4 : Int32} {sl : Int32} {ns bn : Nat} {xK xA xB bd yK yA yB yb : Nat → Int32} (hM : st nc ≤ nl)
    (h : cr_buf nc st sg pr a0 a1 sl ns bn xK xA xB bd yK yA yB yb) : cr_buf nc st (upd sg nl v1) (upd pr nl v2) (upd a0 nl v3) (upd a1 nl v4) sl ns bn xK xA xB bd yK yA yB yb := by
  unfold cr_buf cr_ok at h ⊢
  rw [cd_mk_upd hM, cd_mk_upd hM, cd_mk_upd hM, cd_mk_upd hM]
  exact h
theorem cr_kept_add {nc nl : Nat} {st : Nat → Nat} {sg pr a0 a1 : Nat → Int32} {v1 v2 v3 v4 : Int32} {kp : Int32} {kc kn : Nat} {kK kA kB kI yK yA yB yb : Nat → Int32} (hM : st nc ≤ nl)
    (h : cr_kept nc st sg pr a0 a1 kp kc kK kA kB kI kn yK yA yB yb) : cr_kept nc st (upd sg nl v1) (upd pr nl v2) (upd a0 nl v3) (upd a1 nl v4) kp kc kK kA kB kI kn yK yA yB yb := by
  unfold cr_kept cr_kx cr_ky at h ⊢
  rw [cd_mk_upd hM, cd_mk_upd hM, cd_mk_upd hM, cd_mk_upd hM]
  exact h
theorem i_vc_addLiteral {k : Nat} {u : SX} {v : SY} (I : i_Rel k u v) (hk : k + 5 ≤ 2560) (v1 : Int32) (v2 : Int32) (v3 : Int32) (v4 : Int32) : wpX_addLiteral (fun r u' => wpY_addLiteral (fun r' v' => r' = r ∧ i_Rel (k + 5) u' v') v v1 v2 v3 v4) u v1 v2 v3 v4 := by
  obtain ⟨nc, nl, st, sl, kp, ls, ns, bn, kc, kn, sg, pr, a0, a1, ar, cs, ow, xK, xA, xB, bd, yK, yA, yB, yb, kK, kA, kB, kI, zK, zA, zB, zb, lh, ph, x0, x1, x2, x3, y0, y1, y2, y3, X0, X1, X2, X3, X4, X5, X6, X7, X8, Y0, Y1, Y2, Y3, Y4, Y5, Y6, Y7, Y8, rfl, rfl, h⟩ := I
  obtain ⟨h1, h2, h3, h4⟩ := id h
  obtain ⟨hw, hcs, how⟩ := id h1
  obtain ⟨w1, w2, w3, w4, w5, w6, w7, w8⟩ := id hw
  have R : i_Rel (k + 5) (nI nl, nI nc, nI ns, sl, ls, nI kc, kp, x0, x1, x2, x3, sg, pr, a0, a1, cs, ar, xK, xA, xB, bd, kK, kA, kB, kI, X0, X1, X2, X3, ph, X4, X5, X6, lh, X7, X8) (nI nc, nI nl, kp, nI kn, nI bn, sl, ls, y0, y1, y2, y3, sg, pr, a0, a1, ow, ar, zK, zA, zB, zb, yK, yA, yB, yb, Y0, Y1, Y2, Y3, Y4, Y5, Y6, Y7, Y8) := i_mk h
  refine xa_add (fun hz => ya_add (fun _ => ⟨rfl, R⟩) (fun z => absurd z hz)) (fun hz => ?_)
  have Yg : ∀ {post : Int32 → SY → Prop}, wY_addLiteral_57 post v1 v2 v3 v4 (nI nc) (nI nl) kp (nI kn) (nI bn) sl ls y0 y1 y2 y3 sg pr a0 a1 ow ar zK zA zB zb yK yA yB yb Y0 Y1 Y2 Y3 Y4 Y5 Y6 Y7 Y8 → wpY_addLiteral post (nI nc, nI nl, kp, nI kn, nI bn, sl, ls, y0, y1, y2, y3, sg, pr, a0, a1, ow, ar, zK, zA, zB, zb, yK, yA, yB, yb, Y0, Y1, Y2, Y3, Y4, Y5, Y6, Y7, Y8) v1 v2 v3 v4 := fun hh => ya_add (fun z => absurd hz z) (fun _ => hh)
  by_cases hc : nc < 8
  · have hn8 : ¬ nI nc = 8 := by
      intro e
      rw [show (8 : Int32) = nI 8 from rfl, nI_eq (by omega) (by omega)] at e
      omega
    refine br_t (nI_lt (b := 8) hc (by decide)) ⟨vp_in_nI (by omega) (by decide), ?_⟩
    rw [nI_clamp (show nc < 2 ^ 31 by omega), hcs nc (Nat.le_refl _), pk_sub w5]
    refine pk_le 3 (nl - st nc) (fun e3 => ?_) (fun e3 => ?_)
    · refine Yg (br_f hn8 ?_)
      refine yl_lenOf hw how (Nat.le_refl _) ?_
      rw [cd_en_nc]
      have : nl - st nc = 3 := by omega
      rw [this]
      exact br_t rfl ⟨rfl, R⟩
    · have hn3 : ¬ nI (cd_en nc nl st nc - st nc) = 3 := by
        rw [cd_en_nc]
        intro e
        rw [show (3 : Int32) = nI 3 from rfl, nI_eq (by omega) (by omega)] at e
        omega
      refine pk_lt nl 16 (fun e16 => ?_) (fun e16 => ?_)
      · have hn16 : ¬ nI nl = 16 := by
          intro e
          rw [show (16 : Int32) = nI 16 from rfl, nI_eq (by omega) (by omega)] at e
          omega
        obtain ⟨p, hp, ep⟩ := hz.2.1
        subst ep
        have hin : vp_in (nI p) 4 := vp_in_nI hp (by decide)
        have hil : vp_in (nI nl) 16 := vp_in_nI e16 (by decide)
        have cp : (nI p).toNatClampNeg = p := nI_clamp (by omega)
        have cl : (nI nl).toNatClampNeg = nl := nI_clamp (by omega)
        -- both sides where the arity is as it should be
        have good : (ar p = -1 ∨ ar p = nI (ck_ar v3 v4)) → wX_addLiteral_132 (fun r u' => wpY_addLiteral (fun r' v' => r' = r ∧ i_Rel (k + 5) u' v') (nI nc, nI nl, kp, nI kn, nI bn, sl, ls, y0, y1, y2, y3, sg, pr, a0, a1, ow, ar, zK, zA, zB, zb, yK, yA, yB, yb, Y0, Y1, Y2, Y3, Y4, Y5, Y6, Y7, Y8) v1 (nI p) v3 v4) v1 (nI p) v3 v4 (nI (ck_ar v3 v4)) (nI nl) (nI nc) (nI ns) sl ls (nI kc) kp x0 x1 x2 x3 sg pr a0 a1 cs ar xK xA xB bd kK kA kB kI X0 X1 X2 X3 ph X4 X5 X6 lh X7 X8 := by
          intro har
          have hcl := cr_cls_add h1 hz hp hc (by omega) e16 har
          unfold wX_addLiteral_132
          rw [cp, cl]
          refine ⟨hin, nm_e ⟨hil, nm_e ⟨hil, nm_e ⟨hil, nm_e ⟨hil, nm_e (nm_r (nI_1 nl) ?_)⟩⟩⟩⟩⟩
          refine Yg (br_f hn8 ?_)
          refine yl_lenOf hw how (Nat.le_refl _) (br_f hn3 (br_f hn16 (ya_arity ⟨hin, ?_⟩)))
          rw [cp]
          have fin : wY_addLiteral_141 (fun r' v' => r' = 0 ∧ i_Rel (k + 5) (nI (nl + 1), nI nc, nI ns, sl, ls, nI kc, kp, x0, x1, x2, x3, upd sg nl v1, upd pr nl (nI p), upd a0 nl v3, upd a1 nl v4, cs, upd ar p (nI (ck_ar v3 v4)), xK, xA, xB, bd, kK, kA, kB, kI, X0, X1, X2, X3, ph, X4, X5, X6, lh, X7, X8) v') v1 (nI p) v3 v4 (nI (ck_ar v3 v4)) (nI nc) (nI nl) kp (nI kn) (nI bn) sl ls y0 y1 y2 y3 sg pr a0 a1 ow ar zK zA zB zb yK yA yB yb Y0 Y1 Y2 Y3 Y4 Y5 Y6 Y7 Y8 := by
            unfold wY_addLiteral_141
            rw [cp, cl]
            refine ⟨hin, nm_e ⟨hil, nm_e ⟨hil, nm_e ⟨hil, nm_e ⟨hil, nm_e ⟨hil, nm_e (nm_r (nI_1 nl) ⟨rfl, ?_⟩)⟩⟩⟩⟩⟩⟩
            exact i_mk (nl := nl + 1) ⟨hcl, h2, cr_buf_add w5 h3, cr_kept_add w5 h4⟩
          by_cases neg : ar p < 0
          · exact br_t neg fin
          · refine br_f neg ⟨hin, br_t ?_ fin⟩
            rcases har with har | har
            · rw [har] at neg
              exact absurd (by decide) neg
            · exact har
        refine xa_arity ⟨hin, ?_⟩
        rw [cp]
        refine br_c (fun e => good (Or.inl e)) (fun e => ⟨hin, br_c (fun e2 => good (Or.inr e2)) (fun e2 => ?_)⟩)
        refine Yg (br_f hn8 ?_)
        refine yl_lenOf hw how (Nat.le_refl _) (br_f hn3 (br_f hn16 (ya_arity ⟨hin, ?_⟩)))
        rw [cp]
        refine br_f ?_ ⟨hin, br_f e2 ⟨rfl, R⟩⟩
        rcases w8 p hp with z | z | z | z
        · exact absurd z e
        · rw [z]; decide
        · rw [z]; decide
        · rw [z]; decide
      · have e : nl = 16 := by omega
        refine Yg (br_f hn8 ?_)
        refine yl_lenOf hw how (Nat.le_refl _) (br_f hn3 (br_t ?_ ⟨rfl, R⟩))
        rw [e]
        rfl
  · have e8 : nc = 8 := by omega
    subst e8
    exact br_f (nI_nlt (b := 8) (a := 8) (Nat.le_refl _) (by decide)) (Yg (br_t rfl ⟨rfl, R⟩))
end
section
/-! addStep -/
theorem cr_buf_step {nc : Nat} {st : Nat → Nat} {sg pr a0 a1 : Nat → Int32} {ns bn : Nat} {xK xA xB bd yK yA yB yb : Nat → Int32} {p0 p1 p2 : Int32} (hn : ns < 256)
    (h : cr_buf nc st sg pr a0 a1 0 ns bn xK xA xB bd yK yA yB yb) :
    bn = ns ∧ cr_buf nc st sg pr a0 a1 0 (ns + 1) (ns + 1) (upd xK ns p0) (upd xA ns p1) (upd xB ns p2) bd (upd yK ns p0) (upd yA ns p1) (upd yB ns p2) yb := by
  obtain ⟨h1, h2, ⟨_, e, hs, hb⟩ | h3⟩ := h
  · refine ⟨e, by omega, by omega, Or.inl ⟨rfl, rfl, fun i hi => ?_, hb⟩⟩
    by_cases ei : i = ns
    · subst ei
      rw [pk_us, pk_us, pk_us, pk_us, pk_us, pk_us]
      exact ⟨rfl, rfl, rfl⟩
    · rw [pk_un ei, pk_un ei, pk_un ei, pk_un ei, pk_un ei, pk_un ei]
      exact hs i (by omega)
  · exact absurd h3.1 (by decide)
theorem i_vc_addStep {k : Nat} {u : SX} {v : SY} (I : i_Rel k u v) (hk : k + 5 ≤ 2560) (v1 : Int32) (v2 : Int32) (v3 : Int32) : wpX_addStep (fun r u' => wpY_addStep (fun r' v' => r' = r ∧ i_Rel (k + 5) u' v') v v1 v2 v3) u v1 v2 v3 := by
  obtain ⟨nc, nl, st, sl, kp, ls, ns, bn, kc, kn, sg, pr, a0, a1, ar, cs, ow, xK, xA, xB, bd, yK, yA, yB, yb, kK, kA, kB, kI, zK, zA, zB, zb, lh, ph, x0, x1, x2, x3, y0, y1, y2, y3, X0, X1, X2, X3, X4, X5, X6, X7, X8, Y0, Y1, Y2, Y3, Y4, Y5, Y6, Y7, Y8, rfl, rfl, h⟩ := I
  obtain ⟨h1, h2, h3, h4⟩ := id h
  have R : i_Rel (k + 5) (nI nl, nI nc, nI ns, sl, ls, nI kc, kp, x0, x1, x2, x3, sg, pr, a0, a1, cs, ar, xK, xA, xB, bd, kK, kA, kB, kI, X0, X1, X2, X3, ph, X4, X5, X6, lh, X7, X8) (nI nc, nI nl, kp, nI kn, nI bn, sl, ls, y0, y1, y2, y3, sg, pr, a0, a1, ow, ar, zK, zA, zB, zb, yK, yA, yB, yb, Y0, Y1, Y2, Y3, Y4, Y5, Y6, Y7, Y8) := i_mk h
  rcases cr_sl h3 with rfl | rfl
  · refine br_t rfl ?_
    refine br_c (fun e => br_t rfl (br_t e ⟨rfl, R⟩)) (fun e1 => br_c (fun e2 => ?_) (fun e2 => br_t rfl (br_f e1 (br_f e2 ⟨rfl, R⟩))))
    have hns := h3.1
    have ebn : bn = ns := by
      obtain ⟨_, _, ⟨_, e, _⟩ | h3'⟩ := h3
      · exact e
      · exact absurd h3'.1 (by decide)
    subst ebn
    refine pk_lt bn 256 (fun hlt => ?_) (fun hge => ?_)
    · have hin : vp_in (nI bn) 256 := vp_in_nI hlt (by decide)
      have cl : (nI bn).toNatClampNeg = bn := nI_clamp (by omega)
      rw [cl]
      refine ⟨hin, nm_e ⟨hin, nm_e ⟨hin, nm_e (nm_r (nI_1 bn) ?_)⟩⟩⟩
      refine br_t rfl (br_f e1 (br_t e2 (br_f ?_ ?_)))
      · intro e
        rw [show (256 : Int32) = nI 256 from rfl, nI_eq (by omega) (by omega)] at e
        omega
      · rw [cl]
        refine ⟨hin, nm_e ⟨hin, nm_e ⟨hin, nm_e (nm_r (nI_1 bn) ⟨rfl, ?_⟩)⟩⟩⟩
        exact i_mk (ns := bn + 1) (bn := bn + 1) ⟨h1, h2, (cr_buf_step hlt h3).2, h4⟩
    · have e : bn = 256 := by omega
      refine br_t rfl (br_f e1 (br_t e2 (br_t ?_ ⟨rfl, R⟩)))
      rw [e]
      rfl
  · exact br_f (by decide) (br_f (by decide) ⟨rfl, R⟩)
/-! bind -/
def cb_ok (v1 v2 v3 v4 : Int32) : Prop := (∃ c, c < 256 ∧ v1 = nI c) ∧ (v2 = 2 ∨ v2 = 3) ∧ (∃ t, t < 4 ∧ v4 = nI t) ∧ (¬ v4 < 2 → ∃ d, d < 256 ∧ v3 = nI d)
theorem cb_lt {x N : Int32} {n : Nat} (hN : N.toInt = n) (h1 : ¬ x < 0) (h2 : x < N) : ∃ c, c < n ∧ x = nI c := by
  obtain ⟨j, hj, e⟩ := nI_of h1
  rw [Int32.lt_iff_toInt_lt, hN, e, nI_toInt hj] at h2
  exact ⟨j, by omega, e⟩
theorem cb_23 {x : Int32} (h1 : ¬ x < 2) (h2 : x ≤ 3) : x = 2 ∨ x = 3 := by
  have h0 : ¬ x < 0 := fun z => h1 (Int32.lt_trans z (by decide))
  obtain ⟨j, hj, e⟩ := nI_of h0
  rw [Int32.lt_iff_toInt_lt, show (2 : Int32).toInt = 2 from by decide, e, nI_toInt hj] at h1
  rw [Int32.le_iff_toInt_le, show (3 : Int32).toInt = 3 from by decide, e, nI_toInt hj] at h2
  have : j = 2 ∨ j = 3 := by omega
  rcases this with z | z <;> rw [e, z]
  · exact Or.inl rfl
  · exact Or.inr rfl
section
variable {f_litCount f_clauseCount f_stepCount f_bufferSealed f_lastCheckStep f_keptCount f_proofKept f_openCount f_universeSize f_neededInstances f_givenLiterals : Int32} {a_litSign a_litPred a_litArg0 a_litArg1 a_clauseStart a_predArity a_stepKind a_stepA a_stepB a_binding a_keptKind a_keptA a_keptB a_keptInstance a_openCopy a_openLit a_parentCopy a_parentLit a_pathLength a_atomBase a_instanceLits a_instanceHolds a_literalHolds a_restInstances a_pathLiterals : Nat → Int32}
theorem xb_bind {post : Int32 → SX → Prop} {v1 v2 v3 v4 : Int32} (hb : ¬ cb_ok v1 v2 v3 v4 → post (-1) (f_litCount, f_clauseCount, f_stepCount, 0, f_lastCheckStep, f_keptCount, f_proofKept, f_openCount, f_universeSize, f_neededInstances, f_givenLiterals, a_litSign, a_litPred, a_litArg0, a_litArg1, a_clauseStart, a_predArity, a_stepKind, a_stepA, a_stepB, a_binding, a_keptKind, a_keptA, a_keptB, a_keptInstance, a_openCopy, a_openLit, a_parentCopy, a_parentLit, a_pathLength, a_atomBase, a_instanceLits, a_instanceHolds, a_literalHolds, a_restInstances, a_pathLiterals)) (hg : cb_ok v1 v2 v3 v4 → wX_bind_65 post v1 v2 v3 v4 f_litCount f_clauseCount f_stepCount 0 f_lastCheckStep f_keptCount f_proofKept f_openCount f_universeSize f_neededInstances f_givenLiterals a_litSign a_litPred a_litArg0 a_litArg1 a_clauseStart a_predArity a_stepKind a_stepA a_stepB a_binding a_keptKind a_keptA a_keptB a_keptInstance a_openCopy a_openLit a_parentCopy a_parentLit a_pathLength a_atomBase a_instanceLits a_instanceHolds a_literalHolds a_restInstances a_pathLiterals) :
    wpX_bind post (f_litCount, f_clauseCount, f_stepCount, 0, f_lastCheckStep, f_keptCount, f_proofKept, f_openCount, f_universeSize, f_neededInstances, f_givenLiterals, a_litSign, a_litPred, a_litArg0, a_litArg1, a_clauseStart, a_predArity, a_stepKind, a_stepA, a_stepB, a_binding, a_keptKind, a_keptA, a_keptB, a_keptInstance, a_openCopy, a_openLit, a_parentCopy, a_parentLit, a_pathLength, a_atomBase, a_instanceLits, a_instanceHolds, a_literalHolds, a_restInstances, a_pathLiterals) v1 v2 v3 v4 := by
  refine br_t rfl ?_
  refine br_c (fun h => hb (fun z => ?_)) (fun h1 => br_c (fun h => hb (fun z => ?_)) (fun h2 => br_c (fun h => hb (fun z => ?_)) (fun h3 => br_c (fun h4 => br_c (fun h => hb (fun z => ?_)) (fun h5 => br_c (fun h6 =>
    br_c (fun h7 => hg ?_) (fun h7 => br_c (fun h => hb (fun z => ?_)) (fun h8 => br_c (fun h9 => hg ?_) (fun h => hb (fun z => ?_))))) (fun h => hb (fun z => ?_)))) (fun h => hb (fun z => ?_)))))
  · obtain ⟨c, hc, e⟩ := z.1
    rw [e] at h
    exact nI_pos (by omega) h
  · obtain ⟨c, hc, e⟩ := z.1
    rw [e] at h
    exact nI_ge (b := 256) hc (by decide) h
  · rcases z.2.1 with e | e <;> rw [e] at h <;> exact absurd h (by decide)
  · obtain ⟨c, hc, e⟩ := z.2.2.1
    rw [e] at h
    exact nI_pos (by omega) h
  · exact ⟨cb_lt (n := 256) (N := 256) (by decide) h1 (Int32.not_le.mp h2), cb_23 h3 h4, cb_lt (n := 4) (N := 4) (by decide) h5 (Int32.lt_of_le_of_lt h6 (by decide)), fun z => absurd h7 z⟩
  · obtain ⟨c, hc, e⟩ := z.2.2.2 h7
    rw [e] at h
    exact nI_pos (by omega) h
  · exact ⟨cb_lt (n := 256) (N := 256) (by decide) h1 (Int32.not_le.mp h2), cb_23 h3 h4, cb_lt (n := 4) (N := 4) (by decide) h5 (Int32.lt_of_le_of_lt h6 (by decide)), fun _ => cb_lt (n := 256) (N := 256) (by decide) h8 h9⟩
  · obtain ⟨c, hc, e⟩ := z.2.2.2 h7
    rw [e] at h
    exact h (nI_lt (b := 256) hc (by decide))
  · obtain ⟨c, hc, e⟩ := z.2.2.1
    rw [e] at h
    exact h (nI_le (b := 3) (by omega) (by decide))
  · rcases z.2.1 with e | e <;> rw [e] at h <;> exact absurd (by decide) h
end
section
variable {f_clauseCount f_litCount f_kept f_kN f_bN f_sealed f_lastStep f_cNodes f_cSp f_pNodes f_pSp : Int32} {a_lSign a_lPred a_lA0 a_lA1 a_lOwner a_arity a_kKind a_kA a_kB a_kBind a_bKind a_bA a_bB a_bBind a_cCopy a_cLit a_cPar a_cStk a_cl a_gtab a_pLit a_pPar a_pStk : Nat → Int32}
theorem yb_bind {post : Int32 → SY → Prop} {v1 v2 v3 v4 : Int32} (hb : ¬ cb_ok v1 v2 v3 v4 → post (-1) (f_clauseCount, f_litCount, f_kept, f_kN, f_bN, 0, f_lastStep, f_cNodes, f_cSp, f_pNodes, f_pSp, a_lSign, a_lPred, a_lA0, a_lA1, a_lOwner, a_arity, a_kKind, a_kA, a_kB, a_kBind, a_bKind, a_bA, a_bB, a_bBind, a_cCopy, a_cLit, a_cPar, a_cStk, a_cl, a_gtab, a_pLit, a_pPar, a_pStk)) (hg : cb_ok v1 v2 v3 v4 → wY_bind_67 post v1 v2 v3 v4 f_clauseCount f_litCount f_kept f_kN f_bN 0 f_lastStep f_cNodes f_cSp f_pNodes f_pSp a_lSign a_lPred a_lA0 a_lA1 a_lOwner a_arity a_kKind a_kA a_kB a_kBind a_bKind a_bA a_bB a_bBind a_cCopy a_cLit a_cPar a_cStk a_cl a_gtab a_pLit a_pPar a_pStk) :
    wpY_bind post (f_clauseCount, f_litCount, f_kept, f_kN, f_bN, 0, f_lastStep, f_cNodes, f_cSp, f_pNodes, f_pSp, a_lSign, a_lPred, a_lA0, a_lA1, a_lOwner, a_arity, a_kKind, a_kA, a_kB, a_kBind, a_bKind, a_bA, a_bB, a_bBind, a_cCopy, a_cLit, a_cPar, a_cStk, a_cl, a_gtab, a_pLit, a_pPar, a_pStk) v1 v2 v3 v4 := by
  have part : ¬ v1 < 0 → v1 ≤ 255 → (v2 = 2 ∨ v2 = 3) → wY_bind_35 post v1 v2 v3 v4 f_clauseCount f_litCount f_kept f_kN f_bN 0 f_lastStep f_cNodes f_cSp f_pNodes f_pSp a_lSign a_lPred a_lA0 a_lA1 a_lOwner a_arity a_kKind a_kA a_kB a_kBind a_bKind a_bA a_bB a_bBind a_cCopy a_cLit a_cPar a_cStk a_cl a_gtab a_pLit a_pPar a_pStk := by
    intro h1 h2 h3
    have c1 : ∃ c, c < 256 ∧ v1 = nI c := cb_lt (n := 256) (N := 256) (by decide) h1 (Int32.lt_of_le_of_lt h2 (by decide))
    refine br_c (fun h => hb (fun z => ?_)) (fun h5 => br_c (fun h6 => br_c (fun h7 => hg ?_) (fun h7 => br_c (fun h => hb (fun z => ?_)) (fun h8 => br_c (fun h9 => hg ?_) (fun h => hb (fun z => ?_))))) (fun h => hb (fun z => ?_)))
    · obtain ⟨c, hc, e⟩ := z.2.2.1
      rw [e] at h
      exact nI_pos (by omega) h
    · exact ⟨c1, h3, cb_lt (n := 4) (N := 4) (by decide) h5 (Int32.lt_of_le_of_lt h6 (by decide)), fun z => absurd h7 z⟩
    · obtain ⟨c, hc, e⟩ := z.2.2.2 h7
      rw [e] at h
      exact nI_pos (by omega) h
    · exact ⟨c1, h3, cb_lt (n := 4) (N := 4) (by decide) h5 (Int32.lt_of_le_of_lt h6 (by decide)), fun _ => cb_lt (n := 256) (N := 256) (by decide) h8 (Int32.lt_of_le_of_lt h9 (by decide))⟩
    · obtain ⟨c, hc, e⟩ := z.2.2.2 h7
      rw [e] at h
      exact h (nI_le (b := 255) (by omega) (by decide))
    · obtain ⟨c, hc, e⟩ := z.2.2.1
      rw [e] at h
      exact h (nI_le (b := 3) (by omega) (by decide))
  refine br_t rfl ?_
  refine br_c (fun h => hb (fun z => ?_)) (fun h1 => br_c (fun h2 => br_c (fun h3 => part h1 h2 (Or.inl h3)) (fun h3 => br_c (fun h4 => part h1 h2 (Or.inr h4)) (fun h4 => hb (fun z => ?_)))) (fun h => hb (fun z => ?_)))
  · obtain ⟨c, hc, e⟩ := z.1
    rw [e] at h
    exact nI_pos (by omega) h
  · exact z.2.1.elim h3 h4
  · obtain ⟨c, hc, e⟩ := z.1
    rw [e] at h
    exact h (nI_le (b := 255) (by omega) (by decide))
end
theorem cr_bx_put {b : Nat → Nat} {bd : Nat → Int32} (h : cr_bx b bd) {t v : Nat} (h2 : 2 ≤ t) (hv : v < 514) : cr_bx (cd_put b t v) (upd bd t (nI v)) := by
  obtain ⟨b0, b1, hb⟩ := h
  refine ⟨by rw [cd_put_n (by omega)]; exact b0, by rw [cd_put_n (by omega)]; exact b1, fun s hs => ?_⟩
  by_cases e : s = t
  · subst e
    rw [cd_put_s, pk_us]
    exact ⟨hv, rfl⟩
  · rw [cd_put_n e, pk_un e]
    exact hb s hs
theorem cr_by_put {b : Nat → Nat} {yb : Nat → Int32} (h : cr_by b yb) {t v : Nat} {x : Int32} (h2 : 2 ≤ t) (hv : v < 514) (hx : x = if v = t then -1 else nI v) :
    cr_by (cd_put b t v) (upd yb (t - 2) x) := by
  obtain ⟨b0, b1, hb⟩ := h
  refine ⟨by rw [cd_put_n (by omega)]; exact b0, by rw [cd_put_n (by omega)]; exact b1, fun s hs => ?_⟩
  by_cases e : s = t
  · subst e
    rw [cd_put_s]
    exact ⟨hv, fun _ => by rw [pk_us]; exact hx⟩
  · rw [cd_put_n e]
    refine ⟨(hb s hs).1, fun hs2 => ?_⟩
    rw [pk_un (by omega)]
    exact (hb s hs).2 hs2
theorem cr_buf_bind {nc : Nat} {st : Nat → Nat} {sg pr a0 a1 : Nat → Int32} {ns bn : Nat} {xK xA xB bd yK yA yB yb : Nat → Int32} {t v : Nat} {x : Int32} (h2 : 2 ≤ t) (hv : v < 514)
    (hx : x = if v = t then -1 else nI v) (h : cr_buf nc st sg pr a0 a1 0 ns bn xK xA xB bd yK yA yB yb) :
    cr_buf nc st sg pr a0 a1 0 ns bn xK xA xB (upd bd t (nI v)) yK yA yB (upd yb (t - 2) x) := by
  obtain ⟨h1, h2', ⟨_, e, hs, b, hbx, hby⟩ | h3⟩ := h
  · exact ⟨h1, h2', Or.inl ⟨rfl, e, hs, _, cr_bx_put hbx h2 hv, cr_by_put hby h2 hv hx⟩⟩
  · exact absurd h3.1 (by decide)
theorem i_vc_bind {k : Nat} {u : SX} {v : SY} (I : i_Rel k u v) (hk : k + 5 ≤ 2560) (v1 : Int32) (v2 : Int32) (v3 : Int32) (v4 : Int32) : wpX_bind (fun r u' => wpY_bind (fun r' v' => r' = r ∧ i_Rel (k + 5) u' v') v v1 v2 v3 v4) u v1 v2 v3 v4 := by
  obtain ⟨nc, nl, st, sl, kp, ls, ns, bn, kc, kn, sg, pr, a0, a1, ar, cs, ow, xK, xA, xB, bd, yK, yA, yB, yb, kK, kA, kB, kI, zK, zA, zB, zb, lh, ph, x0, x1, x2, x3, y0, y1, y2, y3, X0, X1, X2, X3, X4, X5, X6, X7, X8, Y0, Y1, Y2, Y3, Y4, Y5, Y6, Y7, Y8, rfl, rfl, h⟩ := I
  obtain ⟨h1, h2, h3, h4⟩ := id h
  have R : i_Rel (k + 5) (nI nl, nI nc, nI ns, sl, ls, nI kc, kp, x0, x1, x2, x3, sg, pr, a0, a1, cs, ar, xK, xA, xB, bd, kK, kA, kB, kI, X0, X1, X2, X3, ph, X4, X5, X6, lh, X7, X8) (nI nc, nI nl, kp, nI kn, nI bn, sl, ls, y0, y1, y2, y3, sg, pr, a0, a1, ow, ar, zK, zA, zB, zb, yK, yA, yB, yb, Y0, Y1, Y2, Y3, Y4, Y5, Y6, Y7, Y8) := i_mk h
  rcases cr_sl h3 with rfl | rfl
  · refine xb_bind (fun hz => yb_bind (fun _ => ⟨rfl, R⟩) (fun z => absurd z hz)) (fun hz => ?_)
    have Yg : ∀ {post : Int32 → SY → Prop}, wY_bind_67 post v1 v2 v3 v4 (nI nc) (nI nl) kp (nI kn) (nI bn) 0 ls y0 y1 y2 y3 sg pr a0 a1 ow ar zK zA zB zb yK yA yB yb Y0 Y1 Y2 Y3 Y4 Y5 Y6 Y7 Y8 → wpY_bind post (nI nc, nI nl, kp, nI kn, nI bn, 0, ls, y0, y1, y2, y3, sg, pr, a0, a1, ow, ar, zK, zA, zB, zb, yK, yA, yB, yb, Y0, Y1, Y2, Y3, Y4, Y5, Y6, Y7, Y8) v1 v2 v3 v4 := fun hh => yb_bind (fun z => absurd hz z) (fun _ => hh)
    obtain ⟨⟨c, hc, rfl⟩, hw, ⟨t, ht, rfl⟩, hd⟩ := hz
    obtain ⟨w, hw2, rfl⟩ : ∃ w, (w = 2 ∨ w = 3) ∧ v2 = nI w := by
      rcases hw with e | e
      · exact ⟨2, Or.inl rfl, e⟩
      · exact ⟨3, Or.inr rfl, e⟩
    have hw3 : 2 ≤ w ∧ w ≤ 3 := by omega
    have eX : (2 : Int32) * nI c + nI w = nI (2 * c + w) := by
      rw [show (2 : Int32) = nI 2 from rfl, pk_mul, nI_add]
    have eY : nI c * 2 + (nI w - 2) = nI (2 * c + w - 2) := by
      rw [show (2 : Int32) = nI 2 from rfl, pk_mul, pk_sub hw3.1, nI_add]
      exact congrArg nI (by omega)
    have inX : vp_in (nI (2 * c + w)) 514 := vp_in_nI (by omega) (by decide)
    have inY : vp_in (nI (2 * c + w - 2)) 512 := vp_in_nI (by omega) (by decide)
    have cX : (nI (2 * c + w)).toNatClampNeg = 2 * c + w := nI_clamp (by omega)
    have cY : (nI (2 * c + w - 2)).toNatClampNeg = 2 * c + w - 2 := nI_clamp (by omega)
    by_cases hlt : t < 2
    · have n2 : nI t < 2 := nI_lt (b := 2) hlt (by decide)
      refine br_t n2 ?_
      rw [eX, cX]
      refine ⟨inX, nm_e ?_⟩
      refine Yg (nm_r eY ?_)
      rw [cY]
      refine br_f (nI_ge (b := 2) hlt (by decide)) ⟨inY, nm_e ⟨rfl, ?_⟩⟩
      exact i_mk ⟨h1, h2, cr_buf_bind (by omega) (by omega) (by rw [if_neg (by omega)]) h3, h4⟩
    · have n2 : ¬ nI t < 2 := nI_nlt (b := 2) (by omega) (by omega)
      obtain ⟨d, hd2, rfl⟩ := hd n2
      have eT : (2 : Int32) * nI d + nI t = nI (2 * d + t) := by
        rw [show (2 : Int32) = nI 2 from rfl, pk_mul, nI_add]
      have eT2 : (2 + nI d * 2) + (nI t - 2) = nI (2 * d + t) := by
        rw [show (2 : Int32) = nI 2 from rfl, pk_mul, pk_sub (by omega), nI_add, nI_add]
        exact congrArg nI (by omega)
      refine br_f n2 ?_
      rw [eX, cX, eT]
      refine ⟨inX, nm_e ?_⟩
      refine Yg (nm_r eY ?_)
      refine br_t (nI_le (b := t) (a := 2) (by omega) (by omega)) ?_
      have other : ¬ (2 * d + t = 2 * c + w) → wY_bind_116 (fun r' v' => r' = 0 ∧ i_Rel (k + 5) (nI nl, nI nc, nI ns, 0, ls, nI kc, kp, x0, x1, x2, x3, sg, pr, a0, a1, cs, ar, xK, xA, xB, upd bd (2 * c + w) (nI (2 * d + t)), kK, kA, kB, kI, X0, X1, X2, X3, ph, X4, X5, X6, lh, X7, X8) v') (nI d) (nI t) (nI (2 * c + w - 2)) (nI nc) (nI nl) kp (nI kn) (nI bn) 0 ls y0 y1 y2 y3 sg pr a0 a1 ow ar zK zA zB zb yK yA yB yb Y0 Y1 Y2 Y3 Y4 Y5 Y6 Y7 Y8 := by
        intro hne
        unfold wY_bind_116
        rw [cY, eT2]
        refine ⟨inY, nm_e ⟨rfl, ?_⟩⟩
        exact i_mk ⟨h1, h2, cr_buf_bind (by omega) (by omega) (by rw [if_neg hne]) h3, h4⟩
      refine pk_eq d c (fun e => pk_eq t w (fun e2 => ?_) (fun e2 => other (by omega))) (fun e => other (by omega))
      rw [cY]
      refine ⟨inY, nm_e ⟨rfl, ?_⟩⟩
      exact i_mk ⟨h1, h2, cr_buf_bind (by omega) (by omega) (by rw [if_pos (by omega)]) h3, h4⟩
  · exact br_f (by decide) (br_f (by decide) ⟨rfl, R⟩)
end
section
/-! adoptProof -/
theorem xd_bits : ∀ q, q < 32 → (nI q >>> ((1 : Int32) &&& 31)) &&& 1 = nI (q / 2 % 2) ∧ nI q &&& 1 = nI (q % 2) := by decide +kernel
theorem xd_ix (i : Nat) : (2 : Int32) * nI i + 2 = nI (2 * i + 2) := by
  rw [show (2 : Int32) = nI 2 from rfl, pk_mul, nI_add]
theorem xd_ix3 (i : Nat) : (2 : Int32) * nI i + 3 = nI (2 * i + 3) := by
  rw [show (2 : Int32) = nI 2 from rfl, show (3 : Int32) = nI 3 from rfl, pk_mul, nI_add]
section
variable {f_litCount f_clauseCount f_stepCount f_bufferSealed f_lastCheckStep f_keptCount f_proofKept f_openCount f_universeSize f_neededInstances f_givenLiterals : Int32} {a_litSign a_litPred a_litArg0 a_litArg1 a_clauseStart a_predArity a_stepKind a_stepA a_stepB a_binding a_keptKind a_keptA a_keptB a_keptInstance a_openCopy a_openLit a_parentCopy a_parentLit a_pathLength a_atomBase a_instanceLits a_instanceHolds a_literalHolds a_restInstances a_pathLiterals : Nat → Int32}
theorem xd_v2 {post : Int32 → Prop} {q : Nat} (hq : q < 32) (h : post (nI (q / 2 % 2))) : wpX_valueIn post (f_litCount, f_clauseCount, f_stepCount, f_bufferSealed, f_lastCheckStep, f_keptCount, f_proofKept, f_openCount, f_universeSize, f_neededInstances, f_givenLiterals, a_litSign, a_litPred, a_litArg0, a_litArg1, a_clauseStart, a_predArity, a_stepKind, a_stepA, a_stepB, a_binding, a_keptKind, a_keptA, a_keptB, a_keptInstance, a_openCopy, a_openLit, a_parentCopy, a_parentLit, a_pathLength, a_atomBase, a_instanceLits, a_instanceHolds, a_literalHolds, a_restInstances, a_pathLiterals) (nI q) 2 := by
  refine br_t rfl ?_
  rw [(xd_bits q hq).1]
  exact h
theorem xd_v3 {post : Int32 → Prop} {q : Nat} (hq : q < 32) (h : post (nI (q % 2))) : wpX_valueIn post (f_litCount, f_clauseCount, f_stepCount, f_bufferSealed, f_lastCheckStep, f_keptCount, f_proofKept, f_openCount, f_universeSize, f_neededInstances, f_givenLiterals, a_litSign, a_litPred, a_litArg0, a_litArg1, a_clauseStart, a_predArity, a_stepKind, a_stepA, a_stepB, a_binding, a_keptKind, a_keptA, a_keptB, a_keptInstance, a_openCopy, a_openLit, a_parentCopy, a_parentLit, a_pathLength, a_atomBase, a_instanceLits, a_instanceHolds, a_literalHolds, a_restInstances, a_pathLiterals) (nI q) 3 := by
  refine br_f (by decide) (br_t rfl ?_)
  rw [(xd_bits q hq).2]
  exact h
theorem xd_adopt {post : Int32 → SX → Prop} {nc kc : Nat} {st : Nat → Nat} {sg pr a0 a1 : Nat → Int32} (hx : cr_kx nc st sg pr a0 a1 kc a_keptKind a_keptA a_keptB a_keptInstance)
    (hp : ∀ (xK xA xB bd : Nat → Int32) (b : Nat → Nat), cr_bx b bd → cr_ok nc st sg pr a0 a1 xK xA xB b kc → post 0 (f_litCount, f_clauseCount, nI kc, 1, f_lastCheckStep, nI kc, 1, f_openCount, f_universeSize, f_neededInstances, f_givenLiterals, a_litSign, a_litPred, a_litArg0, a_litArg1, a_clauseStart, a_predArity, xK, xA, xB, bd, a_keptKind, a_keptA, a_keptB, a_keptInstance, a_openCopy, a_openLit, a_parentCopy, a_parentLit, a_pathLength, a_atomBase, a_instanceLits, a_instanceHolds, a_literalHolds, a_restInstances, a_pathLiterals)) :
    wpX_adoptProof post (f_litCount, f_clauseCount, f_stepCount, f_bufferSealed, f_lastCheckStep, nI kc, 1, f_openCount, f_universeSize, f_neededInstances, f_givenLiterals, a_litSign, a_litPred, a_litArg0, a_litArg1, a_clauseStart, a_predArity, a_stepKind, a_stepA, a_stepB, a_binding, a_keptKind, a_keptA, a_keptB, a_keptInstance, a_openCopy, a_openLit, a_parentCopy, a_parentLit, a_pathLength, a_atomBase, a_instanceLits, a_instanceHolds, a_literalHolds, a_restInstances, a_pathLiterals) := by
  obtain ⟨q, hkc, hq, hval⟩ := hx
  refine br_f (by decide) ?_
  refine xe_empty ?_
  refine loop_0 (fun n i (s : (Nat → Int32) × (Nat → Int32) × (Nat → Int32) × (Nat → Int32)) => wX_adoptProof_16 post f_litCount f_clauseCount 0 0 f_lastCheckStep (nI kc) 1 f_openCount f_universeSize f_neededInstances f_givenLiterals n (nI i) a_litSign a_litPred a_litArg0 a_litArg1 a_clauseStart a_predArity s.1 s.2.1 s.2.2.1 s.2.2.2 a_keptKind a_keptA a_keptB a_keptInstance a_openCopy a_openLit a_parentCopy a_parentLit a_pathLength a_atomBase a_instanceLits a_instanceHolds a_literalHolds a_restInstances a_pathLiterals)
    (fun i s => (∀ j, j < i → s.1 j = a_keptKind j ∧ s.2.1 j = a_keptA j ∧ s.2.2.1 j = a_keptB j) ∧ ∃ b, cr_bx b s.2.2.2 ∧ ck_bok a_keptKind (fun j => q j / 2 % 2) (fun j => q j % 2) i b) kc
    (a_stepKind, a_stepA, a_stepB, xe_fill 514 a_binding) ?_ ?_ ?_
  · exact ⟨fun j hj => absurd hj (Nat.not_lt_zero j), _, cr_bx_id _, rfl, rfl, fun j hj => absurd hj (Nat.not_lt_zero j)⟩
  · intro n s hs
    obtain ⟨hag, b, hbx, hbo⟩ := hs
    refine br_t (nI_le (Nat.le_refl kc) (by omega)) ?_
    exact hp _ _ _ _ b hbx (hval _ _ _ b hag hbo)
  · intro n i s hi hs ih
    obtain ⟨hag, b, hbx, hbo⟩ := hs
    have hin : vp_in (nI i) 256 := vp_in_nI (by omega) (by decide)
    have cl : (nI i).toNatClampNeg = i := nI_clamp (by omega)
    have ag' : ∀ j, j < i + 1 → upd s.1 i (a_keptKind i) j = a_keptKind j ∧ upd s.2.1 i (a_keptA i) j = a_keptA j ∧ upd s.2.2.1 i (a_keptB i) j = a_keptB j := by
      intro j hj
      by_cases e : j = i
      · subst e
        rw [pk_us, pk_us, pk_us]
        exact ⟨rfl, rfl, rfl⟩
      · rw [pk_un e, pk_un e, pk_un e]
        exact hag j (by omega)
    refine br_f (nI_ge hi (by omega)) ?_
    rw [cl]
    refine ⟨hin, hin, nm_e ⟨hin, hin, nm_e ⟨hin, hin, nm_e ⟨hin, br_c (fun e2 => ?_) (fun e2 => ⟨hin, ?_⟩)⟩⟩⟩⟩
    · refine nm_r (nI_1 i) (ih (upd s.1 i (a_keptKind i), upd s.2.1 i (a_keptA i), upd s.2.2.1 i (a_keptB i), s.2.2.2) ⟨ag', b, hbx, hbo.1, hbo.2.1, fun j hj hK => ?_⟩)
      by_cases e : j = i
      · exact absurd (e ▸ e2) hK
      · exact hbo.2.2 j (by omega) hK
    · obtain ⟨hqi, eqi⟩ := hq i hi e2
      rw [eqi]
      refine xd_v2 hqi ?_
      rw [xd_ix, nI_clamp (show 2 * i + 2 < 2 ^ 31 by omega)]
      refine ⟨vp_in_nI (by omega) (by decide), nm_e ⟨hin, ?_⟩⟩
      refine xd_v3 hqi ?_
      rw [xd_ix3, nI_clamp (show 2 * i + 3 < 2 ^ 31 by omega)]
      refine ⟨vp_in_nI (by omega) (by decide), nm_e (nm_r (nI_1 i) ?_)⟩
      refine ih (upd s.1 i (a_keptKind i), upd s.2.1 i (a_keptA i), upd s.2.2.1 i (a_keptB i), upd (upd s.2.2.2 (2 * i + 2) (nI (q i / 2 % 2))) (2 * i + 3) (nI (q i % 2)))
        ⟨ag', cd_put (cd_put b (2 * i + 2) (q i / 2 % 2)) (2 * i + 3) (q i % 2), cr_bx_put (cr_bx_put hbx (by omega) (by omega)) (by omega) (by omega), ?_, ?_, fun j hj hK => ?_⟩
      · rw [cd_put_n (by omega), cd_put_n (by omega)]
        exact hbo.1
      · rw [cd_put_n (by omega), cd_put_n (by omega)]
        exact hbo.2.1
      · by_cases e : j = i
        · subst e
          rw [cd_put_s, cd_put_n (by omega), cd_put_s]
          exact ⟨rfl, rfl⟩
        · rw [cd_put_n (by omega), cd_put_n (by omega), cd_put_n (by omega), cd_put_n (by omega)]
          exact hbo.2.2 j (by omega) hK
end
/-- the binding that the reference's array means -/
def yd_b (yb : Nat → Int32) : Nat → Nat := fun t => if t < 2 then t else if yb (t - 2) = -1 then t else (yb (t - 2)).toNatClampNeg
theorem yd_by {kb yb : Nat → Int32} (h : ∀ t, t < 512 → kb t = -1 ∨ kb t = 0 ∨ kb t = 1) (he : ∀ t, t < 512 → yb t = kb t) : cr_by (yd_b kb) yb := by
  refine ⟨rfl, rfl, fun t ht => ?_⟩
  by_cases h2 : t < 2
  · have e : yd_b kb t = t := by unfold yd_b; rw [if_pos h2]
    rw [e]
    exact ⟨ht, fun z => absurd h2 (by omega)⟩
  · rw [he (t - 2) (by omega)]
    rcases h (t - 2) (by omega) with z | z | z
    · have e : yd_b kb t = t := by unfold yd_b; rw [if_neg h2, z, if_pos rfl]
      rw [e, z]
      exact ⟨ht, fun _ => by rw [if_pos rfl]⟩
    · have e : yd_b kb t = 0 := by unfold yd_b; rw [if_neg h2, z, if_neg (by decide)]; rfl
      rw [e, z]
      exact ⟨by omega, fun _ => by rw [if_neg (by omega)]; rfl⟩
    · have e : yd_b kb t = 1 := by unfold yd_b; rw [if_neg h2, z, if_neg (by decide)]; rfl
      rw [e, z]
      exact ⟨by omega, fun _ => by rw [if_neg (by omega)]; rfl⟩
theorem yd_bok {kK kb : Nat → Int32} {W0 W1 : Nat → Nat} {kn : Nat} (h : ∀ j, j < kn → ¬ kK j = 2 → W0 j < 2 ∧ W1 j < 2 ∧ kb (2 * j) = nI (W0 j) ∧ kb (2 * j + 1) = nI (W1 j)) :
    ck_bok kK W0 W1 kn (yd_b kb) := by
  have val : ∀ (t w : Nat), w < 2 → kb t = nI w → yd_b kb (t + 2) = w := by
    intro t w hw e
    unfold yd_b
    have e1 : t + 2 - 2 = t := by omega
    rw [if_neg (by omega), e1, e, if_neg, nI_clamp (by omega)]
    have : w = 0 ∨ w = 1 := by omega
    rcases this with z | z <;> rw [z] <;> decide
  refine ⟨rfl, rfl, fun j hj hK => ?_⟩
  obtain ⟨w0, w1, e0, e1⟩ := h j hj hK
  exact ⟨val (2 * j) _ w0 e0, val (2 * j + 1) _ w1 e1⟩
section
variable {f_clauseCount f_litCount f_kept f_kN f_bN f_sealed f_lastStep f_cNodes f_cSp f_pNodes f_pSp : Int32} {a_lSign a_lPred a_lA0 a_lA1 a_lOwner a_arity a_kKind a_kA a_kB a_kBind a_bKind a_bA a_bB a_bBind a_cCopy a_cLit a_cPar a_cStk a_cl a_gtab a_pLit a_pPar a_pStk : Nat → Int32}
theorem yd_adopt {post : Int32 → SY → Prop} {nc kn : Nat} {st : Nat → Nat} {sg pr a0 a1 : Nat → Int32} (hy : cr_ky nc st sg pr a0 a1 kn a_kKind a_kA a_kB a_kBind)
    (hp : ∀ (yK yA yB yb : Nat → Int32) (b : Nat → Nat), cr_by b yb → cr_ok nc st sg pr a0 a1 yK yA yB b kn → post 0 (f_clauseCount, f_litCount, 1, nI kn, nI kn, 1, f_lastStep, f_cNodes, f_cSp, f_pNodes, f_pSp, a_lSign, a_lPred, a_lA0, a_lA1, a_lOwner, a_arity, a_kKind, a_kA, a_kB, a_kBind, yK, yA, yB, yb, a_cCopy, a_cLit, a_cPar, a_cStk, a_cl, a_gtab, a_pLit, a_pPar, a_pStk)) :
    wpY_adoptProof post (f_clauseCount, f_litCount, 1, nI kn, f_bN, f_sealed, f_lastStep, f_cNodes, f_cSp, f_pNodes, f_pSp, a_lSign, a_lPred, a_lA0, a_lA1, a_lOwner, a_arity, a_kKind, a_kA, a_kB, a_kBind, a_bKind, a_bA, a_bB, a_bBind, a_cCopy, a_cLit, a_cPar, a_cStk, a_cl, a_gtab, a_pLit, a_pPar, a_pStk) := by
  obtain ⟨W0, W1, hkn, hv, hb, hval⟩ := hy
  refine br_f (by decide) ?_
  refine loop_0 (fun n i (s : (Nat → Int32) × (Nat → Int32) × (Nat → Int32)) => wY_adoptProof_20 post f_clauseCount f_litCount 1 (nI kn) (nI kn) f_sealed f_lastStep f_cNodes f_cSp f_pNodes f_pSp n (nI i) a_lSign a_lPred a_lA0 a_lA1 a_lOwner a_arity a_kKind a_kA a_kB a_kBind s.1 s.2.1 s.2.2 a_bBind a_cCopy a_cLit a_cPar a_cStk a_cl a_gtab a_pLit a_pPar a_pStk)
    (fun i s => ∀ j, j < i → s.1 j = a_kKind j ∧ s.2.1 j = a_kA j ∧ s.2.2 j = a_kB j) 256 (a_bKind, a_bA, a_bB) ?_ ?_ ?_
  · exact fun j hj => absurd hj (Nat.not_lt_zero j)
  · intro n s hag
    refine br_t (nI_le (a := 256) (b := 256) (Nat.le_refl _) (by decide)) ?_
    refine loop_0 (fun n i (t : Nat → Int32) => wY_adoptProof_71 post f_clauseCount f_litCount 1 (nI kn) (nI kn) f_sealed f_lastStep f_cNodes f_cSp f_pNodes f_pSp n (nI i) a_lSign a_lPred a_lA0 a_lA1 a_lOwner a_arity a_kKind a_kA a_kB a_kBind s.1 s.2.1 s.2.2 t a_cCopy a_cLit a_cPar a_cStk a_cl a_gtab a_pLit a_pPar a_pStk)
      (fun i t => ∀ j, j < i → t j = a_kBind j) 512 a_bBind ?_ ?_ ?_
    · exact fun j hj => absurd hj (Nat.not_lt_zero j)
    · intro n t ht
      refine br_t (nI_le (a := 512) (b := 512) (Nat.le_refl _) (by decide)) ?_
      exact hp _ _ _ _ _ (yd_by hb ht) (hval _ _ _ _ (fun j hj => hag j (by omega)) (yd_bok hv))
    · intro n i t hi ht ih
      have hin : vp_in (nI i) 512 := vp_in_nI hi (by decide)
      refine br_f (nI_ge (b := 512) hi (by decide)) ⟨hin, hin, nm_e (nm_r (nI_1 i) (ih _ ?_))⟩
      rw [nI_clamp (show i < 2 ^ 31 by omega)]
      intro j hj
      by_cases e : j = i
      · subst e
        exact pk_us
      · rw [pk_un e]
        exact ht j (by omega)
  · intro n i s hi hag ih
    have hin : vp_in (nI i) 256 := vp_in_nI hi (by decide)
    refine br_f (nI_ge (b := 256) hi (by decide)) ?_
    rw [nI_clamp (show i < 2 ^ 31 by omega)]
    refine ⟨hin, hin, nm_e ⟨hin, hin, nm_e ⟨hin, hin, nm_e (nm_r (nI_1 i) (ih (upd s.1 i (a_kKind i), upd s.2.1 i (a_kA i), upd s.2.2 i (a_kB i)) ?_))⟩⟩⟩
    intro j hj
    by_cases e : j = i
    · subst e
      dsimp only
      rw [pk_us, pk_us, pk_us]
      exact ⟨rfl, rfl, rfl⟩
    · dsimp only
      rw [pk_un e, pk_un e, pk_un e]
      exact hag j (by omega)
end
theorem i_vc_adoptProof {k : Nat} {u : SX} {v : SY} (I : i_Rel k u v) (hk : k + 5 ≤ 2560) : wpX_adoptProof (fun r u' => wpY_adoptProof (fun r' v' => r' = r ∧ i_Rel (k + 5) u' v') v) u := by
  obtain ⟨nc, nl, st, sl, kp, ls, ns, bn, kc, kn, sg, pr, a0, a1, ar, cs, ow, xK, xA, xB, bd, yK, yA, yB, yb, kK, kA, kB, kI, zK, zA, zB, zb, lh, ph, x0, x1, x2, x3, y0, y1, y2, y3, X0, X1, X2, X3, X4, X5, X6, X7, X8, Y0, Y1, Y2, Y3, Y4, Y5, Y6, Y7, Y8, rfl, rfl, h⟩ := I
  obtain ⟨h1, h2, h3, h4⟩ := id h
  rcases id h4 with rfl | ⟨rfl, hx, hy⟩
  · exact br_t rfl (br_t rfl ⟨rfl, i_mk h⟩)
  · refine xd_adopt hx (fun xK' xA' xB' bd' b hbx hok => ?_)
    refine yd_adopt hy (fun yK' yA' yB' yb' b' hby hok' => ⟨rfl, ?_⟩)
    obtain ⟨_, hkc, _⟩ := hx
    obtain ⟨_, _, hkn, _⟩ := hy
    exact i_mk (ns := kc) (bn := kn) ⟨h1, h2, ⟨hkc, hkn, Or.inr ⟨rfl, ⟨b, hbx, hok⟩, ⟨b', hby, hok'⟩⟩⟩, h4⟩
end
section
/-! the goals as X keeps them: a copy's path is the chain of its parents -/
def xc_ch (pc pl ph : Nat → Int32) (M : Nat) : List (Nat × Nat) → Nat → Prop
  | [], c => ph c = 0
  | e :: p, c => e.1 < c ∧ e.2 < M ∧ ph c = nI (p.length + 1) ∧ pc c = nI e.1 ∧ pl c = nI e.2 ∧ xc_ch pc pl ph M p e.1
def xc_stk (oc ol pc pl ph : Nat → Int32) (M m : Nat) : List ck_G → Prop
  | [] => True
  | g :: R => oc R.length = nI g.1 ∧ ol R.length = nI g.2.1 ∧ g.1 < m ∧ g.2.1 < M ∧ xc_ch pc pl ph M g.2.2 g.1 ∧ xc_stk oc ol pc pl ph M m R
theorem xc_ch_len {pc pl ph : Nat → Int32} {M : Nat} : ∀ {p : List (Nat × Nat)} {c : Nat}, xc_ch pc pl ph M p c → ph c = nI p.length ∧ p.length ≤ c
  | [], c, h => ⟨h, Nat.zero_le _⟩
  | e :: p, c, h => by
    have h2 := (xc_ch_len h.2.2.2.2.2).2
    have h1 := h.1
    exact ⟨h.2.2.1, by rw [List.length_cons]; omega⟩
theorem xc_ch_fr {pc pl ph pc' pl' ph' : Nat → Int32} {M m : Nat} (hf : ∀ j, j < m → pc' j = pc j ∧ pl' j = pl j ∧ ph' j = ph j) :
    ∀ {p : List (Nat × Nat)} {c : Nat}, c < m → xc_ch pc pl ph M p c → xc_ch pc' pl' ph' M p c
  | [], c, hc, h => by
    show ph' c = 0
    rw [(hf c hc).2.2]
    exact h
  | e :: p, c, hc, h => by
    obtain ⟨h1, h2, h3, h4, h5, h6⟩ := h
    obtain ⟨f1, f2, f3⟩ := hf c hc
    exact ⟨h1, h2, by rw [f3]; exact h3, by rw [f1]; exact h4, by rw [f2]; exact h5, xc_ch_fr hf (by omega) h6⟩
theorem xc_stk_fr {oc ol pc pl ph oc' ol' pc' pl' ph' : Nat → Int32} {M m m' : Nat} (hm : m ≤ m') (hf : ∀ j, j < m → pc' j = pc j ∧ pl' j = pl j ∧ ph' j = ph j) :
    ∀ {L : List ck_G}, (∀ j, j < L.length → oc' j = oc j ∧ ol' j = ol j) → xc_stk oc ol pc pl ph M m L → xc_stk oc' ol' pc' pl' ph' M m' L
  | [], _, _ => trivial
  | g :: R, ho, h => by
    obtain ⟨h1, h2, h3, h4, h5, h6⟩ := h
    obtain ⟨o1, o2⟩ := ho R.length (by rw [List.length_cons]; omega)
    exact ⟨by rw [o1]; exact h1, by rw [o2]; exact h2, by omega, h4, xc_ch_fr hf h3 h5, xc_stk_fr hm hf (fun j hj => ho j (by rw [List.length_cons]; omega)) h6⟩
theorem xc_ch_get {pc pl ph : Nat → Int32} {M : Nat} : ∀ {p : List (Nat × Nat)} {c : Nat}, xc_ch pc pl ph M p c → ∀ n, n < p.length → (p.getD n (0, 0)).1 < c ∧ (p.getD n (0, 0)).2 < M
  | [], _, _, n, hn => absurd hn (Nat.not_lt_zero n)
  | e :: p, c, h, 0, _ => ⟨h.1, h.2.1⟩
  | e :: p, c, h, n + 1, hn => by
    obtain ⟨x, y⟩ := xc_ch_get h.2.2.2.2.2 n (by rw [List.length_cons] at hn; omega)
    have := h.1
    rw [List.getD_cons_succ]
    exact ⟨by omega, y⟩
/-! pushing the goals of a copy -/
def xg_ls (sk : Nat) : Nat → Nat → List Nat
  | 0, _ => []
  | n + 1, j => if j = sk then xg_ls sk n (j + 1) else j :: xg_ls sk n (j + 1)
theorem xg_ls_t {sk n j : Nat} (e : j = sk) : xg_ls sk (n + 1) j = xg_ls sk n (j + 1) := if_pos e
theorem xg_ls_f {sk n j : Nat} (e : ¬ j = sk) : xg_ls sk (n + 1) j = j :: xg_ls sk n (j + 1) := if_neg e
theorem xg_gl {copy sk : Nat} {p : List (Nat × Nat)} : ∀ (n j : Nat), ck_gl copy sk p n j = (xg_ls sk n j).map (fun l => (copy, l, p))
  | 0, _ => rfl
  | n + 1, j => by
    unfold ck_gl
    by_cases e : j = sk
    · rw [if_pos e, xg_ls_t e]
      exact xg_gl n (j + 1)
    · rw [if_neg e, xg_ls_f e, List.map_cons]
      exact congrArg _ (xg_gl n (j + 1))
theorem xg_ls_mem {sk : Nat} : ∀ {n j l : Nat}, l ∈ xg_ls sk n j → j ≤ l ∧ l < j + n ∧ ¬ l = sk
  | 0, _, _, h => by cases h
  | n + 1, j, l, h => by
    by_cases e : j = sk
    · rw [xg_ls_t e] at h
      obtain ⟨x, y, z⟩ := xg_ls_mem h
      exact ⟨by omega, by omega, z⟩
    · rw [xg_ls_f e] at h
      rcases List.mem_cons.mp h with h | h
      · subst h
        exact ⟨Nat.le_refl _, by omega, e⟩
      · obtain ⟨x, y, z⟩ := xg_ls_mem h
        exact ⟨by omega, by omega, z⟩
theorem xg_ls_suf {sk : Nat} (len first : Nat) : ∀ k, k ≤ len → (xg_ls sk (len - k) (first + k)).length ≤ (xg_ls sk len first).length
  | 0, _ => Nat.le_refl _
  | k + 1, hk => by
    have h := xg_ls_suf (sk := sk) len first k (by omega)
    have e : len - k = (len - (k + 1)) + 1 := by omega
    rw [e] at h
    have e2 : first + (k + 1) = first + k + 1 := by omega
    rw [e2]
    by_cases z : first + k = sk
    · rw [xg_ls_t z] at h
      exact h
    · rw [xg_ls_f z, List.length_cons] at h
      omega
def xg_rep (oc ol : Nat → Int32) (x : Int32) (base : Nat) : List Nat → Prop
  | [] => True
  | l :: ls => oc (base + ls.length) = x ∧ ol (base + ls.length) = nI l ∧ xg_rep oc ol x base ls
theorem xg_rep_fr {oc ol oc' ol' : Nat → Int32} {x : Int32} {base : Nat} : ∀ {ls : List Nat}, (∀ j, j < base + ls.length → oc' j = oc j ∧ ol' j = ol j) → xg_rep oc ol x base ls → xg_rep oc' ol' x base ls
  | [], _, _ => trivial
  | l :: ls, ho, h => by
    obtain ⟨o1, o2⟩ := ho (base + ls.length) (by rw [List.length_cons]; omega)
    exact ⟨by rw [o1]; exact h.1, by rw [o2]; exact h.2.1, xg_rep_fr (fun j hj => ho j (by rw [List.length_cons]; omega)) h.2.2⟩
section
variable {f_litCount f_clauseCount f_stepCount f_bufferSealed f_lastCheckStep f_keptCount f_proofKept f_openCount f_universeSize f_neededInstances f_givenLiterals : Int32} {a_litSign a_litPred a_litArg0 a_litArg1 a_clauseStart a_predArity a_stepKind a_stepA a_stepB a_binding a_keptKind a_keptA a_keptB a_keptInstance a_openCopy a_openLit a_parentCopy a_parentLit a_pathLength a_atomBase a_instanceLits a_instanceHolds a_literalHolds a_restInstances a_pathLiterals : Nat → Int32}
theorem xg_open {post : SX → Prop} {base len first sk : Nat} {x1 skI : Int32} (hsk : ∀ j, first ≤ j → j < first + len → (nI j = skI ↔ j = sk)) (hfl : first + len < 2 ^ 30)
    (room : base + (xg_ls sk len first).length ≤ 258)
    (h : ∀ oc ol : Nat → Int32, (∀ j, j < base → oc j = a_openCopy j ∧ ol j = a_openLit j) → xg_rep oc ol x1 base (xg_ls sk len first) →
      post (f_litCount, f_clauseCount, f_stepCount, f_bufferSealed, f_lastCheckStep, f_keptCount, f_proofKept, nI (base + (xg_ls sk len first).length), f_universeSize, f_neededInstances, f_givenLiterals, a_litSign, a_litPred, a_litArg0, a_litArg1, a_clauseStart, a_predArity, a_stepKind, a_stepA, a_stepB, a_binding, a_keptKind, a_keptA, a_keptB, a_keptInstance, oc, ol, a_parentCopy, a_parentLit, a_pathLength, a_atomBase, a_instanceLits, a_instanceHolds, a_literalHolds, a_restInstances, a_pathLiterals)) :
    wpX_openGoals post (f_litCount, f_clauseCount, f_stepCount, f_bufferSealed, f_lastCheckStep, f_keptCount, f_proofKept, nI base, f_universeSize, f_neededInstances, f_givenLiterals, a_litSign, a_litPred, a_litArg0, a_litArg1, a_clauseStart, a_predArity, a_stepKind, a_stepA, a_stepB, a_binding, a_keptKind, a_keptA, a_keptB, a_keptInstance, a_openCopy, a_openLit, a_parentCopy, a_parentLit, a_pathLength, a_atomBase, a_instanceLits, a_instanceHolds, a_literalHolds, a_restInstances, a_pathLiterals) x1 (nI first) (nI len) skI := by
  have key : ∀ k, k ≤ len → ∀ (oc ol : Nat → Int32), (∀ j, j < base → oc j = a_openCopy j ∧ ol j = a_openLit j) → xg_rep oc ol x1 base (xg_ls sk (len - k) (first + k)) →
      wX_openGoals_5 post x1 (nI first) skI f_litCount f_clauseCount f_stepCount f_bufferSealed f_lastCheckStep f_keptCount f_proofKept f_universeSize f_neededInstances f_givenLiterals (k + 1) (nI k + (-1)) (nI (base + (xg_ls sk (len - k) (first + k)).length)) a_litSign a_litPred a_litArg0 a_litArg1 a_clauseStart a_predArity a_stepKind a_stepA a_stepB a_binding a_keptKind a_keptA a_keptB a_keptInstance oc ol a_parentCopy a_parentLit a_pathLength a_atomBase a_instanceLits a_instanceHolds a_literalHolds a_restInstances a_pathLiterals := by
    intro k
    induction k with
    | zero =>
      intro _ oc ol hag hrep
      exact br_t (by decide) (h oc ol hag hrep)
    | succ k ih =>
      intro hk oc ol hag hrep
      rw [pk_m1]
      have e : len - k = (len - (k + 1)) + 1 := by omega
      have e2 : first + (k + 1) = first + k + 1 := by omega
      rw [e2] at hrep ⊢
      have ih2 := ih (by omega)
      rw [e] at ih2
      refine br_f (nI_pos (by omega)) ?_
      rw [nI_add]
      refine ek_if (hsk (first + k) (by omega) (by omega)) (fun z => nm_e ?_) (fun z => ?_)
      · rw [xg_ls_t z] at ih2
        exact ih2 oc ol hag hrep
      · rw [xg_ls_f z] at ih2
        have hs := xg_ls_suf (sk := sk) len first k (by omega)
        rw [e, xg_ls_f z, List.length_cons] at hs
        have hin : vp_in (nI (base + (xg_ls sk (len - (k + 1)) (first + k + 1)).length)) 258 := vp_in_nI (by omega) (by decide)
        refine ⟨hin, nm_e ⟨hin, nm_e (nm_r (nI_1 _) (nm_e ?_))⟩⟩
        rw [nI_clamp (show base + (xg_ls sk (len - (k + 1)) (first + k + 1)).length < 2 ^ 31 by omega)]
        refine ih2 _ _ (fun j hj => ?_) ⟨pk_us, pk_us, xg_rep_fr (fun j hj => ?_) hrep⟩
        · rw [pk_un (by omega), pk_un (by omega)]
          exact hag j hj
        · rw [pk_un (by omega), pk_un (by omega)]
          exact ⟨rfl, rfl⟩
  have e0 : len - len = 0 := by omega
  have k0 := key len (Nat.le_refl _) a_openCopy a_openLit (fun _ _ => ⟨rfl, rfl⟩) (by rw [e0]; trivial)
  rw [e0] at k0
  exact nm_r (Int32.sub_eq_add_neg _ _) ⟨_, k0⟩
end
theorem xc_stk_app {oc ol pc pl ph : Nat → Int32} {M m copy : Nat} {p : List (Nat × Nat)} {R : List ck_G} (hc : copy < m) (hch : xc_ch pc pl ph M p copy) (hR : xc_stk oc ol pc pl ph M m R) :
    ∀ {ls : List Nat}, (∀ l, l ∈ ls → l < M) → xg_rep oc ol (nI copy) R.length ls → xc_stk oc ol pc pl ph M m (ls.map (fun l => (copy, l, p)) ++ R)
  | [], _, _ => hR
  | l :: ls, hl, hr => by
    have e : (ls.map (fun l => ((copy, l, p) : ck_G)) ++ R).length = R.length + ls.length := by
      rw [List.length_append, List.length_map]; omega
    refine ⟨?_, ?_, hc, hl l List.mem_cons_self, hch, xc_stk_app hc hch hR (fun l' h' => hl l' (List.mem_cons_of_mem l h')) hr.2.2⟩
    · show oc (ls.map (fun l => ((copy, l, p) : ck_G)) ++ R).length = nI copy
      rw [e]
      exact hr.1
    · show ol (ls.map (fun l => ((copy, l, p) : ck_G)) ++ R).length = nI l
      rw [e]
      exact hr.2.1
/-! resolving -/
def ck_rv (o : Option Nat) : Int32 := match o with
  | some x => nI x
  | none => -1
theorem ck_res_lt {b : Nat → Nat} (hb : ∀ t, t < 514 → b t < 514) : ∀ (n t : Nat), t < 514 → ∀ x, ck_res b n t = some x → x < 514
  | 0, _, _, _, h => by cases h
  | n + 1, t, ht, x, h => by
    unfold ck_res at h
    by_cases e : b t = t
    · rw [if_pos e] at h
      cases h
      exact ht
    · rw [if_neg e] at h
      exact ck_res_lt hb n (b t) (hb t ht) x h
section
variable {f_litCount f_clauseCount f_stepCount f_bufferSealed f_lastCheckStep f_keptCount f_proofKept f_openCount f_universeSize f_neededInstances f_givenLiterals : Int32} {a_litSign a_litPred a_litArg0 a_litArg1 a_clauseStart a_predArity a_stepKind a_stepA a_stepB a_binding a_keptKind a_keptA a_keptB a_keptInstance a_openCopy a_openLit a_parentCopy a_parentLit a_pathLength a_atomBase a_instanceLits a_instanceHolds a_literalHolds a_restInstances a_pathLiterals : Nat → Int32}
theorem xr_loop {post : Int32 → Prop} {b : Nat → Nat} (hb : cr_bx b a_binding) : ∀ (n t mv : Nat), mv + n = 513 → t < 514 → post (ck_rv (ck_res b n t)) → wX_resolve_20 post f_litCount f_clauseCount f_stepCount f_bufferSealed f_lastCheckStep f_keptCount f_proofKept f_openCount f_universeSize f_neededInstances f_givenLiterals a_litSign a_litPred a_litArg0 a_litArg1 a_clauseStart a_predArity a_stepKind a_stepA a_stepB a_binding a_keptKind a_keptA a_keptB a_keptInstance a_openCopy a_openLit a_parentCopy a_parentLit a_pathLength a_atomBase a_instanceLits a_instanceHolds a_literalHolds a_restInstances a_pathLiterals (n + 1) (nI t) (nI mv)
  | 0, t, mv, hm, ht, h => by
    exact br_t (nI_lt (a := 512) (b := mv) (by omega) (by omega)) h
  | n + 1, t, mv, hm, ht, h => by
    obtain ⟨hb1, hb2⟩ := hb.2.2 t ht
    have hin : vp_in (nI t) 514 := vp_in_nI ht (by decide)
    refine br_f (nI_nlt (b := mv) (a := 512) (by omega) (by decide)) ⟨hin, ?_⟩
    rw [nI_clamp (show t < 2 ^ 31 by omega), hb2]
    unfold ck_res at h
    refine pk_eq (b t) t (fun e => ?_) (fun e => ⟨hin, nm_e (nm_r (nI_1 mv) ?_)⟩)
    · rw [if_pos e] at h
      exact h
    · rw [if_neg e] at h
      exact xr_loop hb n (b t) (mv + 1) (by omega) hb1 h
/-- an argument that is a term -/
theorem xr_res {post : Int32 → Prop} {b : Nat → Nat} (hb : cr_bx b a_binding) {c l pos t : Nat} (hc : c < 256) (hl : l < 16) (hp : pos < 2) (ht : t < 4)
    (ha : (if pos = 0 then a_litArg0 l else a_litArg1 l) = nI t) (h : post (ck_rv (ck_res b 513 (ck_tm c t)))) : wpX_resolve post (f_litCount, f_clauseCount, f_stepCount, f_bufferSealed, f_lastCheckStep, f_keptCount, f_proofKept, f_openCount, f_universeSize, f_neededInstances, f_givenLiterals, a_litSign, a_litPred, a_litArg0, a_litArg1, a_clauseStart, a_predArity, a_stepKind, a_stepA, a_stepB, a_binding, a_keptKind, a_keptA, a_keptB, a_keptInstance, a_openCopy, a_openLit, a_parentCopy, a_parentLit, a_pathLength, a_atomBase, a_instanceLits, a_instanceHolds, a_literalHolds, a_restInstances, a_pathLiterals) (nI c) (nI l) (nI pos) := by
  have hin : vp_in (nI l) 16 := vp_in_nI hl (by decide)
  have fin : wpX_termOf (fun r_38 => (∃ n20 : Nat, wX_resolve_20 post f_litCount f_clauseCount f_stepCount f_bufferSealed f_lastCheckStep f_keptCount f_proofKept f_openCount f_universeSize f_neededInstances f_givenLiterals a_litSign a_litPred a_litArg0 a_litArg1 a_clauseStart a_predArity a_stepKind a_stepA a_stepB a_binding a_keptKind a_keptA a_keptB a_keptInstance a_openCopy a_openLit a_parentCopy a_parentLit a_pathLength a_atomBase a_instanceLits a_instanceHolds a_literalHolds a_restInstances a_pathLiterals n20 r_38 0)) (f_litCount, f_clauseCount, f_stepCount, f_bufferSealed, f_lastCheckStep, f_keptCount, f_proofKept, f_openCount, f_universeSize, f_neededInstances, f_givenLiterals, a_litSign, a_litPred, a_litArg0, a_litArg1, a_clauseStart, a_predArity, a_stepKind, a_stepA, a_stepB, a_binding, a_keptKind, a_keptA, a_keptB, a_keptInstance, a_openCopy, a_openLit, a_parentCopy, a_parentLit, a_pathLength, a_atomBase, a_instanceLits, a_instanceHolds, a_literalHolds, a_restInstances, a_pathLiterals) (nI c) (nI t) := by
    unfold ck_tm at h
    by_cases h2 : t < 2
    · rw [if_pos h2] at h
      refine br_t (nI_lt (b := 2) h2 (by decide)) ⟨_, xr_loop hb 513 t 0 rfl (by omega) h⟩
    · rw [if_neg h2] at h
      refine br_f (nI_nlt (b := 2) (by omega) (by omega)) ⟨514, ?_⟩
      rw [show (2 : Int32) = nI 2 from rfl, pk_mul, nI_add]
      exact xr_loop hb 513 (2 * c + t) 0 rfl (by omega) h
  by_cases e : pos = 0
  · subst e
    rw [if_pos rfl] at ha
    refine br_t rfl ⟨hin, ?_⟩
    rw [nI_clamp (show l < 2 ^ 31 by omega), ha]
    exact fin
  · have e1 : pos = 1 := by omega
    subst e1
    rw [if_neg e] at ha
    refine br_f (by decide) ⟨hin, ?_⟩
    rw [nI_clamp (show l < 2 ^ 31 by omega), ha]
    exact fin
end
/-! connections -/
theorem cd_arg {nc nl : Nat} {st : Nat → Nat} {sg pr a0 a1 ar : Nat → Int32} (hw : cd_wf nc nl st sg pr a0 a1 ar) {l : Nat} (hl : l < nl) :
    ck_ar (a0 l) (a1 l) ≤ 2 ∧ ∀ pos, pos < ck_ar (a0 l) (a1 l) → ∃ t, t < 4 ∧ (if pos = 0 then a0 l else a1 l) = nI t ∧ ck_ag a0 a1 l pos = t := by
  obtain ⟨_, _, _, _, _, _, w7, _⟩ := hw
  obtain ⟨_, _, l3, l4, l5⟩ := w7 l hl
  unfold ck_ar ck_ag
  by_cases e : a0 l = -1
  · rw [if_pos e]
    exact ⟨by omega, fun pos hp => absurd hp (Nat.not_lt_zero pos)⟩
  · obtain ⟨t0, ht0, e0⟩ := l3.resolve_left e
    rw [if_neg e]
    by_cases e2 : a1 l = -1
    · rw [if_pos e2]
      refine ⟨by omega, fun pos hp => ?_⟩
      have : pos = 0 := by omega
      subst this
      rw [if_pos rfl, if_pos rfl, e0]
      exact ⟨t0, ht0, rfl, nI_clamp (by omega)⟩
    · obtain ⟨t1, ht1, e1⟩ := l4.resolve_left e2
      rw [if_neg e2]
      refine ⟨by omega, fun pos hp => ?_⟩
      by_cases z : pos = 0
      · rw [if_pos z, if_pos z, e0]
        exact ⟨t0, ht0, rfl, nI_clamp (by omega)⟩
      · rw [if_neg z, if_neg z, e1]
        exact ⟨t1, ht1, rfl, nI_clamp (by omega)⟩
theorem cd_ar_eq {nc nl : Nat} {st : Nat → Nat} {sg pr a0 a1 ar : Nat → Int32} (hw : cd_wf nc nl st sg pr a0 a1 ar) {l l2 : Nat} (hl : l < nl) (hl2 : l2 < nl) (hp : pr l = pr l2) :
    ck_ar (a0 l) (a1 l) = ck_ar (a0 l2) (a1 l2) := by
  have b1 := (cd_arg hw hl).1
  have b2 := (cd_arg hw hl2).1
  obtain ⟨_, _, _, _, _, _, w7, _⟩ := hw
  obtain ⟨_, ⟨p, hp4, e, ea⟩, _⟩ := w7 l hl
  obtain ⟨_, ⟨p2, hp24, e2, ea2⟩, _⟩ := w7 l2 hl2
  rw [e, e2, nI_eq (by omega) (by omega)] at hp
  subst hp
  rw [ea, nI_eq (by omega) (by omega)] at ea2
  exact ea2
theorem ck_rv_none : ck_rv none = -1 := rfl
theorem ck_rv_some {x : Nat} (h : x < 514) : ¬ ck_rv (some x) = -1 := by
  show ¬ nI x = -1
  intro e
  have := congrArg Int32.toInt e
  rw [nI_toInt (by omega), show (-1 : Int32).toInt = -1 from by decide] at this
  omega
section
variable {f_litCount f_clauseCount f_stepCount f_bufferSealed f_lastCheckStep f_keptCount f_proofKept f_openCount f_universeSize f_neededInstances f_givenLiterals : Int32} {a_litSign a_litPred a_litArg0 a_litArg1 a_clauseStart a_predArity a_stepKind a_stepA a_stepB a_binding a_keptKind a_keptA a_keptB a_keptInstance a_openCopy a_openLit a_parentCopy a_parentLit a_pathLength a_atomBase a_instanceLits a_instanceHolds a_literalHolds a_restInstances a_pathLiterals : Nat → Int32}
theorem xj_conn {post : Int32 → Prop} {nc nl : Nat} {st : Nat → Nat} (hw : cd_wf nc nl st a_litSign a_litPred a_litArg0 a_litArg1 a_predArity) {b : Nat → Nat} (hb : cr_bx b a_binding)
    {M c1 l1 c2 l2 : Nat} (hM : M ≤ nl) (hc1 : c1 < 256) (hl1 : l1 < M) (hc2 : c2 < 256) (hl2 : l2 < M)
    (h : post (ck_conn (cd_mk M a_litSign) (cd_mk M a_litPred) (cd_mk M a_litArg0) (cd_mk M a_litArg1) b c1 l1 c2 l2)) : wpX_judgeConnection post (f_litCount, f_clauseCount, f_stepCount, f_bufferSealed, f_lastCheckStep, f_keptCount, f_proofKept, f_openCount, f_universeSize, f_neededInstances, f_givenLiterals, a_litSign, a_litPred, a_litArg0, a_litArg1, a_clauseStart, a_predArity, a_stepKind, a_stepA, a_stepB, a_binding, a_keptKind, a_keptA, a_keptB, a_keptInstance, a_openCopy, a_openLit, a_parentCopy, a_parentLit, a_pathLength, a_atomBase, a_instanceLits, a_instanceHolds, a_literalHolds, a_restInstances, a_pathLiterals) (nI c1) (nI l1) (nI c2) (nI l2) := by
  have hnl := hw.2.1
  have in1 : vp_in (nI l1) 16 := vp_in_nI (by omega) (by decide)
  have in2 : vp_in (nI l2) 16 := vp_in_nI (by omega) (by decide)
  have cl1 : (nI l1).toNatClampNeg = l1 := nI_clamp (by omega)
  have cl2 : (nI l2).toNatClampNeg = l2 := nI_clamp (by omega)
  unfold ck_conn at h
  rw [cd_mk_lt hl1, cd_mk_lt hl1, cd_mk_lt hl1, cd_mk_lt hl1, cd_mk_lt hl2, cd_mk_lt hl2] at h
  refine ⟨in1, in2, ?_⟩
  rw [cl1, cl2]
  refine br_c (fun e => ?_) (fun e => ⟨in1, in2, br_c (fun ep => ?_) (fun ep => ?_)⟩)
  · rw [if_pos (Or.inl e)] at h
    exact h
  · rw [if_neg (fun z => z.elim e (fun y => y ep))] at h
    obtain ⟨_, ⟨p, hp4, epr, ear⟩, _⟩ := hw.2.2.2.2.2.2.1 l1 (by omega)
    obtain ⟨ha2, harg⟩ := cd_arg hw (show l1 < nl by omega)
    obtain ⟨_, harg2⟩ := cd_arg hw (show l2 < nl by omega)
    rw [← cd_ar_eq hw (by omega) (by omega) ep] at harg2
    rw [epr, nI_clamp (show p < 2 ^ 31 by omega), ear]
    refine ⟨in1, vp_in_nI hp4 (by decide), nm_e ?_⟩
    have key : ∀ (r pos : Nat), pos + r = ck_ar (a_litArg0 l1) (a_litArg1 l1) →
        post (ck_ps b (fun p => ck_tm c1 (ck_ag (cd_mk M a_litArg0) (cd_mk M a_litArg1) l1 p)) (fun p => ck_tm c2 (ck_ag (cd_mk M a_litArg0) (cd_mk M a_litArg1) l2 p)) r pos) →
        wX_judgeConnection_51 post (nI c1) (nI l1) (nI c2) (nI l2) (nI (ck_ar (a_litArg0 l1) (a_litArg1 l1))) f_litCount f_clauseCount f_stepCount f_bufferSealed f_lastCheckStep f_keptCount f_proofKept f_openCount f_universeSize f_neededInstances f_givenLiterals a_litSign a_litPred a_litArg0 a_litArg1 a_clauseStart a_predArity a_stepKind a_stepA a_stepB a_binding a_keptKind a_keptA a_keptB a_keptInstance a_openCopy a_openLit a_parentCopy a_parentLit a_pathLength a_atomBase a_instanceLits a_instanceHolds a_literalHolds a_restInstances a_pathLiterals (r + 1) (nI pos) := by
      intro r
      induction r with
      | zero =>
        intro pos hpos hh
        exact br_t (nI_le (by omega) (by omega)) hh
      | succ r ih =>
        intro pos hpos hh
        refine br_f (nI_ge (show pos < ck_ar (a_litArg0 l1) (a_litArg1 l1) by omega) (by omega)) ?_
        obtain ⟨t, ht, et, eg⟩ := harg pos (by omega)
        obtain ⟨t2, ht2, et2, eg2⟩ := harg2 pos (by omega)
        have m1 : ck_ag (cd_mk M a_litArg0) (cd_mk M a_litArg1) l1 pos = t := by
          rw [← eg]; unfold ck_ag; rw [cd_mk_lt hl1, cd_mk_lt hl1]
        have m2 : ck_ag (cd_mk M a_litArg0) (cd_mk M a_litArg1) l2 pos = t2 := by
          rw [← eg2]; unfold ck_ag; rw [cd_mk_lt hl2, cd_mk_lt hl2]
        unfold ck_ps at hh
        try dsimp only at hh
        rw [m1, m2] at hh
        have hbt : ∀ t, t < 514 → b t < 514 := fun t ht => (hb.2.2 t ht).1
        have tm1 : ck_tm c1 t < 514 := by unfold ck_tm; split <;> omega
        have tm2 : ck_tm c2 t2 < 514 := by unfold ck_tm; split <;> omega
        refine xr_res hb hc1 (by omega) (by omega) ht et ?_
        refine xr_res hb hc2 (by omega) (by omega) ht2 et2 ?_
        cases o1 : ck_res b 513 (ck_tm c1 t) with
        | none =>
          rw [o1] at hh
          exact br_t rfl hh
        | some x =>
          have hx := ck_res_lt hbt 513 _ tm1 x o1
          rw [o1] at hh
          refine br_f (ck_rv_some hx) ?_
          cases o2 : ck_res b 513 (ck_tm c2 t2) with
          | none =>
            rw [o2] at hh
            exact br_t rfl hh
          | some y =>
            have hy := ck_res_lt hbt 513 _ tm2 y o2
            rw [o2] at hh
            try dsimp only at hh
            refine br_f (ck_rv_some hy) ?_
            refine pk_eq x y (fun e => ?_) (fun e => ?_)
            · rw [if_pos e] at hh
              exact nm_r (nI_1 pos) (ih (pos + 1) (by omega) hh)
            · rw [if_neg e] at hh
              exact hh
    exact ⟨_, key _ 0 (by omega) h⟩
  · rw [if_pos (Or.inr ep)] at h
    exact h
end
end
section
/-! X's steps -/
section
variable {f_litCount f_clauseCount f_stepCount f_bufferSealed f_lastCheckStep f_keptCount f_proofKept f_openCount f_universeSize f_neededInstances f_givenLiterals : Int32} {a_litSign a_litPred a_litArg0 a_litArg1 a_clauseStart a_predArity a_stepKind a_stepA a_stepB a_binding a_keptKind a_keptA a_keptB a_keptInstance a_openCopy a_openLit a_parentCopy a_parentLit a_pathLength a_atomBase a_instanceLits a_instanceHolds a_literalHolds a_restInstances a_pathLiterals : Nat → Int32}
theorem xj_redl {post : Int32 → Prop} {M a : Nat} {x2 x3 : Int32} : ∀ (p : List (Nat × Nat)) (c : Nat), c < 256 → xc_ch a_parentCopy a_parentLit a_pathLength M p c → a < p.length →
    wpX_judgeConnection post (f_litCount, f_clauseCount, f_stepCount, f_bufferSealed, f_lastCheckStep, f_keptCount, f_proofKept, f_openCount, f_universeSize, f_neededInstances, f_givenLiterals, a_litSign, a_litPred, a_litArg0, a_litArg1, a_clauseStart, a_predArity, a_stepKind, a_stepA, a_stepB, a_binding, a_keptKind, a_keptA, a_keptB, a_keptInstance, a_openCopy, a_openLit, a_parentCopy, a_parentLit, a_pathLength, a_atomBase, a_instanceLits, a_instanceHolds, a_literalHolds, a_restInstances, a_pathLiterals) x2 x3 (nI (p.getD (p.length - 1 - a) (0, 0)).1) (nI (p.getD (p.length - 1 - a) (0, 0)).2) →
    wX_judgeReduction_40 post x2 x3 (nI a) f_litCount f_clauseCount f_stepCount f_bufferSealed f_lastCheckStep f_keptCount f_proofKept f_openCount f_universeSize f_neededInstances f_givenLiterals a_litSign a_litPred a_litArg0 a_litArg1 a_clauseStart a_predArity a_stepKind a_stepA a_stepB a_binding a_keptKind a_keptA a_keptB a_keptInstance a_openCopy a_openLit a_parentCopy a_parentLit a_pathLength a_atomBase a_instanceLits a_instanceHolds a_literalHolds a_restInstances a_pathLiterals p.length (nI c) (nI (p.length - 1))
  | [], c, _, _, ha, _ => absurd ha (Nat.not_lt_zero a)
  | e :: p, c, hc, hch, ha, h => by
    obtain ⟨h1, h2, h3, h4, h5, h6⟩ := hch
    have hlen := (xc_ch_len h6).2
    have hin : vp_in (nI c) 256 := vp_in_nI hc (by decide)
    have cl : (nI c).toNatClampNeg = c := nI_clamp (by omega)
    rw [List.length_cons] at ha h
    show wX_judgeReduction_40 post x2 x3 (nI a) f_litCount f_clauseCount f_stepCount f_bufferSealed f_lastCheckStep f_keptCount f_proofKept f_openCount f_universeSize f_neededInstances f_givenLiterals a_litSign a_litPred a_litArg0 a_litArg1 a_clauseStart a_predArity a_stepKind a_stepA a_stepB a_binding a_keptKind a_keptA a_keptB a_keptInstance a_openCopy a_openLit a_parentCopy a_parentLit a_pathLength a_atomBase a_instanceLits a_instanceHolds a_literalHolds a_restInstances a_pathLiterals (p.length + 1) (nI c) (nI (p.length + 1 - 1))
    have e1 : p.length + 1 - 1 = p.length := by omega
    rw [e1] at h ⊢
    refine pk_le p.length a (fun z => ?_) (fun z => ?_)
    · rw [cl, h4, h5]
      have ea : p.length - a = 0 := by omega
      rw [ea] at h
      exact ⟨hin, hin, h⟩
    · rw [cl]
      refine ⟨hin, nm_r h4 ?_⟩
      obtain ⟨n, hn⟩ : ∃ n, p.length = n + 1 := ⟨p.length - 1, by omega⟩
      have e2 : nI p.length + (-1) = nI (p.length - 1) := by
        rw [hn, pk_m1]
        exact congrArg nI (by omega)
      refine nm_r e2 ?_
      have e3 : p.length - a = (p.length - 1 - a) + 1 := by omega
      rw [e3, List.getD_cons_succ] at h
      exact xj_redl p e.1 (by omega) h6 z h
theorem xj_red {post : Int32 → Prop} {M c i : Nat} {x3 : Int32} {p : List (Nat × Nat)} (hi : i < 256) (hc : c < 256) (hch : xc_ch a_parentCopy a_parentLit a_pathLength M p c)
    (h0 : ck_out (a_stepA i) p.length → post (-14))
    (h1 : ¬ ck_out (a_stepA i) p.length → wpX_judgeConnection post (f_litCount, f_clauseCount, f_stepCount, f_bufferSealed, f_lastCheckStep, f_keptCount, f_proofKept, f_openCount, f_universeSize, f_neededInstances, f_givenLiterals, a_litSign, a_litPred, a_litArg0, a_litArg1, a_clauseStart, a_predArity, a_stepKind, a_stepA, a_stepB, a_binding, a_keptKind, a_keptA, a_keptB, a_keptInstance, a_openCopy, a_openLit, a_parentCopy, a_parentLit, a_pathLength, a_atomBase, a_instanceLits, a_instanceHolds, a_literalHolds, a_restInstances, a_pathLiterals) (nI c) x3 (nI (p.getD (p.length - 1 - (a_stepA i).toNatClampNeg) (0, 0)).1) (nI (p.getD (p.length - 1 - (a_stepA i).toNatClampNeg) (0, 0)).2)) :
    wpX_judgeReduction post (f_litCount, f_clauseCount, f_stepCount, f_bufferSealed, f_lastCheckStep, f_keptCount, f_proofKept, f_openCount, f_universeSize, f_neededInstances, f_givenLiterals, a_litSign, a_litPred, a_litArg0, a_litArg1, a_clauseStart, a_predArity, a_stepKind, a_stepA, a_stepB, a_binding, a_keptKind, a_keptA, a_keptB, a_keptInstance, a_openCopy, a_openLit, a_parentCopy, a_parentLit, a_pathLength, a_atomBase, a_instanceLits, a_instanceHolds, a_literalHolds, a_restInstances, a_pathLiterals) (nI i) (nI c) x3 := by
  obtain ⟨el, hl⟩ := xc_ch_len hch
  refine ⟨vp_in_nI hi (by decide), ?_⟩
  rw [nI_clamp (show i < 2 ^ 31 by omega), nI_clamp (show c < 2 ^ 31 by omega), el]
  refine nm_e ?_
  rcases ck_out_or (a_stepA i) (n := p.length) (by omega) with ho | ⟨ho, a, ha, e⟩
  · by_cases hn : a_stepA i < 0
    · exact br_t hn (h0 ho)
    · refine br_f hn ⟨vp_in_nI hc (by decide), br_f (fun z => ?_) (h0 ho)⟩
      rcases ho with ho | ho
      · exact hn ho
      · exact absurd z (Int32.not_lt.mpr ho)
  · have hh := h1 ho
    rw [e, nI_clamp (show a < 2 ^ 31 by omega)] at hh
    rw [e]
    refine br_f (nI_pos (by omega)) ⟨vp_in_nI hc (by decide), br_t (nI_lt ha (by omega)) ⟨vp_in_nI hc (by decide), ?_⟩⟩
    have e2 : nI p.length - 1 = nI (p.length - 1) := by
      rw [show (1 : Int32) = nI 1 from rfl, pk_sub (by omega)]
    exact nm_r e2 ⟨_, xj_redl p c hc hch ha hh⟩
theorem xj_isC {post : Int32 → Prop} {nc : Nat} {x : Int32} (h0 : ck_out x nc → post 0) (h1 : ¬ ck_out x nc → post 1) : wpX_isClause post (f_litCount, nI nc, f_stepCount, f_bufferSealed, f_lastCheckStep, f_keptCount, f_proofKept, f_openCount, f_universeSize, f_neededInstances, f_givenLiterals, a_litSign, a_litPred, a_litArg0, a_litArg1, a_clauseStart, a_predArity, a_stepKind, a_stepA, a_stepB, a_binding, a_keptKind, a_keptA, a_keptB, a_keptInstance, a_openCopy, a_openLit, a_parentCopy, a_parentLit, a_pathLength, a_atomBase, a_instanceLits, a_instanceHolds, a_literalHolds, a_restInstances, a_pathLiterals) x := by
  refine br_c (fun e => h0 (Or.inl e)) (fun e => br_c (fun e2 => h0 (Or.inr e2)) (fun e2 => h1 (fun z => z.elim e e2)))
theorem xj_par {post : SX → Prop} {i c : Nat} {x2 : Int32} {n : Nat} (hi : i < 256) (hc : c < 256) (hl : a_pathLength c = nI n)
    (h : post (f_litCount, f_clauseCount, f_stepCount, f_bufferSealed, f_lastCheckStep, f_keptCount, f_proofKept, f_openCount, f_universeSize, f_neededInstances, f_givenLiterals, a_litSign, a_litPred, a_litArg0, a_litArg1, a_clauseStart, a_predArity, a_stepKind, a_stepA, a_stepB, a_binding, a_keptKind, a_keptA, a_keptB, a_keptInstance, a_openCopy, a_openLit, upd a_parentCopy i (nI c), upd a_parentLit i x2, upd a_pathLength i (nI (n + 1)), a_atomBase, a_instanceLits, a_instanceHolds, a_literalHolds, a_restInstances, a_pathLiterals)) : wpX_setParent post (f_litCount, f_clauseCount, f_stepCount, f_bufferSealed, f_lastCheckStep, f_keptCount, f_proofKept, f_openCount, f_universeSize, f_neededInstances, f_givenLiterals, a_litSign, a_litPred, a_litArg0, a_litArg1, a_clauseStart, a_predArity, a_stepKind, a_stepA, a_stepB, a_binding, a_keptKind, a_keptA, a_keptB, a_keptInstance, a_openCopy, a_openLit, a_parentCopy, a_parentLit, a_pathLength, a_atomBase, a_instanceLits, a_instanceHolds, a_literalHolds, a_restInstances, a_pathLiterals) (nI i) (nI c) x2 := by
  have in1 : vp_in (nI i) 256 := vp_in_nI hi (by decide)
  have in2 : vp_in (nI c) 256 := vp_in_nI hc (by decide)
  refine ⟨in1, ?_⟩
  rw [nI_clamp (show i < 2 ^ 31 by omega), nI_clamp (show c < 2 ^ 31 by omega), hl, nI_1]
  exact nm_e ⟨in1, nm_e ⟨in2, in1, nm_e h⟩⟩
/-- one step of the check -/
theorem xj_step {post : Int32 → SX → Prop} {nc nl : Nat} {st : Nat → Nat} (hw : cd_wf nc nl st a_litSign a_litPred a_litArg0 a_litArg1 a_predArity)
    (hcs : ∀ c, c ≤ nc → a_clauseStart c = nI (st c)) {b : Nat → Nat} (hb : cr_bx b a_binding) {i : Nat} (h1 : 1 ≤ i) (hi : i < 256) (hp0 : a_pathLength 0 = 0)
    {L : List ck_G} (hL : xc_stk a_openCopy a_openLit a_parentCopy a_parentLit a_pathLength (st nc) i L) (hlen : L.length ≤ i + 2)
    (h : ∀ (r x0 : Int32) (oc ol pc pl ph : Nat → Int32), r = (ck_step nc st (cd_mk (st nc) a_litSign) (cd_mk (st nc) a_litPred) (cd_mk (st nc) a_litArg0) (cd_mk (st nc) a_litArg1) a_stepKind a_stepA a_stepB b i L).1 → ph 0 = 0 →
      (r = 0 → x0 = nI (ck_step nc st (cd_mk (st nc) a_litSign) (cd_mk (st nc) a_litPred) (cd_mk (st nc) a_litArg0) (cd_mk (st nc) a_litArg1) a_stepKind a_stepA a_stepB b i L).2.length ∧
        (ck_step nc st (cd_mk (st nc) a_litSign) (cd_mk (st nc) a_litPred) (cd_mk (st nc) a_litArg0) (cd_mk (st nc) a_litArg1) a_stepKind a_stepA a_stepB b i L).2.length ≤ i + 3 ∧
        xc_stk oc ol pc pl ph (st nc) (i + 1) (ck_step nc st (cd_mk (st nc) a_litSign) (cd_mk (st nc) a_litPred) (cd_mk (st nc) a_litArg0) (cd_mk (st nc) a_litArg1) a_stepKind a_stepA a_stepB b i L).2) →
      post r (nI nl, nI nc, f_stepCount, f_bufferSealed, f_lastCheckStep, f_keptCount, f_proofKept, x0, f_universeSize, f_neededInstances, f_givenLiterals, a_litSign, a_litPred, a_litArg0, a_litArg1, a_clauseStart, a_predArity, a_stepKind, a_stepA, a_stepB, a_binding, a_keptKind, a_keptA, a_keptB, a_keptInstance, oc, ol, pc, pl, ph, a_atomBase, a_instanceLits, a_instanceHolds, a_literalHolds, a_restInstances, a_pathLiterals)) :
    wpX_judgeStep post (nI nl, nI nc, f_stepCount, f_bufferSealed, f_lastCheckStep, f_keptCount, f_proofKept, nI L.length, f_universeSize, f_neededInstances, f_givenLiterals, a_litSign, a_litPred, a_litArg0, a_litArg1, a_clauseStart, a_predArity, a_stepKind, a_stepA, a_stepB, a_binding, a_keptKind, a_keptA, a_keptB, a_keptInstance, a_openCopy, a_openLit, a_parentCopy, a_parentLit, a_pathLength, a_atomBase, a_instanceLits, a_instanceHolds, a_literalHolds, a_restInstances, a_pathLiterals) (nI i) := by
  have hM := hw.2.2.2.2.1
  have hnl := hw.2.1
  have hnc := hw.1
  match L, hL, hlen, h with
  | [], _, _, h => exact br_t rfl (h _ _ _ _ _ _ _ rfl hp0 (fun z => absurd z (by decide)))
  | (c, l, p) :: R, hL, hlen, h =>
    obtain ⟨s1, s2, s3, s4, s5, s6⟩ := hL
    rw [List.length_cons] at hlen
    try dsimp only at s1 s2 s3 s4 s5
    have hini : vp_in (nI i) 256 := vp_in_nI hi (by decide)
    have cli : (nI i).toNatClampNeg = i := nI_clamp (by omega)
    have hinR : vp_in (nI R.length) 258 := vp_in_nI (by omega) (by decide)
    refine br_f (nI_ne0 (by rw [List.length_cons]; omega) (by rw [List.length_cons]; omega)) ?_
    refine nm_r (by rw [List.length_cons]; exact nI_pred R.length) ⟨hinR, ?_⟩
    rw [nI_clamp (show R.length < 2 ^ 31 by omega), s1, s2, cli]
    refine nm_e ⟨hinR, nm_e ⟨hini, ?_⟩⟩
    unfold ck_step at h
    try dsimp only at h
    refine br_c (fun k0 => ?_) (fun k0 => ⟨hini, br_c (fun k1 => ?_) (fun k1 => ?_)⟩)
    · rw [ck_if_t k0] at h
      exact h _ _ _ _ _ _ _ rfl hp0 (fun z => absurd z (by decide))
    · rw [ck_if_f k0, ck_if_t k1] at h
      -- an extension
      refine ⟨hini, ?_⟩
      rw [cli]
      refine nm_e ?_
      refine xj_isC (fun ho => ?_) (fun ho => ?_)
      · rw [ck_if_t ho] at h
        exact br_t rfl (h _ _ _ _ _ _ _ rfl hp0 (fun z => absurd z (by decide)))
      · rw [ck_if_f ho] at h
        refine br_f (by decide) ?_
        obtain ⟨a, ha, ea⟩ := (ck_out_or (a_stepA i) (n := nc) (by omega)).resolve_left ho |>.2
        rw [ea, nI_clamp (show a < 2 ^ 31 by omega)] at h
        rw [ea]
        obtain ⟨b1, b2, b3⟩ := cd_en_bd hw (show a ≤ nc by omega)
        rw [cd_en_lt ha] at b1 b2 b3
        have hst : st (a + 1) ≤ st nc := cd_mono' hw (by omega) (Nat.le_refl _)
        refine xl_len hw hcs (by omega) ?_
        rw [cd_en_lt ha]
        refine ⟨hini, ?_⟩
        rcases ck_out_or (a_stepB i) (n := st (a + 1) - st a) (by omega) with hob | ⟨hob, bb, hbb, eb⟩
        · rw [ck_if_t hob] at h
          have fin := h _ (nI R.length) a_openCopy a_openLit a_parentCopy a_parentLit a_pathLength rfl hp0 (fun z => absurd (show (-13 : Int32) = 0 from z) (by decide))
          by_cases hn : a_stepB i < 0
          · exact br_t hn fin
          · refine br_f hn ⟨hini, br_f (fun z => ?_) fin⟩
            rcases hob with hob | hob
            · exact hn hob
            · exact absurd z (Int32.not_lt.mpr hob)
        · rw [ck_if_f hob, eb, nI_clamp (show bb < 2 ^ 31 by omega)] at h
          rw [eb]
          refine br_f (nI_pos (by omega)) ⟨hini, br_t (nI_lt hbb (by omega)) ⟨vp_in_nI (by omega) (by decide), ?_⟩⟩
          rw [nI_clamp (show a < 2 ^ 31 by omega), hcs a (by omega)]
          refine nm_e ⟨hini, nm_r (nI_add _ _) ?_⟩
          refine xj_conn hw hb hM (show c < 256 by omega) s4 hi (show st a + bb < st nc by omega) ?_
          by_cases hcn : ck_conn (cd_mk (st nc) a_litSign) (cd_mk (st nc) a_litPred) (cd_mk (st nc) a_litArg0) (cd_mk (st nc) a_litArg1) b c l i (st a + bb) = 0
          · rw [ck_if_t hcn] at h
            rw [hcn]
            refine br_t rfl ?_
            refine xj_par hi (show c < 256 by omega) (xc_ch_len s5).1 ?_
            have fr : ∀ j, j < i → upd a_parentCopy i (nI c) j = a_parentCopy j ∧ upd a_parentLit i (nI l) j = a_parentLit j ∧ upd a_pathLength i (nI (p.length + 1)) j = a_pathLength j := by
              intro j hj
              rw [pk_un (by omega), pk_un (by omega), pk_un (by omega)]
              exact ⟨rfl, rfl, rfl⟩
            have lsl : (ck_gl i (st a + bb) ((c, l) :: p) (st (a + 1) - st a) (st a)).length ≤ 2 := by
              have := ck_gl_len' (copy := i) (sk := st a + bb) (p := (c, l) :: p) (st (a + 1) - st a) (st a) (by omega) (by omega)
              omega
            have lsl' : (xg_ls (st a + bb) (st (a + 1) - st a) (st a)).length ≤ 2 := by
              rw [xg_gl, List.length_map] at lsl
              exact lsl
            refine xg_open (sk := st a + bb) (fun j hj1 hj2 => nI_eq (by omega) (by omega)) (by omega) (by omega) (fun oc ol hag hrep => ?_)
            refine h 0 _ oc ol _ _ _ rfl ?_ (fun _ => ⟨?_, ?_, ?_⟩)
            · rw [pk_un (by omega)]
              exact hp0
            · rw [List.length_append, xg_gl, List.length_map, Nat.add_comm]
            · rw [List.length_append]
              omega
            · rw [xg_gl]
              have hch : xc_ch (upd a_parentCopy i (nI c)) (upd a_parentLit i (nI l)) (upd a_pathLength i (nI (p.length + 1))) (st nc) ((c, l) :: p) i := ⟨s3, s4, pk_us, pk_us, pk_us, xc_ch_fr fr s3 s5⟩
              refine xc_stk_app (by omega) hch (xc_stk_fr (by omega) fr hag s6) (fun l' hl' => ?_) hrep
              have := xg_ls_mem hl'
              omega
          · rw [ck_if_f hcn] at h
            exact br_f hcn (h _ _ _ _ _ _ _ rfl hp0 (fun z => absurd z hcn))
    · rw [ck_if_f k0, ck_if_f k1] at h
      refine xj_red hi (show c < 256 by omega) s5 (fun ho => ?_) (fun ho => ?_)
      · rw [ck_if_t ho] at h
        exact h _ _ _ _ _ _ _ rfl hp0 (fun z => absurd z (by decide))
      · rw [ck_if_f ho] at h
        obtain ⟨a, ha, ea⟩ := (ck_out_or (a_stepA i) (n := p.length) (by have := (xc_ch_len s5).2; omega)).resolve_left ho |>.2
        rw [ea, nI_clamp (show a < 2 ^ 31 by have := (xc_ch_len s5).2; omega)] at h ⊢
        have hent := xc_ch_get s5 (p.length - 1 - a) (by omega)
        refine xj_conn hw hb hM (show c < 256 by omega) s4 (by omega) hent.2 ?_
        refine h _ _ _ _ _ _ _ rfl hp0 (fun _ => ⟨rfl, ?_, ?_⟩)
        · try dsimp only
          omega
        · exact xc_stk_fr (by omega) (fun _ _ => ⟨rfl, rfl, rfl⟩) (fun _ _ => ⟨rfl, rfl⟩) s6
end
section
variable {f_litCount f_clauseCount f_stepCount f_bufferSealed f_lastCheckStep f_keptCount f_proofKept f_openCount f_universeSize f_neededInstances f_givenLiterals : Int32} {a_litSign a_litPred a_litArg0 a_litArg1 a_clauseStart a_predArity a_stepKind a_stepA a_stepB a_binding a_keptKind a_keptA a_keptB a_keptInstance a_openCopy a_openLit a_parentCopy a_parentLit a_pathLength a_atomBase a_instanceLits a_instanceHolds a_literalHolds a_restInstances a_pathLiterals : Nat → Int32}
theorem xk_loop {post : Int32 → SX → Prop} {nc nl ns : Nat} {st : Nat → Nat} (hw : cd_wf nc nl st a_litSign a_litPred a_litArg0 a_litArg1 a_predArity)
    (hcs : ∀ c, c ≤ nc → a_clauseStart c = nI (st c)) {b : Nat → Nat} (hb : cr_bx b a_binding) (hns : ns ≤ 256) : ∀ (r i : Nat) (L : List ck_G) (x0 ls : Int32) (oc ol pc pl ph : Nat → Int32), i + r = ns → 1 ≤ i → ph 0 = 0 →
    x0 = nI L.length → L.length ≤ i + 2 → xc_stk oc ol pc pl ph (st nc) i L →
    (∀ (x0 : Int32) (oc ol pc pl ph : Nat → Int32), ph 0 = 0 →
      post (ck_go nc st (cd_mk (st nc) a_litSign) (cd_mk (st nc) a_litPred) (cd_mk (st nc) a_litArg0) (cd_mk (st nc) a_litArg1) a_stepKind a_stepA a_stepB b r i L).1
        (nI nl, nI nc, nI ns, f_bufferSealed, (ck_go nc st (cd_mk (st nc) a_litSign) (cd_mk (st nc) a_litPred) (cd_mk (st nc) a_litArg0) (cd_mk (st nc) a_litArg1) a_stepKind a_stepA a_stepB b r i L).2, f_keptCount, f_proofKept, x0, f_universeSize, f_neededInstances, f_givenLiterals, a_litSign, a_litPred, a_litArg0, a_litArg1, a_clauseStart, a_predArity, a_stepKind, a_stepA, a_stepB, a_binding, a_keptKind, a_keptA, a_keptB, a_keptInstance, oc, ol, pc, pl, ph, a_atomBase, a_instanceLits, a_instanceHolds, a_literalHolds, a_restInstances, a_pathLiterals)) →
    wX_check_12 post (r + 1) 0 (nI i) (nI nl) (nI nc) (nI ns) f_bufferSealed ls f_keptCount f_proofKept x0 f_universeSize f_neededInstances f_givenLiterals a_litSign a_litPred a_litArg0 a_litArg1 a_clauseStart a_predArity a_stepKind a_stepA a_stepB a_binding a_keptKind a_keptA a_keptB a_keptInstance oc ol pc pl ph a_atomBase a_instanceLits a_instanceHolds a_literalHolds a_restInstances a_pathLiterals
  | 0, i, L, x0, ls, oc, ol, pc, pl, ph, hir, h1, hp0, ex, hlen, hL, h => by
    have ei : i = ns := by omega
    subst ei
    refine br_t (nI_le (Nat.le_refl i) (by omega)) (br_t rfl ?_)
    unfold ck_go at h
    subst ex
    match L, h with
    | [], h => exact br_t (by decide) (h _ _ _ _ _ _ hp0)
    | g :: R, h => exact br_f (nI_nle (by rw [List.length_cons]; omega) (by rw [List.length_cons] at hlen ⊢; omega)) (h _ _ _ _ _ _ hp0)
  | r + 1, i, L, x0, ls, oc, ol, pc, pl, ph, hir, h1, hp0, ex, hlen, hL, h => by
    subst ex
    refine br_f (nI_ge (show i < ns by omega) (by omega)) (br_t rfl ?_)
    refine xj_step hw hcs hb h1 (by omega) hp0 hL hlen (fun rr x0' oc' ol' pc' pl' ph' er hp0' hz => nm_r (nI_1 i) ?_)
    rw [ck_go] at h
    by_cases z : (ck_step nc st (cd_mk (st nc) a_litSign) (cd_mk (st nc) a_litPred) (cd_mk (st nc) a_litArg0) (cd_mk (st nc) a_litArg1) a_stepKind a_stepA a_stepB b i L).1 = 0
    · rw [if_pos z] at h
      have er0 : rr = 0 := er.trans z
      subst er0
      obtain ⟨z1, z2, z3⟩ := hz rfl
      exact xk_loop hw hcs hb hns r (i + 1) _ _ _ oc' ol' pc' pl' ph' (by omega) (by omega) hp0' z1 (by omega) z3 h
    · rw [if_neg z] at h
      have hne : ¬ rr = 0 := fun e => z (er.symm.trans e)
      have fin : wX_check_41 post rr (nI nl) (nI nc) (nI ns) f_bufferSealed (nI i) f_keptCount f_proofKept x0' f_universeSize f_neededInstances f_givenLiterals a_litSign a_litPred a_litArg0 a_litArg1 a_clauseStart a_predArity a_stepKind a_stepA a_stepB a_binding a_keptKind a_keptA a_keptB a_keptInstance oc' ol' pc' pl' ph' a_atomBase a_instanceLits a_instanceHolds a_literalHolds a_restInstances a_pathLiterals := by
        refine br_f hne ?_
        rw [er]
        exact h _ _ _ _ _ _ hp0'
      exact br_c (fun _ => fin) (fun _ => br_f hne fin)
theorem xk_check {post : Int32 → SX → Prop} {nc nl ns : Nat} {st : Nat → Nat} (hw : cd_wf nc nl st a_litSign a_litPred a_litArg0 a_litArg1 a_predArity)
    (hcs : ∀ c, c ≤ nc → a_clauseStart c = nI (st c)) {b : Nat → Nat} (hb : cr_bx b a_binding) (hns : ns ≤ 256) (hp0 : a_pathLength 0 = 0)
    (h : ∀ (x0 : Int32) (oc ol pc pl ph : Nat → Int32), ph 0 = 0 →
      post (ck_all nc st (cd_mk (st nc) a_litSign) (cd_mk (st nc) a_litPred) (cd_mk (st nc) a_litArg0) (cd_mk (st nc) a_litArg1) a_stepKind a_stepA a_stepB b ns).1
        (nI nl, nI nc, nI ns, f_bufferSealed, (ck_all nc st (cd_mk (st nc) a_litSign) (cd_mk (st nc) a_litPred) (cd_mk (st nc) a_litArg0) (cd_mk (st nc) a_litArg1) a_stepKind a_stepA a_stepB b ns).2, f_keptCount, f_proofKept, x0, f_universeSize, f_neededInstances, f_givenLiterals, a_litSign, a_litPred, a_litArg0, a_litArg1, a_clauseStart, a_predArity, a_stepKind, a_stepA, a_stepB, a_binding, a_keptKind, a_keptA, a_keptB, a_keptInstance, oc, ol, pc, pl, ph, a_atomBase, a_instanceLits, a_instanceHolds, a_literalHolds, a_restInstances, a_pathLiterals)) :
    wpX_check post (nI nl, nI nc, nI ns, f_bufferSealed, f_lastCheckStep, f_keptCount, f_proofKept, f_openCount, f_universeSize, f_neededInstances, f_givenLiterals, a_litSign, a_litPred, a_litArg0, a_litArg1, a_clauseStart, a_predArity, a_stepKind, a_stepA, a_stepB, a_binding, a_keptKind, a_keptA, a_keptB, a_keptInstance, a_openCopy, a_openLit, a_parentCopy, a_parentLit, a_pathLength, a_atomBase, a_instanceLits, a_instanceHolds, a_literalHolds, a_restInstances, a_pathLiterals) := by
  have hM := hw.2.2.2.2.1
  have hnl := hw.2.1
  have hnc := hw.1
  -- a verdict of the start
  have bad : ∀ (r : Int32), ¬ r = 0 → post r (nI nl, nI nc, nI ns, f_bufferSealed, 0, f_keptCount, f_proofKept, f_openCount, f_universeSize, f_neededInstances, f_givenLiterals, a_litSign, a_litPred, a_litArg0, a_litArg1, a_clauseStart, a_predArity, a_stepKind, a_stepA, a_stepB, a_binding, a_keptKind, a_keptA, a_keptB, a_keptInstance, a_openCopy, a_openLit, a_parentCopy, a_parentLit, a_pathLength, a_atomBase, a_instanceLits, a_instanceHolds, a_literalHolds, a_restInstances, a_pathLiterals) → ∃ n12 : Nat, wX_check_12 post n12 r 1 (nI nl) (nI nc) (nI ns) f_bufferSealed 0 f_keptCount f_proofKept f_openCount f_universeSize f_neededInstances f_givenLiterals a_litSign a_litPred a_litArg0 a_litArg1 a_clauseStart a_predArity a_stepKind a_stepA a_stepB a_binding a_keptKind a_keptA a_keptB a_keptInstance a_openCopy a_openLit a_parentCopy a_parentLit a_pathLength a_atomBase a_instanceLits a_instanceHolds a_literalHolds a_restInstances a_pathLiterals := by
    intro r hr hh
    exact ⟨1, br_c (fun _ => br_f hr hh) (fun _ => br_f hr (br_f hr hh))⟩
  unfold ck_all at h
  by_cases e0 : ns = 0
  · rw [if_pos e0] at h
    subst e0
    exact br_t rfl (bad _ (by decide) (h _ _ _ _ _ _ hp0))
  · rw [if_neg e0] at h
    refine br_f (nI_ne0 (by omega) (by omega)) ?_
    refine br_c (fun k0 => ?_) (fun k0 => ?_)
    · rw [if_pos k0] at h
      refine nm_e ?_
      refine xj_isC (fun ho => ?_) (fun ho => ?_)
      · rw [ck_if_t ho] at h
        exact br_t rfl (bad _ (by decide) (h _ _ _ _ _ _ hp0))
      · rw [ck_if_f ho] at h
        refine br_f (by decide) ?_
        obtain ⟨a, ha, ea⟩ := (ck_out_or (a_stepA 0) (n := nc) (by omega)).resolve_left ho |>.2
        rw [ea, nI_clamp (show a < 2 ^ 31 by omega)] at h
        rw [ea]
        obtain ⟨b1, b2, b3⟩ := cd_en_bd hw (show a ≤ nc by omega)
        rw [cd_en_lt ha] at b1 b2 b3
        have hst : st (a + 1) ≤ st nc := cd_mono' hw (by omega) (Nat.le_refl _)
        refine xl_len hw hcs (by omega) ?_
        rw [cd_en_lt ha]
        refine ⟨vp_in_nI (by omega) (by decide), ?_⟩
        rw [nI_clamp (show a < 2 ^ 31 by omega), hcs a (by omega)]
        have lsl : (xg_ls 16 (st (a + 1) - st a) (st a)).length ≤ 3 := by
          have := ck_gl_len (copy := 0) (sk := 16) (p := []) (st (a + 1) - st a) (st a)
          rw [xg_gl, List.length_map] at this
          omega
        refine xg_open (base := 0) (sk := 16) (fun j hj1 hj2 => ?_) (by omega) (by omega) (fun oc ol hag hrep => ?_)
        · constructor
          · intro z
            have := congrArg Int32.toInt z
            rw [nI_toInt (by omega), show (-1 : Int32).toInt = -1 from by decide] at this
            omega
          · intro z
            omega
        · refine ⟨ns - 1 + 1, ?_⟩
          refine xk_loop hw hcs hb hns (ns - 1) 1 (ck_gl 0 16 [] (st (a + 1) - st a) (st a)) _ _ oc ol _ _ _ (by omega) (by omega) hp0 ?_ ?_ ?_ h
          · rw [xg_gl, List.length_map, Nat.zero_add]
          · rw [xg_gl, List.length_map]
            omega
          · rw [xg_gl, ← List.append_nil ((xg_ls 16 (st (a + 1) - st a) (st a)).map (fun l => ((0, l, []) : ck_G)))]
            have hch : xc_ch a_parentCopy a_parentLit a_pathLength (st nc) [] 0 := hp0
            refine xc_stk_app (R := []) (by omega) hch trivial (fun l' hl' => ?_) hrep
            have := xg_ls_mem hl'
            omega
    · rw [if_neg k0] at h
      exact bad _ (by decide) (h _ _ _ _ _ _ hp0)
end
end
section
/-! the goals as Y keeps them: nodes with parents -/
def yc_nd (cC cL cP : Nat → Int32) (M m : Nat) : List (Nat × Nat) → Nat → Nat → Nat → Prop
  | [], g, c, l => cC g = nI c ∧ cL g = nI l ∧ c < m ∧ l < M ∧ cP g = -1
  | e :: p, g, c, l => cC g = nI c ∧ cL g = nI l ∧ c < m ∧ l < M ∧ ∃ g', g' < g ∧ cP g = nI g' ∧ yc_nd cC cL cP M m p g' e.1 e.2
def yc_stk (cC cL cP cS : Nat → Int32) (M m N : Nat) : List ck_G → Prop
  | [] => True
  | g :: R => (∃ q, q < N ∧ cS R.length = nI q ∧ yc_nd cC cL cP M m g.2.2 q g.1 g.2.1) ∧ yc_stk cC cL cP cS M m N R
theorem yc_nd_hd {cC cL cP : Nat → Int32} {M m : Nat} : ∀ {p : List (Nat × Nat)} {g c l : Nat}, yc_nd cC cL cP M m p g c l → cC g = nI c ∧ cL g = nI l ∧ c < m ∧ l < M
  | [], _, _, _, h => ⟨h.1, h.2.1, h.2.2.1, h.2.2.2.1⟩
  | _ :: _, _, _, _, h => ⟨h.1, h.2.1, h.2.2.1, h.2.2.2.1⟩
theorem yc_nd_len {cC cL cP : Nat → Int32} {M m : Nat} : ∀ {p : List (Nat × Nat)} {g c l : Nat}, yc_nd cC cL cP M m p g c l → p.length ≤ g
  | [], _, _, _, _ => Nat.zero_le _
  | e :: p, g, _, _, h => by
    obtain ⟨_, _, _, _, g', h1, _, h2⟩ := h
    have := yc_nd_len h2
    rw [List.length_cons]
    omega
theorem yc_nd_get {cC cL cP : Nat → Int32} {M m : Nat} : ∀ {p : List (Nat × Nat)} {g c l : Nat}, yc_nd cC cL cP M m p g c l → ∀ n, n < p.length → (p.getD n (0, 0)).1 < m ∧ (p.getD n (0, 0)).2 < M
  | [], _, _, _, _, n, hn => absurd hn (Nat.not_lt_zero n)
  | e :: p, _, _, _, h, 0, _ => by
    obtain ⟨_, _, _, _, g', h1, _, h2⟩ := h
    have := yc_nd_hd h2
    exact ⟨this.2.2.1, this.2.2.2⟩
  | e :: p, _, _, _, h, n + 1, hn => by
    obtain ⟨_, _, _, _, g', h1, _, h2⟩ := h
    rw [List.getD_cons_succ]
    exact yc_nd_get h2 n (by rw [List.length_cons] at hn; omega)
theorem yc_nd_fr {cC cL cP cC' cL' cP' : Nat → Int32} {M m m' N : Nat} (hm : m ≤ m') (hf : ∀ j, j < N → cC' j = cC j ∧ cL' j = cL j ∧ cP' j = cP j) :
    ∀ {p : List (Nat × Nat)} {g c l : Nat}, g < N → yc_nd cC cL cP M m p g c l → yc_nd cC' cL' cP' M m' p g c l
  | [], g, _, _, hg, h => by
    obtain ⟨f1, f2, f3⟩ := hf g hg
    exact ⟨by rw [f1]; exact h.1, by rw [f2]; exact h.2.1, Nat.lt_of_lt_of_le h.2.2.1 hm, h.2.2.2.1, by rw [f3]; exact h.2.2.2.2⟩
  | e :: p, g, _, _, hg, h => by
    obtain ⟨f1, f2, f3⟩ := hf g hg
    obtain ⟨a1, a2, a3, a4, g', h1, h2, h3⟩ := h
    exact ⟨by rw [f1]; exact a1, by rw [f2]; exact a2, Nat.lt_of_lt_of_le a3 hm, a4, g', h1, by rw [f3]; exact h2, yc_nd_fr hm hf (by omega) h3⟩
theorem yc_stk_fr {cC cL cP cS cC' cL' cP' cS' : Nat → Int32} {M m m' N N' : Nat} (hm : m ≤ m') (hN : N ≤ N') (hf : ∀ j, j < N → cC' j = cC j ∧ cL' j = cL j ∧ cP' j = cP j) :
    ∀ {L : List ck_G}, (∀ j, j < L.length → cS' j = cS j) → yc_stk cC cL cP cS M m N L → yc_stk cC' cL' cP' cS' M m' N' L
  | [], _, _ => trivial
  | g :: R, ho, h => by
    obtain ⟨⟨q, h1, h2, h3⟩, h4⟩ := h
    exact ⟨⟨q, by omega, by rw [ho R.length (by rw [List.length_cons]; omega)]; exact h2, yc_nd_fr hm hf h1 h3⟩, yc_stk_fr hm hN hf (fun j hj => ho j (by rw [List.length_cons]; omega)) h4⟩
/-! pushing: over all literals, those of clause c -/
def yg_k (s e k : Nat) : Nat := if k ≤ s then s else if e ≤ k then e else k
theorem yg_k_lo {s e k : Nat} (h : k ≤ s) : yg_k s e k = s := if_pos h
theorem yg_k_hi {s e k : Nat} (hse : s ≤ e) (h : e ≤ k) : yg_k s e k = e := by
  unfold yg_k
  by_cases z : k ≤ s
  · rw [if_pos z]; omega
  · rw [if_neg z, if_pos h]
theorem yg_k_mid {s e k : Nat} (h1 : s ≤ k) (h2 : k ≤ e) : yg_k s e k = k := by
  unfold yg_k
  by_cases z : k ≤ s
  · rw [if_pos z]; omega
  · rw [if_neg z]
    by_cases z2 : e ≤ k
    · rw [if_pos z2]; omega
    · rw [if_neg z2]
def yg_l (sk s e k : Nat) : List Nat := xg_ls sk (e - yg_k s e k) (yg_k s e k)
theorem yg_l_top {sk s e k : Nat} (hse : s ≤ e) (h : e ≤ k) : yg_l sk s e k = [] := by
  unfold yg_l
  rw [yg_k_hi hse h, Nat.sub_self]
  rfl
theorem yg_l_0 {sk s e : Nat} : yg_l sk s e 0 = xg_ls sk (e - s) s := by
  unfold yg_l
  rw [yg_k_lo (Nat.zero_le s)]
theorem yg_l_out {sk s e k : Nat} (hse : s ≤ e) (h : ¬ (s ≤ k ∧ k < e)) : yg_l sk s e k = yg_l sk s e (k + 1) := by
  unfold yg_l
  by_cases z : k < s
  · rw [yg_k_lo (by omega), yg_k_lo (by omega)]
  · rw [yg_k_hi hse (by omega), yg_k_hi hse (by omega)]
theorem yg_l_in {sk s e k : Nat} (h1 : s ≤ k) (h2 : k < e) : yg_l sk s e k = if k = sk then yg_l sk s e (k + 1) else k :: yg_l sk s e (k + 1) := by
  unfold yg_l
  rw [yg_k_mid h1 (by omega), yg_k_mid (by omega) (by omega)]
  have e1 : e - k = (e - (k + 1)) + 1 := by omega
  rw [e1]
  by_cases z : k = sk
  · rw [if_pos z, xg_ls_t z]
  · rw [if_neg z, xg_ls_f z]
theorem yg_l_suf {sk s e : Nat} (hse : s ≤ e) : ∀ k, (yg_l sk s e k).length ≤ (xg_ls sk (e - s) s).length := by
  intro k
  unfold yg_l
  have hk : s ≤ yg_k s e k ∧ yg_k s e k ≤ e := by
    unfold yg_k
    by_cases z : k ≤ s
    · rw [if_pos z]; omega
    · rw [if_neg z]
      by_cases z2 : e ≤ k
      · rw [if_pos z2]; omega
      · rw [if_neg z2]; omega
  have h := xg_ls_suf (sk := sk) (e - s) s (yg_k s e k - s) (by omega)
  have e1 : e - s - (yg_k s e k - s) = e - yg_k s e k := by omega
  have e2 : s + (yg_k s e k - s) = yg_k s e k := by omega
  rw [e1, e2] at h
  exact h
def yg_rep (cC cL cP cS : Nat → Int32) (x1 x4 : Int32) (N S : Nat) : List Nat → Prop
  | [] => True
  | l :: ls => cC (N + ls.length) = x1 ∧ cL (N + ls.length) = nI l ∧ cP (N + ls.length) = x4 ∧ cS (S + ls.length) = nI (N + ls.length) ∧ yg_rep cC cL cP cS x1 x4 N S ls
theorem yg_rep_fr {cC cL cP cS cC' cL' cP' cS' : Nat → Int32} {x1 x4 : Int32} {N S : Nat} : ∀ {ls : List Nat}, (∀ j, j < N + ls.length → cC' j = cC j ∧ cL' j = cL j ∧ cP' j = cP j) → (∀ j, j < S + ls.length → cS' j = cS j) →
    yg_rep cC cL cP cS x1 x4 N S ls → yg_rep cC' cL' cP' cS' x1 x4 N S ls
  | [], _, _, _ => trivial
  | l :: ls, ho, hs, h => by
    obtain ⟨o1, o2, o3⟩ := ho (N + ls.length) (by rw [List.length_cons]; omega)
    have o4 := hs (S + ls.length) (by rw [List.length_cons]; omega)
    obtain ⟨h1, h2, h3, h4, h5⟩ := h
    exact ⟨by rw [o1]; exact h1, by rw [o2]; exact h2, by rw [o3]; exact h3, by rw [o4]; exact h4, yg_rep_fr (fun j hj => ho j (by rw [List.length_cons]; omega)) (fun j hj => hs j (by rw [List.length_cons]; omega)) h5⟩
section
variable {f_clauseCount f_litCount f_kept f_kN f_bN f_sealed f_lastStep f_cNodes f_cSp f_pNodes f_pSp : Int32} {a_lSign a_lPred a_lA0 a_lA1 a_lOwner a_arity a_kKind a_kA a_kB a_kBind a_bKind a_bA a_bB a_bBind a_cCopy a_cLit a_cPar a_cStk a_cl a_gtab a_pLit a_pPar a_pStk : Nat → Int32}
theorem yg_push {post : SY → Prop} {nc nl : Nat} {st : Nat → Nat} {sg pr a0 a1 ar : Nat → Int32} (hw : cd_wf nc nl st sg pr a0 a1 ar) (ho : cd_own nc nl st a_lOwner) {c N S sk : Nat} {x1 x4 skI : Int32} (hc : c ≤ nc)
    (hsk : ∀ j, j < nl → (nI j = skI ↔ j = sk)) (rN : N + (xg_ls sk (cd_en nc nl st c - st c) (st c)).length ≤ 520) (rS : S + (xg_ls sk (cd_en nc nl st c - st c) (st c)).length ≤ 520)
    (h : ∀ cC cL cP cS : Nat → Int32, (∀ j, j < N → cC j = a_cCopy j ∧ cL j = a_cLit j ∧ cP j = a_cPar j) → (∀ j, j < S → cS j = a_cStk j) →
      yg_rep cC cL cP cS x1 x4 N S (xg_ls sk (cd_en nc nl st c - st c) (st c)) →
      post (f_clauseCount, nI nl, f_kept, f_kN, f_bN, f_sealed, f_lastStep, nI (N + (xg_ls sk (cd_en nc nl st c - st c) (st c)).length), nI (S + (xg_ls sk (cd_en nc nl st c - st c) (st c)).length), f_pNodes, f_pSp, a_lSign, a_lPred, a_lA0, a_lA1, a_lOwner, a_arity, a_kKind, a_kA, a_kB, a_kBind, a_bKind, a_bA, a_bB, a_bBind, cC, cL, cP, cS, a_cl, a_gtab, a_pLit, a_pPar, a_pStk)) :
    wpY_pushCopy post (f_clauseCount, nI nl, f_kept, f_kN, f_bN, f_sealed, f_lastStep, nI N, nI S, f_pNodes, f_pSp, a_lSign, a_lPred, a_lA0, a_lA1, a_lOwner, a_arity, a_kKind, a_kA, a_kB, a_kBind, a_bKind, a_bA, a_bB, a_bBind, a_cCopy, a_cLit, a_cPar, a_cStk, a_cl, a_gtab, a_pLit, a_pPar, a_pStk) x1 (nI c) skI x4 := by
  obtain ⟨b1, b2, b3⟩ := cd_en_bd hw hc
  have hnl := hw.2.1
  have key : ∀ k, k ≤ nl → ∀ (cC cL cP cS : Nat → Int32), (∀ j, j < N → cC j = a_cCopy j ∧ cL j = a_cLit j ∧ cP j = a_cPar j) → (∀ j, j < S → cS j = a_cStk j) →
      yg_rep cC cL cP cS x1 x4 N S (yg_l sk (st c) (cd_en nc nl st c) k) →
      wY_pushCopy_8 post x1 (nI c) skI x4 f_clauseCount (nI nl) f_kept f_kN f_bN f_sealed f_lastStep f_pNodes f_pSp (k + 1) (nI k + (-1)) (nI (N + (yg_l sk (st c) (cd_en nc nl st c) k).length)) (nI (S + (yg_l sk (st c) (cd_en nc nl st c) k).length)) a_lSign a_lPred a_lA0 a_lA1 a_lOwner a_arity a_kKind a_kA a_kB a_kBind a_bKind a_bA a_bB a_bBind cC cL cP cS a_cl a_gtab a_pLit a_pPar a_pStk := by
    intro k
    induction k with
    | zero =>
      intro _ cC cL cP cS hag hs hrep
      rw [yg_l_0] at hrep ⊢
      exact br_t (by decide) (h cC cL cP cS hag hs hrep)
    | succ k ih =>
      intro hk cC cL cP cS hag hs hrep
      rw [pk_m1]
      have ih2 := ih (by omega)
      refine br_f (nI_pos (by omega)) ⟨vp_in_nI (by omega) (by decide), ?_⟩
      rw [nI_clamp (show k < 2 ^ 31 by omega)]
      refine ek_if (cd_own_iff hw ho (show k < nl by omega) hc) (fun z => ?_) (fun z => nm_e ?_)
      · rw [yg_l_in z.1 z.2] at ih2
        refine ek_if (hsk k (by omega)) (fun e => nm_e ?_) (fun e => ?_)
        · rw [if_pos e] at ih2
          exact ih2 cC cL cP cS hag hs hrep
        · rw [if_neg e] at ih2
          have hsuf := yg_l_suf (sk := sk) b1 k
          rw [yg_l_in z.1 z.2, if_neg e, List.length_cons] at hsuf
          have inN : vp_in (nI (N + (yg_l sk (st c) (cd_en nc nl st c) (k + 1)).length)) 520 := vp_in_nI (by omega) (by decide)
          have inS : vp_in (nI (S + (yg_l sk (st c) (cd_en nc nl st c) (k + 1)).length)) 520 := vp_in_nI (by omega) (by decide)
          refine br_f (nI_ge (b := 520) (by omega) (by decide)) (br_t (nI_lt (b := 520) (by omega) (by decide)) ?_)
          rw [nI_clamp (show N + (yg_l sk (st c) (cd_en nc nl st c) (k + 1)).length < 2 ^ 31 by omega), nI_clamp (show S + (yg_l sk (st c) (cd_en nc nl st c) (k + 1)).length < 2 ^ 31 by omega)]
          refine ⟨inN, nm_e ⟨inN, nm_e ⟨inN, nm_e ⟨inS, nm_e (nm_r (nI_1 _) (nm_r (nI_1 _) (nm_e ?_)))⟩⟩⟩⟩
          refine ih2 _ _ _ _ (fun j hj => ?_) (fun j hj => ?_) ⟨pk_us, pk_us, pk_us, pk_us, yg_rep_fr (fun j hj => ?_) (fun j hj => ?_) hrep⟩
          · rw [pk_un (by omega), pk_un (by omega), pk_un (by omega)]
            exact hag j hj
          · rw [pk_un (by omega)]
            exact hs j hj
          · rw [pk_un (by omega), pk_un (by omega), pk_un (by omega)]
            exact ⟨rfl, rfl, rfl⟩
          · rw [pk_un (by omega)]
      · rw [yg_l_out b1 z] at ih2
        exact ih2 cC cL cP cS hag hs hrep
  have k0 := key nl (Nat.le_refl _) a_cCopy a_cLit a_cPar a_cStk (fun _ _ => ⟨rfl, rfl, rfl⟩) (fun _ _ => rfl) (by rw [yg_l_top b1 b3]; trivial)
  rw [yg_l_top b1 b3] at k0
  exact nm_r (Int32.sub_eq_add_neg _ _) ⟨_, k0⟩
end
theorem yc_stk_app {cC cL cP cS : Nat → Int32} {M m N copy : Nat} {x4 : Int32} {p : List (Nat × Nat)} {R : List ck_G} (hc : copy < m)
    (hpar : ∀ q, N ≤ q → ∀ l, l < M → cC q = nI copy → cL q = nI l → cP q = x4 → yc_nd cC cL cP M m p q copy l) {N' : Nat} (hR : yc_stk cC cL cP cS M m N' R) :
    ∀ {ls : List Nat}, N + ls.length ≤ N' → (∀ l, l ∈ ls → l < M) → yg_rep cC cL cP cS (nI copy) x4 N R.length ls → yc_stk cC cL cP cS M m N' (ls.map (fun l => (copy, l, p)) ++ R)
  | [], _, _, _ => hR
  | l :: ls, hN, hl, hr => by
    rw [List.length_cons] at hN
    have e : (ls.map (fun l => ((copy, l, p) : ck_G)) ++ R).length = R.length + ls.length := by
      rw [List.length_append, List.length_map]; omega
    obtain ⟨r1, r2, r3, r4, r5⟩ := hr
    refine ⟨⟨N + ls.length, by omega, ?_, hpar _ (by omega) l (hl l List.mem_cons_self) r1 r2 r3⟩, yc_stk_app hc hpar hR (by omega) (fun l' h' => hl l' (List.mem_cons_of_mem l h')) r5⟩
    show cS (ls.map (fun l => ((copy, l, p) : ck_G)) ++ R).length = nI (N + ls.length)
    rw [e]
    exact r4
/-! resolving -/
def ck_ry (o : Option Nat) : Int32 := match o with
  | some x => nI x
  | none => -2
theorem ck_ry_some {x : Nat} (h : x < 514) : ¬ ck_ry (some x) = -2 := by
  show ¬ nI x = -2
  intro e
  have := congrArg Int32.toInt e
  rw [nI_toInt (by omega), show (-2 : Int32).toInt = -2 from by decide] at this
  omega
section
variable {f_clauseCount f_litCount f_kept f_kN f_bN f_sealed f_lastStep f_cNodes f_cSp f_pNodes f_pSp : Int32} {a_lSign a_lPred a_lA0 a_lA1 a_lOwner a_arity a_kKind a_kA a_kB a_kBind a_bKind a_bA a_bB a_bBind a_cCopy a_cLit a_cPar a_cStk a_cl a_gtab a_pLit a_pPar a_pStk : Nat → Int32}
theorem yr_loop {post : Int32 → Prop} {b : Nat → Nat} (hb : cr_by b a_bBind) : ∀ (n t mv : Nat), mv + n = 512 → t < 514 → post (ck_ry (ck_res b (n + 1) t)) → wY_resolve_20 post f_clauseCount f_litCount f_kept f_kN f_bN f_sealed f_lastStep f_cNodes f_cSp f_pNodes f_pSp a_lSign a_lPred a_lA0 a_lA1 a_lOwner a_arity a_kKind a_kA a_kB a_kBind a_bKind a_bA a_bB a_bBind a_cCopy a_cLit a_cPar a_cStk a_cl a_gtab a_pLit a_pPar a_pStk (n + 1) (nI t) (nI mv) := by
  intro n
  induction n with
  | zero =>
    intro t mv hm ht h
    obtain ⟨hb1, hb2⟩ := hb.2.2 t ht
    refine br_f (nI_nlt (b := mv) (a := 512) (by omega) (by decide)) ?_
    unfold ck_res at h
    refine pk_le 2 t (fun h2 => ?_) (fun h2 => ?_)
    · have e2 : nI t - 2 = nI (t - 2) := by rw [show (2 : Int32) = nI 2 from rfl, pk_sub h2]
      rw [e2]
      refine ⟨vp_in_nI (by omega) (by decide), ?_⟩
      rw [nI_clamp (show t - 2 < 2 ^ 31 by omega)]
      refine nm_r (hb2 h2) ?_
      by_cases e : b t = t
      · rw [if_pos e] at h ⊢
        exact br_f (by decide) h
      · rw [if_neg e] at h ⊢
        refine br_t (nI_pos' (by omega)) (br_t ?_ h)
        have : mv = 512 := by omega
        rw [this]
        rfl
    · have e : b t = t := by
        have : t = 0 ∨ t = 1 := by omega
        rcases this with z | z <;> rw [z]
        · exact hb.1
        · exact hb.2.1
      rw [if_pos e] at h
      exact h
  | succ n ih =>
    intro t mv hm ht h
    obtain ⟨hb1, hb2⟩ := hb.2.2 t ht
    refine br_f (nI_nlt (b := mv) (a := 512) (by omega) (by decide)) ?_
    rw [ck_res] at h
    refine pk_le 2 t (fun h2 => ?_) (fun h2 => ?_)
    · have e2 : nI t - 2 = nI (t - 2) := by rw [show (2 : Int32) = nI 2 from rfl, pk_sub h2]
      rw [e2]
      refine ⟨vp_in_nI (by omega) (by decide), ?_⟩
      rw [nI_clamp (show t - 2 < 2 ^ 31 by omega)]
      refine nm_r (hb2 h2) ?_
      by_cases e : b t = t
      · rw [if_pos e] at h ⊢
        exact br_f (by decide) h
      · rw [if_neg e] at h ⊢
        refine br_t (nI_pos' (by omega)) (br_f ?_ (nm_r (nI_1 mv) (ih (b t) (mv + 1) (by omega) hb1 h)))
        intro z
        rw [show (512 : Int32) = nI 512 from rfl, nI_eq (by omega) (by omega)] at z
        omega
    · have e : b t = t := by
        have : t = 0 ∨ t = 1 := by omega
        rcases this with z | z <;> rw [z]
        · exact hb.1
        · exact hb.2.1
      rw [if_pos e] at h
      exact h
theorem yr_res {post : Int32 → Prop} {b : Nat → Nat} (hb : cr_by b a_bBind) {c t : Nat} (hc : c < 256) (ht : t < 4) (h : post (ck_ry (ck_res b 513 (ck_tm c t)))) : wpY_resolve post (f_clauseCount, f_litCount, f_kept, f_kN, f_bN, f_sealed, f_lastStep, f_cNodes, f_cSp, f_pNodes, f_pSp, a_lSign, a_lPred, a_lA0, a_lA1, a_lOwner, a_arity, a_kKind, a_kA, a_kB, a_kBind, a_bKind, a_bA, a_bB, a_bBind, a_cCopy, a_cLit, a_cPar, a_cStk, a_cl, a_gtab, a_pLit, a_pPar, a_pStk) (nI c) (nI t) := by
  unfold ck_tm at h
  refine pk_le 2 t (fun h2 => ?_) (fun h2 => ?_)
  · rw [if_neg (by omega)] at h
    have e : (2 + nI c * 2) + (nI t - 2) = nI (2 * c + t) := by
      rw [show (2 : Int32) = nI 2 from rfl, pk_mul, pk_sub h2, nI_add, nI_add]
      exact congrArg nI (by omega)
    exact nm_r e ⟨_, yr_loop hb 512 (2 * c + t) 0 rfl (by omega) h⟩
  · rw [if_pos (by omega)] at h
    have e : b t = t := by
      have : t = 0 ∨ t = 1 := by omega
      rcases this with z | z <;> rw [z]
      · exact hb.1
      · exact hb.2.1
    rw [ck_res0 e] at h
    exact h
end
end
section
section
variable {f_clauseCount f_litCount f_kept f_kN f_bN f_sealed f_lastStep f_cNodes f_cSp f_pNodes f_pSp : Int32} {a_lSign a_lPred a_lA0 a_lA1 a_lOwner a_arity a_kKind a_kA a_kB a_kBind a_bKind a_bA a_bB a_bBind a_cCopy a_cLit a_cPar a_cStk a_cl a_gtab a_pLit a_pPar a_pStk : Nat → Int32}
theorem yj_conn {post : Int32 → SY → Prop} {nc nl : Nat} {st : Nat → Nat} (hw : cd_wf nc nl st a_lSign a_lPred a_lA0 a_lA1 a_arity) {b : Nat → Nat} (hb : cr_by b a_bBind)
    {M g c l c2 l2 : Nat} {x1 x3 x4 : Int32} (hM : M ≤ nl) (hg : g < 520) (eC : a_cCopy g = nI c) (eL : a_cLit g = nI l) (hc : c < 256) (hl : l < M) (hc2 : c2 < 256) (hl2 : l2 < M)
    (h0 : ck_conn (cd_mk M a_lSign) (cd_mk M a_lPred) (cd_mk M a_lA0) (cd_mk M a_lA1) b c l c2 l2 = 0 → ((x3 = 1 → (wpY_pushCopy (fun u => post 0 u) (f_clauseCount, f_litCount, f_kept, f_kN, f_bN, f_sealed, f_lastStep, f_cNodes, f_cSp, f_pNodes, f_pSp, a_lSign, a_lPred, a_lA0, a_lA1, a_lOwner, a_arity, a_kKind, a_kA, a_kB, a_kBind, a_bKind, a_bA, a_bB, a_bBind, a_cCopy, a_cLit, a_cPar, a_cStk, a_cl, a_gtab, a_pLit, a_pPar, a_pStk) x1 x4 (nI l2) (nI g))) ∧ (¬ x3 = 1 → (post 0 (f_clauseCount, f_litCount, f_kept, f_kN, f_bN, f_sealed, f_lastStep, f_cNodes, f_cSp, f_pNodes, f_pSp, a_lSign, a_lPred, a_lA0, a_lA1, a_lOwner, a_arity, a_kKind, a_kA, a_kB, a_kBind, a_bKind, a_bA, a_bB, a_bBind, a_cCopy, a_cLit, a_cPar, a_cStk, a_cl, a_gtab, a_pLit, a_pPar, a_pStk)))))
    (h1 : ¬ ck_conn (cd_mk M a_lSign) (cd_mk M a_lPred) (cd_mk M a_lA0) (cd_mk M a_lA1) b c l c2 l2 = 0 → post (ck_conn (cd_mk M a_lSign) (cd_mk M a_lPred) (cd_mk M a_lA0) (cd_mk M a_lA1) b c l c2 l2) (f_clauseCount, f_litCount, f_kept, f_kN, f_bN, f_sealed, f_lastStep, f_cNodes, f_cSp, f_pNodes, f_pSp, a_lSign, a_lPred, a_lA0, a_lA1, a_lOwner, a_arity, a_kKind, a_kA, a_kB, a_kBind, a_bKind, a_bA, a_bB, a_bBind, a_cCopy, a_cLit, a_cPar, a_cStk, a_cl, a_gtab, a_pLit, a_pPar, a_pStk)) :
    wY_stepCheck_192 post x1 (nI g) x3 x4 (nI c2) (nI l2) f_clauseCount f_litCount f_kept f_kN f_bN f_sealed f_lastStep f_cNodes f_cSp f_pNodes f_pSp a_lSign a_lPred a_lA0 a_lA1 a_lOwner a_arity a_kKind a_kA a_kB a_kBind a_bKind a_bA a_bB a_bBind a_cCopy a_cLit a_cPar a_cStk a_cl a_gtab a_pLit a_pPar a_pStk := by
  have hnl := hw.2.1
  have ing : vp_in (nI g) 520 := vp_in_nI hg (by decide)
  have clg : (nI g).toNatClampNeg = g := nI_clamp (by omega)
  have in1 : vp_in (nI l) 16 := vp_in_nI (by omega) (by decide)
  have in2 : vp_in (nI l2) 16 := vp_in_nI (by omega) (by decide)
  have cl1 : (nI l).toNatClampNeg = l := nI_clamp (by omega)
  have cl2 : (nI l2).toNatClampNeg = l2 := nI_clamp (by omega)
  unfold ck_conn at h0 h1
  rw [cd_mk_lt hl, cd_mk_lt hl, cd_mk_lt hl, cd_mk_lt hl, cd_mk_lt hl2, cd_mk_lt hl2] at h0 h1
  refine ⟨ing, ?_⟩
  rw [clg, eL]
  refine nm_e ⟨in1, in2, ?_⟩
  rw [cl1, cl2]
  refine br_c (fun e => ?_) (fun e => ⟨in1, in2, br_c (fun ep => ?_) (fun ep => ?_)⟩)
  · rw [if_pos (Or.inl e)] at h1
    exact h1 (by decide)
  · rw [if_neg (fun z => z.elim e (fun y => y ep))] at h0 h1
    obtain ⟨_, ⟨p, hp4, epr, ear⟩, _⟩ := hw.2.2.2.2.2.2.1 l (by omega)
    obtain ⟨ha2, harg⟩ := cd_arg hw (show l < nl by omega)
    obtain ⟨_, harg2⟩ := cd_arg hw (show l2 < nl by omega)
    rw [← cd_ar_eq hw (by omega) (by omega) ep] at harg2
    rw [epr, nI_clamp (show p < 2 ^ 31 by omega), ear]
    refine ⟨in1, vp_in_nI hp4 (by decide), nm_e ?_⟩
    have key : ∀ (r pos : Nat), pos + r = ck_ar (a_lA0 l) (a_lA1 l) →
        (ck_ps b (fun p => ck_tm c (ck_ag (cd_mk M a_lA0) (cd_mk M a_lA1) l p)) (fun p => ck_tm c2 (ck_ag (cd_mk M a_lA0) (cd_mk M a_lA1) l2 p)) r pos = 0 → ((x3 = 1 → (wpY_pushCopy (fun u => post 0 u) (f_clauseCount, f_litCount, f_kept, f_kN, f_bN, f_sealed, f_lastStep, f_cNodes, f_cSp, f_pNodes, f_pSp, a_lSign, a_lPred, a_lA0, a_lA1, a_lOwner, a_arity, a_kKind, a_kA, a_kB, a_kBind, a_bKind, a_bA, a_bB, a_bBind, a_cCopy, a_cLit, a_cPar, a_cStk, a_cl, a_gtab, a_pLit, a_pPar, a_pStk) x1 x4 (nI l2) (nI g))) ∧ (¬ x3 = 1 → (post 0 (f_clauseCount, f_litCount, f_kept, f_kN, f_bN, f_sealed, f_lastStep, f_cNodes, f_cSp, f_pNodes, f_pSp, a_lSign, a_lPred, a_lA0, a_lA1, a_lOwner, a_arity, a_kKind, a_kA, a_kB, a_kBind, a_bKind, a_bA, a_bB, a_bBind, a_cCopy, a_cLit, a_cPar, a_cStk, a_cl, a_gtab, a_pLit, a_pPar, a_pStk))))) →
        (¬ ck_ps b (fun p => ck_tm c (ck_ag (cd_mk M a_lA0) (cd_mk M a_lA1) l p)) (fun p => ck_tm c2 (ck_ag (cd_mk M a_lA0) (cd_mk M a_lA1) l2 p)) r pos = 0 → post (ck_ps b (fun p => ck_tm c (ck_ag (cd_mk M a_lA0) (cd_mk M a_lA1) l p)) (fun p => ck_tm c2 (ck_ag (cd_mk M a_lA0) (cd_mk M a_lA1) l2 p)) r pos) (f_clauseCount, f_litCount, f_kept, f_kN, f_bN, f_sealed, f_lastStep, f_cNodes, f_cSp, f_pNodes, f_pSp, a_lSign, a_lPred, a_lA0, a_lA1, a_lOwner, a_arity, a_kKind, a_kA, a_kB, a_kBind, a_bKind, a_bA, a_bB, a_bBind, a_cCopy, a_cLit, a_cPar, a_cStk, a_cl, a_gtab, a_pLit, a_pPar, a_pStk)) →
        wY_stepCheck_254 post x1 (nI g) x3 x4 (nI c2) (nI l2) (nI l) (nI (ck_ar (a_lA0 l) (a_lA1 l))) f_clauseCount f_litCount f_kept f_kN f_bN f_sealed f_lastStep f_cNodes f_cSp f_pNodes f_pSp a_lSign a_lPred a_lA0 a_lA1 a_lOwner a_arity a_kKind a_kA a_kB a_kBind a_bKind a_bA a_bB a_bBind a_cCopy a_cLit a_cPar a_cStk a_cl a_gtab a_pLit a_pPar a_pStk (r + 1) (nI pos) := by
      intro r
      induction r with
      | zero =>
        intro pos hpos hh0 _
        exact br_t (nI_le (by omega) (by omega)) (hh0 rfl)
      | succ r ih =>
        intro pos hpos hh0 hh1
        refine br_f (nI_ge (show pos < ck_ar (a_lA0 l) (a_lA1 l) by omega) (by omega)) ⟨ing, ?_⟩
        obtain ⟨t, ht, et, eg⟩ := harg pos (by omega)
        obtain ⟨t2, ht2, et2, eg2⟩ := harg2 pos (by omega)
        have m1 : ck_ag (cd_mk M a_lA0) (cd_mk M a_lA1) l pos = t := by
          rw [← eg]; unfold ck_ag; rw [cd_mk_lt hl, cd_mk_lt hl]
        have m2 : ck_ag (cd_mk M a_lA0) (cd_mk M a_lA1) l2 pos = t2 := by
          rw [← eg2]; unfold ck_ag; rw [cd_mk_lt hl2, cd_mk_lt hl2]
        rw [ck_ps] at hh0 hh1
        try dsimp only at hh0 hh1
        rw [m1, m2] at hh0 hh1
        have hbt : ∀ t, t < 514 → b t < 514 := fun t ht => (hb.2.2 t ht).1
        have tm1 : ck_tm c t < 514 := by unfold ck_tm; split <;> omega
        have tm2 : ck_tm c2 t2 < 514 := by unfold ck_tm; split <;> omega
        -- behind both resolutions
        have tail : (ck_ry (ck_res b 513 (ck_tm c t)) = (-2) → post (-17) (f_clauseCount, f_litCount, f_kept, f_kN, f_bN, f_sealed, f_lastStep, f_cNodes, f_cSp, f_pNodes, f_pSp, a_lSign, a_lPred, a_lA0, a_lA1, a_lOwner, a_arity, a_kKind, a_kA, a_kB, a_kBind, a_bKind, a_bA, a_bB, a_bBind, a_cCopy, a_cLit, a_cPar, a_cStk, a_cl, a_gtab, a_pLit, a_pPar, a_pStk)) ∧ (¬ ck_ry (ck_res b 513 (ck_tm c t)) = (-2) → ((ck_ry (ck_res b 513 (ck_tm c2 t2)) = (-2) → post (-17) (f_clauseCount, f_litCount, f_kept, f_kN, f_bN, f_sealed, f_lastStep, f_cNodes, f_cSp, f_pNodes, f_pSp, a_lSign, a_lPred, a_lA0, a_lA1, a_lOwner, a_arity, a_kKind, a_kA, a_kB, a_kBind, a_bKind, a_bA, a_bB, a_bBind, a_cCopy, a_cLit, a_cPar, a_cStk, a_cl, a_gtab, a_pLit, a_pPar, a_pStk)) ∧ (¬ ck_ry (ck_res b 513 (ck_tm c2 t2)) = (-2) → ((ck_ry (ck_res b 513 (ck_tm c t)) = ck_ry (ck_res b 513 (ck_tm c2 t2)) → (∀ x9_179 : Int32, x9_179 = nI pos + 1 → wY_stepCheck_254 post x1 (nI g) x3 x4 (nI c2) (nI l2) (nI l) (nI (ck_ar (a_lA0 l) (a_lA1 l))) f_clauseCount f_litCount f_kept f_kN f_bN f_sealed f_lastStep f_cNodes f_cSp f_pNodes f_pSp a_lSign a_lPred a_lA0 a_lA1 a_lOwner a_arity a_kKind a_kA a_kB a_kBind a_bKind a_bA a_bB a_bBind a_cCopy a_cLit a_cPar a_cStk a_cl a_gtab a_pLit a_pPar a_pStk (r + 1) x9_179)) ∧ (¬ ck_ry (ck_res b 513 (ck_tm c t)) = ck_ry (ck_res b 513 (ck_tm c2 t2)) → post (-16) (f_clauseCount, f_litCount, f_kept, f_kN, f_bN, f_sealed, f_lastStep, f_cNodes, f_cSp, f_pNodes, f_pSp, a_lSign, a_lPred, a_lA0, a_lA1, a_lOwner, a_arity, a_kKind, a_kA, a_kB, a_kBind, a_bKind, a_bA, a_bB, a_bBind, a_cCopy, a_cLit, a_cPar, a_cStk, a_cl, a_gtab, a_pLit, a_pPar, a_pStk)))))) := by
          cases o1 : ck_res b 513 (ck_tm c t) with
          | none =>
            rw [o1] at hh1
            exact br_t rfl (hh1 (fun z => absurd (show (-17 : Int32) = 0 from z) (by decide)))
          | some x =>
            have hx := ck_res_lt hbt 513 _ tm1 x o1
            rw [o1] at hh0 hh1
            refine br_f (ck_ry_some hx) ?_
            cases o2 : ck_res b 513 (ck_tm c2 t2) with
            | none =>
              rw [o2] at hh1
              exact br_t rfl (hh1 (fun z => absurd (show (-17 : Int32) = 0 from z) (by decide)))
            | some y =>
              have hy := ck_res_lt hbt 513 _ tm2 y o2
              rw [o2] at hh0 hh1
              try dsimp only at hh0 hh1
              refine br_f (ck_ry_some hy) ?_
              refine pk_eq x y (fun e => ?_) (fun e => ?_)
              · rw [if_pos e] at hh0 hh1
                exact nm_r (nI_1 pos) (ih (pos + 1) (by omega) hh0 hh1)
              · rw [if_neg e] at hh1
                exact hh1 (by decide)
        have hp2 : pos = 0 ∨ pos = 1 := by omega
        rcases hp2 with z | z
        · subst z
          rw [if_pos rfl] at et et2
          rw [et] at tail
          refine br_t rfl ⟨in1, ?_⟩
          rw [cl1, et, clg, eC]
          refine yr_res hb hc ht ?_
          refine br_t rfl ⟨in2, ?_⟩
          rw [cl2, et2]
          exact yr_res hb hc2 ht2 tail
        · subst z
          rw [if_neg (by decide)] at et et2
          rw [et] at tail
          refine br_f (by decide) ⟨in1, ?_⟩
          rw [cl1, et, clg, eC]
          refine yr_res hb hc ht ?_
          refine br_f (by decide) ⟨in2, ?_⟩
          rw [cl2, et2]
          exact yr_res hb hc2 ht2 tail
    exact ⟨_, key _ 0 (by omega) h0 h1⟩
  · rw [if_pos (Or.inr ep)] at h1
    exact h1 (by decide)
theorem yj_depth {post : Int32 → Prop} {M m : Nat} : ∀ (p : List (Nat × Nat)) (g c l d t : Nat), yc_nd a_cCopy a_cLit a_cPar M m p g c l → g < 520 → t + p.length ≤ 520 → d + p.length < 2 ^ 30 → post (nI (d + p.length)) →
    wY_cDepth_12 post f_clauseCount f_litCount f_kept f_kN f_bN f_sealed f_lastStep f_cNodes f_cSp f_pNodes f_pSp a_lSign a_lPred a_lA0 a_lA1 a_lOwner a_arity a_kKind a_kA a_kB a_kBind a_bKind a_bA a_bB a_bBind a_cCopy a_cLit a_cPar a_cStk a_cl a_gtab a_pLit a_pPar a_pStk (p.length + 1) (nI d) (a_cPar g) (nI t)
  | [], g, c, l, d, t, h, hg, ht, hd, hp => by
    rw [h.2.2.2.2]
    exact br_c (fun _ => hp) (fun _ => br_t (by decide) hp)
  | e :: p, g, c, l, d, t, h, hg, ht, hd, hp => by
    obtain ⟨_, _, _, _, g', h1, h2, h3⟩ := h
    rw [List.length_cons] at ht hd hp
    rw [h2]
    refine br_f (nI_ge (b := 520) (by omega) (by decide)) (br_f (nI_pos (by omega)) (nm_r (nI_1 d) ⟨vp_in_nI (by omega) (by decide), ?_⟩))
    rw [nI_clamp (show g' < 2 ^ 31 by omega)]
    refine nm_e (nm_r (nI_1 t) ?_)
    refine yj_depth p g' e.1 e.2 (d + 1) (t + 1) h3 (by omega) (by omega) (by omega) ?_
    have e1 : d + 1 + p.length = d + (p.length + 1) := by omega
    rw [e1]
    exact hp
theorem yj_up {post : Int32 → SY → Prop} {M m T : Nat} {x1 x2 x3 x4 x7 : Int32} (eT : x7 - x4 = nI T) (hT : T < 2 ^ 30) : ∀ (n : Nat) (p : List (Nat × Nat)) (g c l t : Nat), yc_nd a_cCopy a_cLit a_cPar M m p g c l → g < 520 → n ≤ p.length → t + n = T →
    wY_stepCheck_192 post x1 x2 x3 x4 (nI (((c, l) :: p).getD n (0, 0)).1) (nI (((c, l) :: p).getD n (0, 0)).2) f_clauseCount f_litCount f_kept f_kN f_bN f_sealed f_lastStep f_cNodes f_cSp f_pNodes f_pSp a_lSign a_lPred a_lA0 a_lA1 a_lOwner a_arity a_kKind a_kA a_kB a_kBind a_bKind a_bA a_bB a_bBind a_cCopy a_cLit a_cPar a_cStk a_cl a_gtab a_pLit a_pPar a_pStk → wY_stepCheck_149 post x1 x2 x3 x4 x7 f_clauseCount f_litCount f_kept f_kN f_bN f_sealed f_lastStep f_cNodes f_cSp f_pNodes f_pSp a_lSign a_lPred a_lA0 a_lA1 a_lOwner a_arity a_kKind a_kA a_kB a_kBind a_bKind a_bA a_bB a_bBind a_cCopy a_cLit a_cPar a_cStk a_cl a_gtab a_pLit a_pPar a_pStk (n + 1) (nI g) (nI t)
  | 0, p, g, c, l, t, h, hg, _, ht, hh => by
    obtain ⟨eC, eL, _, _⟩ := yc_nd_hd h
    have ing : vp_in (nI g) 520 := vp_in_nI hg (by decide)
    have clg : (nI g).toNatClampNeg = g := nI_clamp (by omega)
    refine br_t (by rw [eT]; exact nI_le (by omega) (by omega)) ⟨ing, ?_⟩
    rw [clg, eC, eL]
    exact nm_e ⟨ing, nm_e hh⟩
  | n + 1, [], _, _, _, _, _, _, hn, _, _ => absurd hn (Nat.not_succ_le_zero n)
  | n + 1, e :: p, g, c, l, t, h, hg, hn, ht, hh => by
    obtain ⟨_, _, _, _, g', h1, h2, h3⟩ := h
    rw [List.length_cons] at hn
    refine br_f (by rw [eT]; exact nI_ge (by omega) (by omega)) ⟨vp_in_nI hg (by decide), ?_⟩
    rw [nI_clamp (show g < 2 ^ 31 by omega)]
    refine nm_r h2 (nm_r (nI_1 t) ?_)
    rw [List.getD_cons_succ] at hh
    exact yj_up eT hT n p g' e.1 e.2 (t + 1) h3 (by omega) (by omega) (by omega) hh
/-- one step of the check -/
theorem yj_step {post : Int32 → SY → Prop} {nc nl : Nat} {st : Nat → Nat} (hw : cd_wf nc nl st a_lSign a_lPred a_lA0 a_lA1 a_arity) (how : cd_own nc nl st a_lOwner)
    {b : Nat → Nat} (hb : cr_by b a_bBind) {i N : Nat} (h1 : 1 ≤ i) (hi : i < 256) (hN : N ≤ 2 * i + 1)
    {L : List ck_G} (hL : yc_stk a_cCopy a_cLit a_cPar a_cStk (st nc) i N L) (hlen : L.length ≤ N)
    (h : ∀ (r y0 y1 : Int32) (cC cL cP cS : Nat → Int32), r = (ck_step nc st (cd_mk (st nc) a_lSign) (cd_mk (st nc) a_lPred) (cd_mk (st nc) a_lA0) (cd_mk (st nc) a_lA1) a_bKind a_bA a_bB b i L).1 →
      (r = 0 → ∃ N', y0 = nI N' ∧ N' ≤ 2 * (i + 1) + 1 ∧ y1 = nI (ck_step nc st (cd_mk (st nc) a_lSign) (cd_mk (st nc) a_lPred) (cd_mk (st nc) a_lA0) (cd_mk (st nc) a_lA1) a_bKind a_bA a_bB b i L).2.length ∧
        (ck_step nc st (cd_mk (st nc) a_lSign) (cd_mk (st nc) a_lPred) (cd_mk (st nc) a_lA0) (cd_mk (st nc) a_lA1) a_bKind a_bA a_bB b i L).2.length ≤ N' ∧
        yc_stk cC cL cP cS (st nc) (i + 1) N' (ck_step nc st (cd_mk (st nc) a_lSign) (cd_mk (st nc) a_lPred) (cd_mk (st nc) a_lA0) (cd_mk (st nc) a_lA1) a_bKind a_bA a_bB b i L).2) →
      post r (nI nc, nI nl, f_kept, f_kN, f_bN, f_sealed, f_lastStep, y0, y1, f_pNodes, f_pSp, a_lSign, a_lPred, a_lA0, a_lA1, a_lOwner, a_arity, a_kKind, a_kA, a_kB, a_kBind, a_bKind, a_bA, a_bB, a_bBind, cC, cL, cP, cS, a_cl, a_gtab, a_pLit, a_pPar, a_pStk)) :
    wpY_stepCheck post (nI nc, nI nl, f_kept, f_kN, f_bN, f_sealed, f_lastStep, nI N, nI L.length, f_pNodes, f_pSp, a_lSign, a_lPred, a_lA0, a_lA1, a_lOwner, a_arity, a_kKind, a_kA, a_kB, a_kBind, a_bKind, a_bA, a_bB, a_bBind, a_cCopy, a_cLit, a_cPar, a_cStk, a_cl, a_gtab, a_pLit, a_pPar, a_pStk) (nI i) := by
  have hM := hw.2.2.2.2.1
  have hnl := hw.2.1
  have hnc := hw.1
  match L, hL, hlen, h with
  | [], _, _, h => exact br_t rfl (h _ _ _ _ _ _ _ rfl (fun z => absurd z (by decide)))
  | (c, l, p) :: R, hL, hlen, h =>
    obtain ⟨⟨q, hq, s2, s3⟩, s6⟩ := hL
    try dsimp only at s3
    rw [List.length_cons] at hlen
    obtain ⟨eC, eL, hcm, hlM⟩ := yc_nd_hd s3
    have hpl := yc_nd_len s3
    have hini : vp_in (nI i) 256 := vp_in_nI hi (by decide)
    have cli : (nI i).toNatClampNeg = i := nI_clamp (by omega)
    have hinR : vp_in (nI R.length) 520 := vp_in_nI (by omega) (by decide)
    refine br_f (nI_ne0 (by rw [List.length_cons]; omega) (by rw [List.length_cons]; omega)) ?_
    refine nm_r (by rw [List.length_cons]; exact nI_pred R.length) ⟨hinR, ?_⟩
    rw [nI_clamp (show R.length < 2 ^ 31 by omega), s2, cli]
    refine nm_e ⟨hini, nm_e ?_⟩
    unfold ck_step at h
    try dsimp only at h
    refine br_c (fun k0 => ?_) (fun k0 => ⟨hini, nm_e (br_c (fun k1 => ?_) (fun k1 => ?_))⟩)
    · rw [ck_if_t k0] at h
      exact h _ _ _ _ _ _ _ rfl (fun z => absurd z (by decide))
    · rw [ck_if_f k0, ck_if_t k1] at h
      rcases ck_out_or (a_bA i) (n := nc) (by omega) with ho | ⟨ho, a, ha, ea⟩
      · rw [ck_if_t ho] at h
        have fin := h _ (nI N) (nI R.length) a_cCopy a_cLit a_cPar a_cStk rfl (fun z => absurd (show (-12 : Int32) = 0 from z) (by decide))
        by_cases hn : a_bA i < 0
        · exact br_t hn fin
        · refine br_f hn (br_f (fun z => ?_) fin)
          rcases ho with ho | ho
          · exact hn ho
          · exact absurd z (Int32.not_lt.mpr ho)
      · rw [ck_if_f ho, ea, nI_clamp (show a < 2 ^ 31 by omega)] at h
        rw [ea]
        obtain ⟨b1, b2, b3⟩ := cd_en_bd hw (show a ≤ nc by omega)
        have een : cd_en nc nl st a = st (a + 1) := cd_en_lt ha
        rw [een] at b1 b2 b3
        have hst : st (a + 1) ≤ st nc := cd_mono' hw (by omega) (Nat.le_refl _)
        refine br_f (nI_pos (by omega)) (br_t (nI_lt ha (by omega)) ⟨hini, ?_⟩)
        rcases ck_out_or (a_bB i) (n := st (a + 1) - st a) (by omega) with hob | ⟨hob, bb, hbb, eb⟩
        · rw [ck_if_t hob] at h
          have fin := h _ (nI N) (nI R.length) a_cCopy a_cLit a_cPar a_cStk rfl (fun z => absurd (show (-13 : Int32) = 0 from z) (by decide))
          by_cases hn : a_bB i < 0
          · exact br_t hn fin
          · refine br_f hn ⟨hini, ?_⟩
            refine yl_lenOf hw how (by omega) ?_
            rw [een]
            refine br_f (fun z => ?_) fin
            rcases hob with hob | hob
            · exact hn hob
            · exact absurd z (Int32.not_lt.mpr hob)
        · rw [ck_if_f hob, eb, nI_clamp (show bb < 2 ^ 31 by omega)] at h
          rw [eb]
          refine br_f (nI_pos (by omega)) ⟨hini, ?_⟩
          refine yl_lenOf hw how (by omega) ?_
          rw [een]
          refine br_t (nI_lt hbb (by omega)) ⟨hini, ?_⟩
          refine yl_nth hw how (by omega) (by rw [een]; exact hbb) ?_
          rw [k1]
          refine yj_conn hw hb hM (show q < 520 by omega) eC eL (by omega) hlM hi (show st a + bb < st nc by omega) (fun hcn => br_t rfl ?_) (fun hcn => ?_)
          · rw [ck_if_t hcn] at h
            have lsl' : (xg_ls (st a + bb) (st (a + 1) - st a) (st a)).length ≤ 2 := by
              have := ck_gl_len' (copy := i) (sk := st a + bb) (p := (c, l) :: p) (st (a + 1) - st a) (st a) (by omega) (by omega)
              rw [xg_gl, List.length_map] at this
              omega
            refine yg_push hw how (sk := st a + bb) (by omega) (fun j hj => nI_eq (by omega) (by omega)) (by rw [een]; omega) (by rw [een]; omega) (fun cC cL cP cS hag hs hrep => ?_)
            rw [een] at hrep ⊢
            refine h 0 _ _ cC cL cP cS rfl (fun _ => ⟨_, rfl, by omega, ?_, ?_, ?_⟩)
            · rw [List.length_append, xg_gl, List.length_map, Nat.add_comm]
            · rw [List.length_append, xg_gl, List.length_map]
              omega
            · rw [xg_gl]
              have s3' := yc_nd_fr (m' := i + 1) (by omega) hag hq s3
              have hpar : ∀ q', N ≤ q' → ∀ l', l' < st nc → cC q' = nI i → cL q' = nI l' → cP q' = nI q → yc_nd cC cL cP (st nc) (i + 1) ((c, l) :: p) q' i l' := fun q' hq' l' hl' e1 e2 e3 => ⟨e1, e2, by omega, hl', q, by omega, e3, s3'⟩
              refine yc_stk_app (N := N) (x4 := nI q) (by omega) hpar (yc_stk_fr (by omega) (by omega) hag hs s6) (by omega) (fun l' hl' => ?_) hrep
              have := xg_ls_mem hl'
              omega
          · rw [ck_if_f hcn] at h
            exact h _ _ _ _ _ _ _ rfl (fun z => absurd z hcn)
    · rw [ck_if_f k0, ck_if_f k1] at h
      refine ⟨vp_in_nI (show q < 520 by omega) (by decide), ?_⟩
      rw [nI_clamp (show q < 2 ^ 31 by omega)]
      refine nm_e ⟨_, yj_depth p q c l 0 0 s3 (by omega) (by omega) (by omega) ?_⟩
      rw [Nat.zero_add]
      rcases ck_out_or (a_bA i) (n := p.length) (by omega) with ho | ⟨ho, a, ha, ea⟩
      · rw [ck_if_t ho] at h
        have fin := h _ (nI N) (nI R.length) a_cCopy a_cLit a_cPar a_cStk rfl (fun z => absurd (show (-14 : Int32) = 0 from z) (by decide))
        by_cases hn : a_bA i < 0
        · exact br_t hn fin
        · refine br_f hn (br_f (fun z => ?_) fin)
          rcases ho with ho | ho
          · exact hn ho
          · exact absurd z (Int32.not_lt.mpr ho)
      · rw [ck_if_f ho, ea, nI_clamp (show a < 2 ^ 31 by omega)] at h
        rw [ea]
        refine br_f (nI_pos (by omega)) (br_t (nI_lt ha (by omega)) ⟨p.length - a + 1, ?_⟩)
        have hent := yc_nd_get s3 (p.length - 1 - a) (by omega)
        refine yj_up (T := p.length - a) (pk_sub (by omega)) (by omega) (p.length - a) p q c l 0 s3 (by omega) (by omega) (by omega) ?_
        have e1 : p.length - a = (p.length - 1 - a) + 1 := by omega
        rw [e1, List.getD_cons_succ]
        refine yj_conn hw hb hM (show q < 520 by omega) eC eL (by omega) hlM (by omega) hent.2 (fun hcn => br_f k1 ?_) (fun hcn => ?_)
        · rw [hcn] at h
          refine h 0 _ _ _ _ _ _ rfl (fun _ => ⟨N, rfl, by omega, rfl, by dsimp only; omega, ?_⟩)
          exact yc_stk_fr (by omega) (Nat.le_refl _) (fun _ _ => ⟨rfl, rfl, rfl⟩) (fun _ _ => rfl) s6
        · exact h _ _ _ _ _ _ _ rfl (fun z => absurd z hcn)
theorem yk_loop {post : Int32 → SY → Prop} {nc nl ns : Nat} {st : Nat → Nat} (hw : cd_wf nc nl st a_lSign a_lPred a_lA0 a_lA1 a_arity) (how : cd_own nc nl st a_lOwner)
    {b : Nat → Nat} (hb : cr_by b a_bBind) (hns : ns ≤ 256) : ∀ (r i N : Nat) (L : List ck_G) (y0 y1 : Int32) (cC cL cP cS : Nat → Int32), i + r = ns → 1 ≤ i → N ≤ 2 * i + 1 → y0 = nI N →
    y1 = nI L.length → L.length ≤ N → yc_stk cC cL cP cS (st nc) i N L →
    (∀ (y0 y1 : Int32) (cC cL cP cS : Nat → Int32),
      post (ck_go nc st (cd_mk (st nc) a_lSign) (cd_mk (st nc) a_lPred) (cd_mk (st nc) a_lA0) (cd_mk (st nc) a_lA1) a_bKind a_bA a_bB b r i L).1
        (nI nc, nI nl, f_kept, f_kN, nI ns, f_sealed, (ck_go nc st (cd_mk (st nc) a_lSign) (cd_mk (st nc) a_lPred) (cd_mk (st nc) a_lA0) (cd_mk (st nc) a_lA1) a_bKind a_bA a_bB b r i L).2, y0, y1, f_pNodes, f_pSp, a_lSign, a_lPred, a_lA0, a_lA1, a_lOwner, a_arity, a_kKind, a_kA, a_kB, a_kBind, a_bKind, a_bA, a_bB, a_bBind, cC, cL, cP, cS, a_cl, a_gtab, a_pLit, a_pPar, a_pStk)) →
    wY_check_89 post (nI ns) (r + 1) (nI i) (nI nc) (nI nl) f_kept f_kN (nI ns) f_sealed f_lastStep y0 y1 f_pNodes f_pSp a_lSign a_lPred a_lA0 a_lA1 a_lOwner a_arity a_kKind a_kA a_kB a_kBind a_bKind a_bA a_bB a_bBind cC cL cP cS a_cl a_gtab a_pLit a_pPar a_pStk
  | 0, i, N, L, y0, y1, cC, cL, cP, cS, hir, h1, hN, ey0, ey1, hlen, hL, h => by
    have ei : i = ns := by omega
    subst ei
    refine br_t (nI_le (Nat.le_refl i) (by omega)) ?_
    unfold ck_go at h
    subst ey1
    match L, h with
    | [], h => exact br_t (by decide) (h _ _ _ _ _ _)
    | g :: R, h => exact br_f (nI_nle (by rw [List.length_cons]; omega) (by rw [List.length_cons] at hlen ⊢; omega)) (h _ _ _ _ _ _)
  | r + 1, i, N, L, y0, y1, cC, cL, cP, cS, hir, h1, hN, ey0, ey1, hlen, hL, h => by
    subst ey0 ey1
    refine br_f (nI_ge (show i < ns by omega) (by omega)) (br_f (nI_ge (b := 256) (show i < 256 by omega) (by decide)) ?_)
    refine yj_step hw how hb h1 (by omega) hN hL hlen (fun rr y0' y1' cC' cL' cP' cS' er hz => ?_)
    rw [ck_go] at h
    by_cases z : (ck_step nc st (cd_mk (st nc) a_lSign) (cd_mk (st nc) a_lPred) (cd_mk (st nc) a_lA0) (cd_mk (st nc) a_lA1) a_bKind a_bA a_bB b i L).1 = 0
    · rw [if_pos z] at h
      have er0 : rr = 0 := er.trans z
      subst er0
      obtain ⟨N', z1, z2, z3, z4, z5⟩ := hz rfl
      refine br_t rfl (nm_r (nI_1 i) ?_)
      exact yk_loop hw how hb hns r (i + 1) N' _ _ _ cC' cL' cP' cS' (by omega) (by omega) z2 z1 z3 z4 z5 h
    · rw [if_neg z] at h
      have hne : ¬ rr = 0 := fun e => z (er.symm.trans e)
      refine br_f hne ?_
      rw [er]
      exact h _ _ _ _ _ _
theorem yk_check {post : Int32 → SY → Prop} {nc nl ns : Nat} {st : Nat → Nat} (hw : cd_wf nc nl st a_lSign a_lPred a_lA0 a_lA1 a_arity) (how : cd_own nc nl st a_lOwner)
    {b : Nat → Nat} (hb : cr_by b a_bBind) (hns : ns ≤ 256)
    (h : ∀ (y0 y1 : Int32) (cC cL cP cS : Nat → Int32),
      post (ck_all nc st (cd_mk (st nc) a_lSign) (cd_mk (st nc) a_lPred) (cd_mk (st nc) a_lA0) (cd_mk (st nc) a_lA1) a_bKind a_bA a_bB b ns).1
        (nI nc, nI nl, f_kept, f_kN, nI ns, f_sealed, (ck_all nc st (cd_mk (st nc) a_lSign) (cd_mk (st nc) a_lPred) (cd_mk (st nc) a_lA0) (cd_mk (st nc) a_lA1) a_bKind a_bA a_bB b ns).2, y0, y1, f_pNodes, f_pSp, a_lSign, a_lPred, a_lA0, a_lA1, a_lOwner, a_arity, a_kKind, a_kA, a_kB, a_kBind, a_bKind, a_bA, a_bB, a_bBind, cC, cL, cP, cS, a_cl, a_gtab, a_pLit, a_pPar, a_pStk)) :
    wpY_check post (nI nc, nI nl, f_kept, f_kN, nI ns, f_sealed, f_lastStep, f_cNodes, f_cSp, f_pNodes, f_pSp, a_lSign, a_lPred, a_lA0, a_lA1, a_lOwner, a_arity, a_kKind, a_kA, a_kB, a_kBind, a_bKind, a_bA, a_bB, a_bBind, a_cCopy, a_cLit, a_cPar, a_cStk, a_cl, a_gtab, a_pLit, a_pPar, a_pStk) := by
  have hM := hw.2.2.2.2.1
  have hnl := hw.2.1
  have hnc := hw.1
  unfold ck_all at h
  by_cases e0 : ns = 0
  · rw [if_pos e0] at h
    subst e0
    exact br_t rfl (h _ _ _ _ _ _)
  · rw [if_neg e0] at h
    refine br_f (nI_ne0 (by omega) (by omega)) ?_
    refine br_c (fun k0 => ?_) (fun k0 => ?_)
    · rw [if_pos k0] at h
      rcases ck_out_or (a_bA 0) (n := nc) (by omega) with ho | ⟨ho, a, ha, ea⟩
      · rw [ck_if_t ho] at h
        have fin := h f_cNodes f_cSp a_cCopy a_cLit a_cPar a_cStk
        by_cases hn : a_bA 0 < 0
        · exact br_t hn fin
        · refine br_f hn (br_f (fun z => ?_) fin)
          rcases ho with ho | ho
          · exact hn ho
          · exact absurd z (Int32.not_lt.mpr ho)
      · rw [ck_if_f ho, ea, nI_clamp (show a < 2 ^ 31 by omega)] at h
        rw [ea]
        obtain ⟨b1, b2, b3⟩ := cd_en_bd hw (show a ≤ nc by omega)
        have een : cd_en nc nl st a = st (a + 1) := cd_en_lt ha
        rw [een] at b1 b2 b3
        have hst : st (a + 1) ≤ st nc := cd_mono' hw (by omega) (Nat.le_refl _)
        refine br_f (nI_pos (by omega)) (br_t (nI_lt ha (by omega)) ?_)
        have lsl : (xg_ls 16 (st (a + 1) - st a) (st a)).length ≤ 3 := by
          have := ck_gl_len (copy := 0) (sk := 16) (p := []) (st (a + 1) - st a) (st a)
          rw [xg_gl, List.length_map] at this
          omega
        refine yg_push hw how (N := 0) (S := 0) (sk := 16) (by omega) (fun j hj => ?_) (by rw [een]; omega) (by rw [een]; omega) (fun cC cL cP cS hag hs hrep => ?_)
        · constructor
          · intro z
            have := congrArg Int32.toInt z
            rw [nI_toInt (by omega), show (-1 : Int32).toInt = -1 from by decide] at this
            omega
          · intro z
            omega
        · rw [een] at hrep ⊢
          rw [Nat.zero_add]
          refine ⟨ns - 1 + 1, ?_⟩
          refine yk_loop hw how hb hns (ns - 1) 1 (xg_ls 16 (st (a + 1) - st a) (st a)).length (ck_gl 0 16 [] (st (a + 1) - st a) (st a)) _ _ cC cL cP cS (by omega) (by omega) (by omega) rfl ?_ ?_ ?_ h
          · rw [xg_gl, List.length_map]
          · rw [xg_gl, List.length_map]
            exact Nat.le_refl _
          · rw [xg_gl, ← List.append_nil ((xg_ls 16 (st (a + 1) - st a) (st a)).map (fun l => ((0, l, []) : ck_G)))]
            have hpar : ∀ q', 0 ≤ q' → ∀ l', l' < st nc → cC q' = nI 0 → cL q' = nI l' → cP q' = -1 → yc_nd cC cL cP (st nc) 1 [] q' 0 l' := fun q' _ l' hl' e1 e2 e3 => ⟨e1, e2, by omega, hl', e3⟩
            refine yc_stk_app (R := []) (N := 0) (x4 := -1) (by omega) hpar trivial (by omega) (fun l' hl' => ?_) hrep
            have := xg_ls_mem hl'
            omega
    · rw [if_neg k0] at h
      exact h _ _ _ _ _ _
end
/-! the two checks -/
theorem ck_step_congr {nc : Nat} {st : Nat → Nat} {sg pr a0 a1 K A B K' A' B' : Nat → Int32} {b b' : Nat → Nat} {i : Nat} {L : List ck_G} (hK : K' i = K i) (hA : A' i = A i) (hB : B' i = B i) (hb : b' = b) :
    ck_step nc st sg pr a0 a1 K' A' B' b' i L = ck_step nc st sg pr a0 a1 K A B b i L := by
  unfold ck_step
  rw [hK, hA, hB, hb]
theorem ck_go_congr {nc : Nat} {st : Nat → Nat} {sg pr a0 a1 K A B K' A' B' : Nat → Int32} {b : Nat → Nat} : ∀ (r i : Nat) (L : List ck_G), (∀ j, j < i + r → K' j = K j ∧ A' j = A j ∧ B' j = B j) →
    ck_go nc st sg pr a0 a1 K' A' B' b r i L = ck_go nc st sg pr a0 a1 K A B b r i L
  | 0, _, _, _ => rfl
  | r + 1, i, L, h => by
    obtain ⟨h1, h2, h3⟩ := h i (by omega)
    rw [ck_go, ck_go, ck_step_congr h1 h2 h3 rfl, ck_go_congr r (i + 1) _ (fun j hj => h j (by omega))]
theorem ck_all_congr {nc : Nat} {st : Nat → Nat} {sg pr a0 a1 K A B K' A' B' : Nat → Int32} {b : Nat → Nat} {n : Nat} (h : ∀ j, j < n → K' j = K j ∧ A' j = A j ∧ B' j = B j) :
    ck_all nc st sg pr a0 a1 K' A' B' b n = ck_all nc st sg pr a0 a1 K A B b n := by
  unfold ck_all
  by_cases e : n = 0
  · rw [if_pos e, if_pos e]
  · obtain ⟨h1, h2, h3⟩ := h 0 (by omega)
    rw [if_neg e, if_neg e, h1, h2, ck_go_congr (n - 1) 1 _ (fun j hj => h j (by omega))]
theorem i_vc_check {k : Nat} {u : SX} {v : SY} (I : i_Rel k u v) (hk : k + 5 ≤ 2560) : wpX_check (fun r u' => wpY_check (fun r' v' => r' = r ∧ i_Rel (k + 5) u' v') v) u := by
  obtain ⟨nc, nl, st, sl, kp, ls, ns, bn, kc, kn, sg, pr, a0, a1, ar, cs, ow, xK, xA, xB, bd, yK, yA, yB, yb, kK, kA, kB, kI, zK, zA, zB, zb, lh, ph, x0, x1, x2, x3, y0, y1, y2, y3, X0, X1, X2, X3, X4, X5, X6, X7, X8, Y0, Y1, Y2, Y3, Y4, Y5, Y6, Y7, Y8, rfl, rfl, h⟩ := I
  obtain ⟨⟨hw, hcs, how⟩, ⟨hlh, hp0⟩, h3, h4⟩ := id h
  obtain ⟨hns, hbn, ⟨rfl, rfl, hs, b, hbx, hby⟩ | ⟨rfl, ⟨b, hbx, hok⟩, ⟨b', hby, hok'⟩⟩⟩ := id h3
  · refine xk_check hw hcs hbx hns hp0 (fun x0' oc ol pc pl ph' hp0' => ?_)
    refine yk_check hw how hby hns (fun y0' y1' cC cL cP cS => ?_)
    rw [ck_all_congr hs]
    exact ⟨rfl, i_mk ⟨h.1, ⟨hlh, hp0'⟩, h3, h4⟩⟩
  · refine xk_check hw hcs hbx hns hp0 (fun x0' oc ol pc pl ph' hp0' => ?_)
    refine yk_check hw how hby hbn (fun y0' y1' cC cL cP cS => ?_)
    unfold cr_ok at hok hok'
    rw [hok, hok']
    exact ⟨rfl, i_mk ⟨h.1, ⟨hlh, hp0'⟩, h3, h4⟩⟩
end
section
/-! the ground literals, pure -/
def cg_oc (a0 a1 : Nat → Int32) (t : Int32) : Nat → Bool
  | 0 => false
  | M + 1 => cg_oc a0 a1 t M || decide (a0 M = t ∨ a1 M = t)
def cg_op (pr : Nat → Int32) (p : Nat) : Nat → Bool
  | 0 => false
  | M + 1 => cg_op pr p M || decide (pr M = nI p)
theorem cg_oc_iff {a0 a1 : Nat → Int32} {t : Int32} : ∀ (M : Nat), cg_oc a0 a1 t M = true ↔ ∃ j, j < M ∧ (a0 j = t ∨ a1 j = t)
  | 0 => ⟨fun h => absurd (show false = true from h) (by decide), fun ⟨j, h, _⟩ => absurd h (Nat.not_lt_zero j)⟩
  | M + 1 => by
    unfold cg_oc
    rw [Bool.or_eq_true, cg_oc_iff M, decide_eq_true_iff]
    constructor
    · intro h
      rcases h with ⟨j, h1, h2⟩ | h
      · exact ⟨j, by omega, h2⟩
      · exact ⟨M, by omega, h⟩
    · intro ⟨j, h1, h2⟩
      by_cases e : j = M
      · exact Or.inr (e ▸ h2)
      · exact Or.inl ⟨j, by omega, h2⟩
theorem cg_op_iff {pr : Nat → Int32} {p : Nat} : ∀ (M : Nat), cg_op pr p M = true ↔ ∃ j, j < M ∧ pr j = nI p
  | 0 => ⟨fun h => absurd (show false = true from h) (by decide), fun ⟨j, h, _⟩ => absurd h (Nat.not_lt_zero j)⟩
  | M + 1 => by
    unfold cg_op
    rw [Bool.or_eq_true, cg_op_iff M, decide_eq_true_iff]
    constructor
    · intro h
      rcases h with ⟨j, h1, h2⟩ | h
      · exact ⟨j, by omega, h2⟩
      · exact ⟨M, by omega, h⟩
    · intro ⟨j, h1, h2⟩
      by_cases e : j = M
      · exact Or.inr (e ▸ h2)
      · exact Or.inl ⟨j, by omega, h2⟩
def cg_sz (two : Bool) : Nat := if two = true then 2 else 1
def cg_at (pr ar : Nat → Int32) (M : Nat) (two : Bool) (p : Nat) : Nat := if cg_op pr p M = true then cg_sz two ^ (ar p).toNatClampNeg else 0
def cg_base (pr ar : Nat → Int32) (M : Nat) (two : Bool) : Nat → Nat
  | 0 => 0
  | p + 1 => cg_base pr ar M two p + cg_at pr ar M two p
theorem cg_base_mono {pr ar : Nat → Int32} {M : Nat} {two : Bool} {p : Nat} : ∀ d, cg_base pr ar M two p ≤ cg_base pr ar M two (p + d)
  | 0 => Nat.le_refl _
  | d + 1 => Nat.le_trans (cg_base_mono d) (Nat.le_add_right _ _)
theorem cg_base_lt {pr ar : Nat → Int32} {M : Nat} {two : Bool} {p q : Nat} (h : p < q) : cg_base pr ar M two p + cg_at pr ar M two p ≤ cg_base pr ar M two q := by
  obtain ⟨d, rfl⟩ : ∃ d, q = p + 1 + d := ⟨q - (p + 1), by omega⟩
  exact cg_base_mono (p := p + 1) d
def cg_vl (t : Int32) (x y : Nat) : Nat := if t = 2 then x else if t = 3 then y else t.toNatClampNeg
def cg_tup (a0 a1 : Nat → Int32) (two : Bool) (j x y : Nat) : Nat :=
  if two = true then (if ck_ar (a0 j) (a1 j) = 0 then 0 else if ck_ar (a0 j) (a1 j) = 1 then cg_vl (a0 j) x y else 2 * cg_vl (a0 j) x y + cg_vl (a1 j) x y) else 0
def cg_gl (sg pr a0 a1 ar : Nat → Int32) (M : Nat) (two : Bool) (j x y : Nat) : Nat :=
  2 * (cg_base pr ar M two (pr j).toNatClampNeg + cg_tup a0 a1 two j x y) + (sg j).toNatClampNeg
theorem cg_vl_lt {t : Int32} {x y : Nat} (ht : ∃ n, n < 4 ∧ t = nI n) (hx : x < 2) (hy : y < 2) : cg_vl t x y < 2 := by
  obtain ⟨n, hn, e⟩ := ht
  unfold cg_vl
  by_cases e2 : t = 2
  · rw [if_pos e2]; exact hx
  · rw [if_neg e2]
    by_cases e3 : t = 3
    · rw [if_pos e3]; exact hy
    · rw [if_neg e3, e, nI_clamp (by omega)]
      have h2 : ¬ n = 2 := fun z => e2 (by rw [e, z]; rfl)
      have h3 : ¬ n = 3 := fun z => e3 (by rw [e, z]; rfl)
      omega
/-- what is known of a literal of a finished clause -/
theorem cg_lit {nc nl : Nat} {st : Nat → Nat} {sg pr a0 a1 ar : Nat → Int32} (hw : cd_wf nc nl st sg pr a0 a1 ar) {j : Nat} (hj : j < st nc) :
    (sg j).toNatClampNeg < 2 ∧ sg j = nI (sg j).toNatClampNeg ∧ (pr j).toNatClampNeg < 4 ∧ pr j = nI (pr j).toNatClampNeg ∧
    (ar (pr j).toNatClampNeg).toNatClampNeg = ck_ar (a0 j) (a1 j) ∧ cg_op pr (pr j).toNatClampNeg (st nc) = true ∧
    (1 ≤ ck_ar (a0 j) (a1 j) → ∃ n, n < 4 ∧ a0 j = nI n) ∧ (2 ≤ ck_ar (a0 j) (a1 j) → ∃ n, n < 4 ∧ a1 j = nI n) ∧ ck_ar (a0 j) (a1 j) ≤ 2 := by
  have hjl : j < nl := Nat.lt_of_lt_of_le hj hw.2.2.2.2.1
  obtain ⟨l1, ⟨p, hp, ep, ea⟩, l3, l4, l5⟩ := hw.2.2.2.2.2.2.1 j hjl
  obtain ⟨a2, arg⟩ := cd_arg hw hjl
  have cp : (pr j).toNatClampNeg = p := by rw [ep]; exact nI_clamp (by omega)
  rw [cp]
  refine ⟨?_, ?_, hp, ep, ?_, (cg_op_iff _).mpr ⟨j, hj, ep⟩, fun h => ?_, fun h => ?_, a2⟩
  · rcases l1 with e | e <;> rw [e] <;> decide
  · rcases l1 with e | e <;> rw [e] <;> decide
  · rw [ea]; exact nI_clamp (by omega)
  · obtain ⟨t, ht, e, _⟩ := arg 0 (by omega)
    rw [if_pos rfl] at e
    exact ⟨t, ht, e⟩
  · obtain ⟨t, ht, e, _⟩ := arg 1 (by omega)
    rw [if_neg (by decide)] at e
    exact ⟨t, ht, e⟩
theorem cg_tup_lt {nc nl : Nat} {st : Nat → Nat} {sg pr a0 a1 ar : Nat → Int32} (hw : cd_wf nc nl st sg pr a0 a1 ar) {j x y : Nat} {two : Bool} (hj : j < st nc) (hx : x < 2) (hy : y < 2) :
    cg_tup a0 a1 two j x y < cg_at pr ar (st nc) two (pr j).toNatClampNeg := by
  obtain ⟨_, _, _, _, har, hop, h0, h1, h2⟩ := cg_lit hw hj
  unfold cg_at cg_tup
  rw [if_pos hop, har]
  unfold cg_sz
  by_cases t : two = true
  · rw [if_pos t, if_pos t]
    have c : ck_ar (a0 j) (a1 j) = 0 ∨ ck_ar (a0 j) (a1 j) = 1 ∨ ck_ar (a0 j) (a1 j) = 2 := by omega
    rcases c with c | c | c
    · rw [c, if_pos rfl]; decide
    · rw [c, if_neg (by decide), if_pos rfl]
      have := cg_vl_lt (h0 (by omega)) hx hy
      omega
    · rw [c, if_neg (by decide), if_neg (by decide)]
      have := cg_vl_lt (h0 (by omega)) hx hy
      have := cg_vl_lt (h1 (by omega)) hx hy
      omega
  · rw [if_neg t, if_neg t, Nat.one_pow]
    omega
theorem cg_gl_lt {nc nl : Nat} {st : Nat → Nat} {sg pr a0 a1 ar : Nat → Int32} (hw : cd_wf nc nl st sg pr a0 a1 ar) {j x y : Nat} {two : Bool} (hj : j < st nc) (hx : x < 2) (hy : y < 2) :
    cg_gl sg pr a0 a1 ar (st nc) two j x y < 2 * cg_base pr ar (st nc) two 4 := by
  obtain ⟨hs, _, hp, _⟩ := cg_lit hw hj
  have h1 := cg_tup_lt (two := two) hw hj hx hy
  have h2 := cg_base_lt (pr := pr) (ar := ar) (M := st nc) (two := two) hp
  unfold cg_gl
  omega
/-- the constants that count -/
def cg_U (o0 o1 : Bool) (x : Nat) : Prop := (x = 0 ∧ (o0 = true ∨ o1 = false)) ∨ (x = 1 ∧ o1 = true)
theorem cg_U_lt {o0 o1 : Bool} {x : Nat} (h : cg_U o0 o1 x) : x < 2 := by
  rcases h with h | h <;> omega
theorem cg_U_one {o0 o1 : Bool} {x x' : Nat} (h : cg_U o0 o1 x) (h' : cg_U o0 o1 x') (ht : ¬ (o0 && o1) = true) : x = x' := by
  cases o0 <;> cases o1 <;> simp [cg_U] at h h' ht <;> omega
theorem cg_U_vl {nc nl : Nat} {st : Nat → Nat} {sg pr a0 a1 ar : Nat → Int32} (hw : cd_wf nc nl st sg pr a0 a1 ar) {j x y : Nat} (hj : j < st nc) {t : Int32} (ht : ∃ n, n < 4 ∧ t = nI n) (hj2 : a0 j = t ∨ a1 j = t)
    (hx : cg_U (cg_oc a0 a1 0 (st nc)) (cg_oc a0 a1 1 (st nc)) x) (hy : cg_U (cg_oc a0 a1 0 (st nc)) (cg_oc a0 a1 1 (st nc)) y) :
    cg_U (cg_oc a0 a1 0 (st nc)) (cg_oc a0 a1 1 (st nc)) (cg_vl t x y) := by
  obtain ⟨n, hn, e⟩ := ht
  unfold cg_vl
  by_cases e2 : t = 2
  · rw [if_pos e2]; exact hx
  · rw [if_neg e2]
    by_cases e3 : t = 3
    · rw [if_pos e3]; exact hy
    · rw [if_neg e3, e, nI_clamp (by omega)]
      have h2 : ¬ n = 2 := fun z => e2 (by rw [e, z]; rfl)
      have h3 : ¬ n = 3 := fun z => e3 (by rw [e, z]; rfl)
      have : n = 0 ∨ n = 1 := by omega
      rcases this with z | z
      · subst z
        exact Or.inl ⟨rfl, Or.inl ((cg_oc_iff _).mpr ⟨j, hj, by rw [← nI_0, ← e]; exact hj2⟩)⟩
      · subst z
        exact Or.inr ⟨rfl, (cg_oc_iff _).mpr ⟨j, hj, by rw [show (1 : Int32) = nI 1 from rfl, ← e]; exact hj2⟩⟩
theorem cg_vl_gv {V0 V1 : Nat → Nat} {c : Nat} {t : Int32} {n : Nat} (hn : n < 4) (e : t = nI n) : cg_vl t (V0 c) (V1 c) = ck_gv V0 V1 c n := by
  unfold cg_vl ck_gv
  by_cases h2 : n = 2
  · rw [if_pos (by rw [e, h2]; rfl), if_pos h2]
  · rw [if_neg (fun z => h2 (by rw [e, show (2 : Int32) = nI 2 from rfl, nI_eq (by omega) (by omega)] at z; exact z)), if_neg h2]
    by_cases h3 : n = 3
    · rw [if_pos (by rw [e, h3]; rfl), if_pos h3]
    · rw [if_neg (fun z => h3 (by rw [e, show (3 : Int32) = nI 3 from rfl, nI_eq (by omega) (by omega)] at z; exact z)), if_neg h3, e]
      exact nI_clamp (by omega)
/-- complementary ground literals are a ground connection -/
theorem cg_conn {nc nl : Nat} {st : Nat → Nat} {sg pr a0 a1 ar : Nat → Int32} (hw : cd_wf nc nl st sg pr a0 a1 ar) {V0 V1 : Nat → Nat} {c1 l1 c2 l2 : Nat} (h1 : l1 < st nc) (h2 : l2 < st nc)
    (ux1 : cg_U (cg_oc a0 a1 0 (st nc)) (cg_oc a0 a1 1 (st nc)) (V0 c1)) (uy1 : cg_U (cg_oc a0 a1 0 (st nc)) (cg_oc a0 a1 1 (st nc)) (V1 c1))
    (ux2 : cg_U (cg_oc a0 a1 0 (st nc)) (cg_oc a0 a1 1 (st nc)) (V0 c2)) (uy2 : cg_U (cg_oc a0 a1 0 (st nc)) (cg_oc a0 a1 1 (st nc)) (V1 c2))
    (e : cg_gl sg pr a0 a1 ar (st nc) (cg_oc a0 a1 0 (st nc) && cg_oc a0 a1 1 (st nc)) l1 (V0 c1) (V1 c1) = cm_neg (cg_gl sg pr a0 a1 ar (st nc) (cg_oc a0 a1 0 (st nc) && cg_oc a0 a1 1 (st nc)) l2 (V0 c2) (V1 c2))) :
    ck_gc (cd_mk (st nc) sg) (cd_mk (st nc) pr) (cd_mk (st nc) a0) (cd_mk (st nc) a1) V0 V1 c1 l1 c2 l2 := by
  have M0 : ∀ l, l < st nc → ∀ p, ck_ag (cd_mk (st nc) a0) (cd_mk (st nc) a1) l p = ck_ag a0 a1 l p := by
    intro l hl p
    unfold ck_ag
    rw [cd_mk_lt hl, cd_mk_lt hl]
  unfold ck_gc
  rw [cd_mk_lt h1, cd_mk_lt h1, cd_mk_lt h1, cd_mk_lt h1, cd_mk_lt h2, cd_mk_lt h2]
  obtain ⟨s1, es1, p1, ep1, ar1, op1, f01, f11, le1⟩ := cg_lit hw h1
  obtain ⟨s2, es2, p2, ep2, ar2, op2, f02, f12, le2⟩ := cg_lit hw h2
  generalize hT : (cg_oc a0 a1 0 (st nc) && cg_oc a0 a1 1 (st nc)) = two at e
  have t1 := cg_tup_lt (two := two) hw h1 (cg_U_lt ux1) (cg_U_lt uy1)
  have t2 := cg_tup_lt (two := two) hw h2 (cg_U_lt ux2) (cg_U_lt uy2)
  have d := cm_neg_div (cg_gl sg pr a0 a1 ar (st nc) two l2 (V0 c2) (V1 c2))
  have m := cm_neg_mod (cg_gl sg pr a0 a1 ar (st nc) two l2 (V0 c2) (V1 c2))
  rw [← e] at d m
  unfold cg_gl at d m
  have ed : cg_base pr ar (st nc) two (pr l1).toNatClampNeg + cg_tup a0 a1 two l1 (V0 c1) (V1 c1) = cg_base pr ar (st nc) two (pr l2).toNatClampNeg + cg_tup a0 a1 two l2 (V0 c2) (V1 c2) := by omega
  have em : (sg l1).toNatClampNeg = 1 - (sg l2).toNatClampNeg := by omega
  have ep : (pr l1).toNatClampNeg = (pr l2).toNatClampNeg := by
    apply Classical.byContradiction
    intro hne
    by_cases hlt : (pr l1).toNatClampNeg < (pr l2).toNatClampNeg
    · have := cg_base_lt (pr := pr) (ar := ar) (M := st nc) (two := two) hlt
      omega
    · have := cg_base_lt (pr := pr) (ar := ar) (M := st nc) (two := two) (p := (pr l2).toNatClampNeg) (q := (pr l1).toNatClampNeg) (by omega)
      omega
  have eT : cg_tup a0 a1 two l1 (V0 c1) (V1 c1) = cg_tup a0 a1 two l2 (V0 c2) (V1 c2) := by
    rw [ep] at ed
    omega
  have eA : ck_ar (a0 l2) (a1 l2) = ck_ar (a0 l1) (a1 l1) := by rw [← ar1, ← ar2, ep]
  refine ⟨fun z => ?_, by rw [ep1, ep2, ep], fun pos hpos => ?_⟩
  · rw [z] at em
    omega
  · rw [M0 l1 h1, M0 l2 h2]
    obtain ⟨n1, hn1, e1, g1⟩ := (cd_arg hw (Nat.lt_of_lt_of_le h1 hw.2.2.2.2.1)).2 pos hpos
    obtain ⟨n2, hn2, e2, g2⟩ := (cd_arg hw (Nat.lt_of_lt_of_le h2 hw.2.2.2.2.1)).2 pos (by rw [eA]; exact hpos)
    rw [g1, g2]
    refine ⟨hn1, hn2, ?_⟩
    rw [← cg_vl_gv hn1 e1, ← cg_vl_gv hn2 e2]
    have w1 : cg_U (cg_oc a0 a1 0 (st nc)) (cg_oc a0 a1 1 (st nc)) (cg_vl (if pos = 0 then a0 l1 else a1 l1) (V0 c1) (V1 c1)) :=
      cg_U_vl hw h1 ⟨n1, hn1, e1⟩ (by by_cases z : pos = 0 <;> simp [z]) ux1 uy1
    have w2 : cg_U (cg_oc a0 a1 0 (st nc)) (cg_oc a0 a1 1 (st nc)) (cg_vl (if pos = 0 then a0 l2 else a1 l2) (V0 c2) (V1 c2)) :=
      cg_U_vl hw h2 ⟨n2, hn2, e2⟩ (by by_cases z : pos = 0 <;> simp [z]) ux2 uy2
    by_cases ht : two = true
    · unfold cg_tup at eT
      rw [if_pos ht, if_pos ht, eA] at eT
      have c : ck_ar (a0 l1) (a1 l1) = 1 ∨ ck_ar (a0 l1) (a1 l1) = 2 := by omega
      rcases c with c | c
      · rw [c, if_neg (by decide), if_pos rfl, if_neg (by decide), if_pos rfl] at eT
        have : pos = 0 := by omega
        rw [if_pos this, if_pos this]
        exact eT
      · rw [c, if_neg (by decide), if_neg (by decide), if_neg (by decide), if_neg (by decide)] at eT
        have b1 := cg_vl_lt (f01 (by omega)) (cg_U_lt ux1) (cg_U_lt uy1)
        have b2 := cg_vl_lt (f11 (by omega)) (cg_U_lt ux1) (cg_U_lt uy1)
        have b3 := cg_vl_lt (f02 (by omega)) (cg_U_lt ux2) (cg_U_lt uy2)
        have b4 := cg_vl_lt (f12 (by omega)) (cg_U_lt ux2) (cg_U_lt uy2)
        by_cases z : pos = 0
        · rw [if_pos z, if_pos z]
          omega
        · rw [if_neg z, if_neg z]
          omega
    · exact cg_U_one w1 w2 (by rw [hT]; exact ht)
end
section
/-! counting the ground atoms, both sides -/
def cg_cb (o0 o1 : Bool) : Nat := (if o0 = true then 1 else 0) + (if o1 = true then 2 else 0)
def cg_con (o0 o1 : Bool) : Nat := if cg_cb o0 o1 = 0 then 1 else cg_cb o0 o1
theorem cg_or1 : ∀ o0 o1 : Bool, nI (cg_cb o0 o1) ||| 1 = nI (cg_cb true o1) := by decide
theorem cg_or2 : ∀ o0 o1 : Bool, nI (cg_cb o0 o1) ||| 2 = nI (cg_cb o0 true) := by decide
theorem cg_con_or (o0 o1 : Bool) : cg_con o0 o1 = 1 ∨ cg_con o0 o1 = 2 ∨ cg_con o0 o1 = 3 := by
  cases o0 <;> cases o1 <;> decide
theorem cg_con_3 (o0 o1 : Bool) : cg_con o0 o1 = 3 ↔ (o0 && o1) = true := by
  cases o0 <;> cases o1 <;> decide
section
variable {f_litCount f_clauseCount f_stepCount f_bufferSealed f_lastCheckStep f_keptCount f_proofKept f_openCount f_universeSize f_neededInstances f_givenLiterals : Int32} {a_litSign a_litPred a_litArg0 a_litArg1 a_clauseStart a_predArity a_stepKind a_stepA a_stepB a_binding a_keptKind a_keptA a_keptB a_keptInstance a_openCopy a_openLit a_parentCopy a_parentLit a_pathLength a_atomBase a_instanceLits a_instanceHolds a_literalHolds a_restInstances a_pathLiterals : Nat → Int32}
theorem xu_39 {post : Int32 → Prop} {J : Int32 → Int32 → Prop} {o0 o1 : Bool} {j : Nat} (hj : j < 16)
    (h : J (nI (cg_cb o0 (o1 || decide (a_litArg0 j = 1 ∨ a_litArg1 j = 1)))) (nI (j + 1))) : wX_universe_39 post J (nI (cg_cb o0 o1)) (nI j) f_litCount f_clauseCount f_stepCount f_bufferSealed f_lastCheckStep f_keptCount f_proofKept f_openCount f_universeSize f_neededInstances f_givenLiterals a_litSign a_litPred a_litArg0 a_litArg1 a_clauseStart a_predArity a_stepKind a_stepA a_stepB a_binding a_keptKind a_keptA a_keptB a_keptInstance a_openCopy a_openLit a_parentCopy a_parentLit a_pathLength a_atomBase a_instanceLits a_instanceHolds a_literalHolds a_restInstances a_pathLiterals := by
  have hin : vp_in (nI j) 16 := vp_in_nI hj (by decide)
  refine ⟨hin, ?_⟩
  rw [nI_clamp (show j < 2 ^ 31 by omega)]
  refine br_c (fun e => nm_r (cg_or2 o0 o1) (nm_r (nI_1 j) ?_)) (fun e => ⟨hin, br_c (fun e2 => nm_r (cg_or2 o0 o1) (nm_r (nI_1 j) ?_)) (fun e2 => nm_r (nI_1 j) ?_)⟩)
  · rw [decide_eq_true (Or.inl e), Bool.or_true] at h
    exact h
  · rw [decide_eq_true (Or.inr e2), Bool.or_true] at h
    exact h
  · rw [decide_eq_false (fun z => z.elim e e2), Bool.or_false] at h
    exact h
theorem xu_univ {post : Int32 → Prop} {nc nl : Nat} {st : Nat → Nat} {sg pr ar : Nat → Int32} (hw : cd_wf nc nl st sg pr a_litArg0 a_litArg1 ar) (hcs : ∀ c, c ≤ nc → a_clauseStart c = nI (st c))
    (h : post (nI (cg_con (cg_oc a_litArg0 a_litArg1 0 (st nc)) (cg_oc a_litArg0 a_litArg1 1 (st nc))))) : wpX_universe post (f_litCount, nI nc, f_stepCount, f_bufferSealed, f_lastCheckStep, f_keptCount, f_proofKept, f_openCount, f_universeSize, f_neededInstances, f_givenLiterals, a_litSign, a_litPred, a_litArg0, a_litArg1, a_clauseStart, a_predArity, a_stepKind, a_stepA, a_stepB, a_binding, a_keptKind, a_keptA, a_keptB, a_keptInstance, a_openCopy, a_openLit, a_parentCopy, a_parentLit, a_pathLength, a_atomBase, a_instanceLits, a_instanceHolds, a_literalHolds, a_restInstances, a_pathLiterals) := by
  have hnc := hw.1
  have hM := hw.2.2.2.2.1
  have hnl := hw.2.1
  have key : ∀ d j : Nat, j + d = st nc → wX_universe_4 post f_litCount (nI nc) f_stepCount f_bufferSealed f_lastCheckStep f_keptCount f_proofKept f_openCount f_universeSize f_neededInstances f_givenLiterals a_litSign a_litPred a_litArg0 a_litArg1 a_clauseStart a_predArity a_stepKind a_stepA a_stepB a_binding a_keptKind a_keptA a_keptB a_keptInstance a_openCopy a_openLit a_parentCopy a_parentLit a_pathLength a_atomBase a_instanceLits a_instanceHolds a_literalHolds a_restInstances a_pathLiterals (d + 1) (nI (cg_cb (cg_oc a_litArg0 a_litArg1 0 j) (cg_oc a_litArg0 a_litArg1 1 j))) (nI j) := by
    intro d
    induction d with
    | zero =>
      intro j hj
      refine ⟨vp_in_nI (by omega) (by decide), ?_⟩
      rw [nI_clamp (show nc < 2 ^ 31 by omega), hcs nc (Nat.le_refl _)]
      refine br_t (nI_le (by omega) (by omega)) ?_
      have ej : j = st nc := by omega
      rw [ej]
      unfold cg_con at h
      generalize cg_oc a_litArg0 a_litArg1 0 (st nc) = o0 at h ⊢
      generalize cg_oc a_litArg0 a_litArg1 1 (st nc) = o1 at h ⊢
      cases o0 <;> cases o1
      · exact br_t rfl h
      · exact br_f (by decide) h
      · exact br_f (by decide) h
      · exact br_f (by decide) h
    | succ d ih =>
      intro j hj
      have hin : vp_in (nI j) 16 := vp_in_nI (by omega) (by decide)
      refine ⟨vp_in_nI (by omega) (by decide), ?_⟩
      rw [nI_clamp (show nc < 2 ^ 31 by omega), hcs nc (Nat.le_refl _)]
      refine br_f (nI_ge (show j < st nc by omega) (by omega)) ⟨hin, ?_⟩
      rw [nI_clamp (show j < 2 ^ 31 by omega)]
      have ih2 := ih (j + 1) (by omega)
      rw [cg_oc, cg_oc] at ih2
      refine br_c (fun e => nm_r (cg_or1 _ _) ?_) (fun e => ⟨hin, br_c (fun e2 => nm_r (cg_or1 _ _) ?_) (fun e2 => ?_)⟩)
      · rw [decide_eq_true (Or.inl e), Bool.or_true] at ih2
        exact xu_39 (by omega) ih2
      · rw [decide_eq_true (Or.inr e2), Bool.or_true] at ih2
        exact xu_39 (by omega) ih2
      · rw [decide_eq_false (fun z : a_litArg0 j = 0 ∨ a_litArg1 j = 0 => z.elim e e2), Bool.or_false] at ih2
        exact xu_39 (by omega) ih2
  exact ⟨_, key (st nc) 0 (by omega)⟩
theorem xu_size {post : Int32 → Prop} {o0 o1 : Bool} (h : post (nI (cg_sz (o0 && o1)))) : wpX_sizeOf post (f_litCount, f_clauseCount, f_stepCount, f_bufferSealed, f_lastCheckStep, f_keptCount, f_proofKept, f_openCount, f_universeSize, f_neededInstances, f_givenLiterals, a_litSign, a_litPred, a_litArg0, a_litArg1, a_clauseStart, a_predArity, a_stepKind, a_stepA, a_stepB, a_binding, a_keptKind, a_keptA, a_keptB, a_keptInstance, a_openCopy, a_openLit, a_parentCopy, a_parentLit, a_pathLength, a_atomBase, a_instanceLits, a_instanceHolds, a_literalHolds, a_restInstances, a_pathLiterals) (nI (cg_con o0 o1)) := by
  cases o0 <;> cases o1
  · exact br_f (by decide) h
  · exact br_f (by decide) h
  · exact br_f (by decide) h
  · exact br_t rfl h
theorem xu_atoms {post : Int32 → Prop} {nc nl : Nat} {st : Nat → Nat} {sg a0 a1 : Nat → Int32} (hw : cd_wf nc nl st sg a_litPred a0 a1 a_predArity) (hcs : ∀ c, c ≤ nc → a_clauseStart c = nI (st c)) {p : Nat} (hp : p < 4) {two : Bool}
    (h : post (nI (cg_at a_litPred a_predArity (st nc) two p))) : wpX_atomsOf post (f_litCount, nI nc, f_stepCount, f_bufferSealed, f_lastCheckStep, f_keptCount, f_proofKept, f_openCount, f_universeSize, f_neededInstances, f_givenLiterals, a_litSign, a_litPred, a_litArg0, a_litArg1, a_clauseStart, a_predArity, a_stepKind, a_stepA, a_stepB, a_binding, a_keptKind, a_keptA, a_keptB, a_keptInstance, a_openCopy, a_openLit, a_parentCopy, a_parentLit, a_pathLength, a_atomBase, a_instanceLits, a_instanceHolds, a_literalHolds, a_restInstances, a_pathLiterals) (nI p) (nI (cg_sz two)) := by
  have hnc := hw.1
  have hM := hw.2.2.2.2.1
  have hnl := hw.2.1
  have inc : vp_in (nI nc) 9 := vp_in_nI (by omega) (by decide)
  have inp : vp_in (nI p) 4 := vp_in_nI hp (by decide)
  have clp : (nI p).toNatClampNeg = p := nI_clamp (by omega)
  -- the product
  have prod : cg_op a_litPred p (st nc) = true → ∃ n58 : Nat, wX_atomsOf_58 post (nI p) (nI (cg_sz two)) f_litCount (nI nc) f_stepCount f_bufferSealed f_lastCheckStep f_keptCount f_proofKept f_openCount f_universeSize f_neededInstances f_givenLiterals a_litSign a_litPred a_litArg0 a_litArg1 a_clauseStart a_predArity a_stepKind a_stepA a_stepB a_binding a_keptKind a_keptA a_keptB a_keptInstance a_openCopy a_openLit a_parentCopy a_parentLit a_pathLength a_atomBase a_instanceLits a_instanceHolds a_literalHolds a_restInstances a_pathLiterals n58 1 0 := by
    intro hop
    unfold cg_at at h
    rw [if_pos hop] at h
    obtain ⟨l, hl, el⟩ := (cg_op_iff _).mp hop
    obtain ⟨_, _, _, _, har, _, _, _, ha2⟩ := cg_lit hw hl
    have clr : (a_litPred l).toNatClampNeg = p := by rw [el]; exact clp
    rw [clr] at har
    obtain ⟨q, hq, eq, ea⟩ := (hw.2.2.2.2.2.2.1 l (by omega)).2.1
    have eqp : q = p := by
      rw [eq, nI_eq (by omega) (by omega)] at el
      exact el
    subst eqp
    generalize ck_ar (a0 l) (a1 l) = a at har ha2 ea
    rw [har] at h
    have step : ∀ d i : Nat, i + d = a → wX_atomsOf_58 post (nI q) (nI (cg_sz two)) f_litCount (nI nc) f_stepCount f_bufferSealed f_lastCheckStep f_keptCount f_proofKept f_openCount f_universeSize f_neededInstances f_givenLiterals a_litSign a_litPred a_litArg0 a_litArg1 a_clauseStart a_predArity a_stepKind a_stepA a_stepB a_binding a_keptKind a_keptA a_keptB a_keptInstance a_openCopy a_openLit a_parentCopy a_parentLit a_pathLength a_atomBase a_instanceLits a_instanceHolds a_literalHolds a_restInstances a_pathLiterals (d + 1) (nI (cg_sz two ^ i)) (nI i) := by
      intro d
      induction d with
      | zero =>
        intro i hi
        refine ⟨inp, ?_⟩
        rw [clp, ea]
        have ei : i = a := by omega
        rw [ei]
        exact br_t (nI_le (Nat.le_refl a) (by omega)) h
      | succ d ih =>
        intro i hi
        refine ⟨inp, ?_⟩
        rw [clp, ea]
        refine br_f (nI_ge (by omega) (by omega)) (nm_r (pk_mul _ _) (nm_r (nI_1 i) ?_))
        rw [← Nat.pow_succ]
        exact ih (i + 1) (by omega)
    exact ⟨_, step a 0 (by omega)⟩
  have key : ∀ d j : Nat, j + d = st nc → wX_atomsOf_5 post (nI p) (nI (cg_sz two)) f_litCount (nI nc) f_stepCount f_bufferSealed f_lastCheckStep f_keptCount f_proofKept f_openCount f_universeSize f_neededInstances f_givenLiterals a_litSign a_litPred a_litArg0 a_litArg1 a_clauseStart a_predArity a_stepKind a_stepA a_stepB a_binding a_keptKind a_keptA a_keptB a_keptInstance a_openCopy a_openLit a_parentCopy a_parentLit a_pathLength a_atomBase a_instanceLits a_instanceHolds a_literalHolds a_restInstances a_pathLiterals (d + 1) (if cg_op a_litPred p j = true then 1 else 0) (nI j) := by
    intro d
    induction d with
    | zero =>
      intro j hj
      refine ⟨inc, ?_⟩
      rw [nI_clamp (show nc < 2 ^ 31 by omega), hcs nc (Nat.le_refl _)]
      refine br_t (nI_le (by omega) (by omega)) ?_
      have ej : j = st nc := by omega
      rw [ej]
      by_cases o : cg_op a_litPred p (st nc) = true
      · rw [if_pos o]
        exact br_f (by decide) (prod o)
      · rw [if_neg o]
        unfold cg_at at h
        rw [if_neg o] at h
        exact br_t rfl h
    | succ d ih =>
      intro j hj
      have ih2 := ih (j + 1) (by omega)
      rw [cg_op] at ih2
      refine ⟨inc, ?_⟩
      rw [nI_clamp (show nc < 2 ^ 31 by omega), hcs nc (Nat.le_refl _)]
      refine br_f (nI_ge (show j < st nc by omega) (by omega)) ?_
      by_cases o : cg_op a_litPred p j = true
      · rw [if_pos o]
        rw [o, Bool.true_or, if_pos rfl] at ih2
        exact br_f (by decide) (nm_r (nI_1 j) ih2)
      · rw [if_neg o]
        have o' : cg_op a_litPred p j = false := by
          cases z : cg_op a_litPred p j
          · rfl
          · exact absurd z o
        rw [o', Bool.false_or] at ih2
        refine br_t rfl ⟨vp_in_nI (by omega) (by decide), ?_⟩
        rw [nI_clamp (show j < 2 ^ 31 by omega)]
        refine br_c (fun e => nm_r (nI_1 j) ?_) (fun e => nm_r (nI_1 j) ?_)
        · rw [decide_eq_true e, if_pos rfl] at ih2
          exact ih2
        · rw [decide_eq_false e, if_neg (by decide)] at ih2
          exact ih2
  exact ⟨_, key (st nc) 0 (by omega)⟩
theorem xu_count {post : Int32 → Prop} {nc nl : Nat} {st : Nat → Nat} {sg : Nat → Int32} (hw : cd_wf nc nl st sg a_litPred a_litArg0 a_litArg1 a_predArity) (hcs : ∀ c, c ≤ nc → a_clauseStart c = nI (st c))
    (h : post (nI (cg_base a_litPred a_predArity (st nc) (cg_oc a_litArg0 a_litArg1 0 (st nc) && cg_oc a_litArg0 a_litArg1 1 (st nc)) 4))) : wpX_getGroundAtoms post (f_litCount, nI nc, f_stepCount, f_bufferSealed, f_lastCheckStep, f_keptCount, f_proofKept, f_openCount, f_universeSize, f_neededInstances, f_givenLiterals, a_litSign, a_litPred, a_litArg0, a_litArg1, a_clauseStart, a_predArity, a_stepKind, a_stepA, a_stepB, a_binding, a_keptKind, a_keptA, a_keptB, a_keptInstance, a_openCopy, a_openLit, a_parentCopy, a_parentLit, a_pathLength, a_atomBase, a_instanceLits, a_instanceHolds, a_literalHolds, a_restInstances, a_pathLiterals) := by
  refine xu_univ hw hcs (xu_size ?_)
  generalize (cg_oc a_litArg0 a_litArg1 0 (st nc) && cg_oc a_litArg0 a_litArg1 1 (st nc)) = two at h ⊢
  have key : ∀ d p : Nat, p + d = 4 → wX_getGroundAtoms_16 post (nI (cg_sz two)) f_litCount (nI nc) f_stepCount f_bufferSealed f_lastCheckStep f_keptCount f_proofKept f_openCount f_universeSize f_neededInstances f_givenLiterals a_litSign a_litPred a_litArg0 a_litArg1 a_clauseStart a_predArity a_stepKind a_stepA a_stepB a_binding a_keptKind a_keptA a_keptB a_keptInstance a_openCopy a_openLit a_parentCopy a_parentLit a_pathLength a_atomBase a_instanceLits a_instanceHolds a_literalHolds a_restInstances a_pathLiterals (d + 1) (nI (cg_base a_litPred a_predArity (st nc) two p)) (nI p) := by
    intro d
    induction d with
    | zero =>
      intro p hp
      have : p = 4 := by omega
      rw [this]
      exact br_t (nI_le (a := 4) (b := 4) (Nat.le_refl _) (by decide)) h
    | succ d ih =>
      intro p hp
      refine br_f (nI_ge (b := 4) (by omega) (by decide)) ?_
      refine xu_atoms hw hcs (by omega) ?_
      exact nm_r (nI_add _ _) (nm_r (nI_1 p) (ih (p + 1) (by omega)))
  exact ⟨_, key 4 0 (by omega)⟩
end
section
variable {f_clauseCount f_litCount f_kept f_kN f_bN f_sealed f_lastStep f_cNodes f_cSp f_pNodes f_pSp : Int32} {a_lSign a_lPred a_lA0 a_lA1 a_lOwner a_arity a_kKind a_kA a_kB a_kBind a_bKind a_bA a_bB a_bBind a_cCopy a_cLit a_cPar a_cStk a_cl a_gtab a_pLit a_pPar a_pStk : Nat → Int32}
theorem yu_occ {post : Int32 → Prop} {nc nl : Nat} {st : Nat → Nat} {sg pr ar : Nat → Int32} (hw : cd_wf nc nl st sg pr a_lA0 a_lA1 ar) (how : cd_own nc nl st a_lOwner) {t : Int32}
    (h : post (if cg_oc a_lA0 a_lA1 t (st nc) = true then 1 else 0)) : wpY_occursConst post (nI nc, nI nl, f_kept, f_kN, f_bN, f_sealed, f_lastStep, f_cNodes, f_cSp, f_pNodes, f_pSp, a_lSign, a_lPred, a_lA0, a_lA1, a_lOwner, a_arity, a_kKind, a_kA, a_kB, a_kBind, a_bKind, a_bA, a_bB, a_bBind, a_cCopy, a_cLit, a_cPar, a_cStk, a_cl, a_gtab, a_pLit, a_pPar, a_pStk) t := by
  have hnc := hw.1
  have hM := hw.2.2.2.2.1
  have hnl := hw.2.1
  have key : ∀ d j : Nat, j + d = nl → (cg_oc a_lA0 a_lA1 t (min j (st nc)) = false) → wY_occursConst_2 post t (nI nc) (nI nl) f_kept f_kN f_bN f_sealed f_lastStep f_cNodes f_cSp f_pNodes f_pSp a_lSign a_lPred a_lA0 a_lA1 a_lOwner a_arity a_kKind a_kA a_kB a_kBind a_bKind a_bA a_bB a_bBind a_cCopy a_cLit a_cPar a_cStk a_cl a_gtab a_pLit a_pPar a_pStk (d + 1) (nI j) := by
    intro d
    induction d with
    | zero =>
      intro j hj ho
      have e : min j (st nc) = st nc := by omega
      rw [e] at ho
      rw [ho, if_neg (by decide)] at h
      exact br_t (nI_le (by omega) (by omega)) h
    | succ d ih =>
      intro j hj ho
      have hin : vp_in (nI j) 16 := vp_in_nI (by omega) (by decide)
      refine br_f (nI_ge (show j < nl by omega) (by omega)) ⟨hin, ?_⟩
      rw [nI_clamp (show j < 2 ^ 31 by omega)]
      obtain ⟨c, hc, eo, b1, b2⟩ := how j (by omega)
      rw [eo]
      refine pk_le nc c (fun z => nm_r (nI_1 j) (ih (j + 1) (by omega) ?_)) (fun z => ⟨hin, ?_⟩)
      · have : c = nc := by omega
        subst this
        have e : min (j + 1) (st c) = min j (st c) := by omega
        rw [e]
        exact ho
      · rw [cd_en_lt z] at b2
        have := cd_mono' hw (c := c + 1) (d := nc) (by omega) (Nat.le_refl _)
        have e1 : min j (st nc) = j := by omega
        have e2 : min (j + 1) (st nc) = j + 1 := by omega
        rw [e1] at ho
        have yes : (a_lA0 j = t ∨ a_lA1 j = t) → post 1 := by
          intro y
          rw [(cg_oc_iff _).mpr ⟨j, by omega, y⟩, if_pos rfl] at h
          exact h
        refine br_c (fun e => yes (Or.inl e)) (fun e => ⟨hin, br_c (fun e3 => yes (Or.inr e3)) (fun e3 => nm_r (nI_1 j) (ih (j + 1) (by omega) ?_))⟩)
        rw [e2, cg_oc, ho, decide_eq_false (fun z => z.elim e e3)]
        rfl
  exact ⟨_, key nl 0 (by omega) (by rw [Nat.zero_min]; rfl)⟩
theorem yu_pred {post : Int32 → Prop} {nc nl : Nat} {st : Nat → Nat} {sg a0 a1 ar : Nat → Int32} (hw : cd_wf nc nl st sg a_lPred a0 a1 ar) (how : cd_own nc nl st a_lOwner) {p : Nat}
    (h : post (if cg_op a_lPred p (st nc) = true then 1 else 0)) : wpY_predOccurs post (nI nc, nI nl, f_kept, f_kN, f_bN, f_sealed, f_lastStep, f_cNodes, f_cSp, f_pNodes, f_pSp, a_lSign, a_lPred, a_lA0, a_lA1, a_lOwner, a_arity, a_kKind, a_kA, a_kB, a_kBind, a_bKind, a_bA, a_bB, a_bBind, a_cCopy, a_cLit, a_cPar, a_cStk, a_cl, a_gtab, a_pLit, a_pPar, a_pStk) (nI p) := by
  have hnc := hw.1
  have hM := hw.2.2.2.2.1
  have hnl := hw.2.1
  have key : ∀ d j : Nat, j + d = nl → (cg_op a_lPred p (min j (st nc)) = false) → wY_predOccurs_2 post (nI p) (nI nc) (nI nl) f_kept f_kN f_bN f_sealed f_lastStep f_cNodes f_cSp f_pNodes f_pSp a_lSign a_lPred a_lA0 a_lA1 a_lOwner a_arity a_kKind a_kA a_kB a_kBind a_bKind a_bA a_bB a_bBind a_cCopy a_cLit a_cPar a_cStk a_cl a_gtab a_pLit a_pPar a_pStk (d + 1) (nI j) := by
    intro d
    induction d with
    | zero =>
      intro j hj ho
      have e : min j (st nc) = st nc := by omega
      rw [e] at ho
      rw [ho, if_neg (by decide)] at h
      exact br_t (nI_le (by omega) (by omega)) h
    | succ d ih =>
      intro j hj ho
      have hin : vp_in (nI j) 16 := vp_in_nI (by omega) (by decide)
      refine br_f (nI_ge (show j < nl by omega) (by omega)) ⟨hin, ?_⟩
      rw [nI_clamp (show j < 2 ^ 31 by omega)]
      obtain ⟨c, hc, eo, b1, b2⟩ := how j (by omega)
      rw [eo]
      refine pk_le nc c (fun z => nm_r (nI_1 j) (ih (j + 1) (by omega) ?_)) (fun z => ⟨hin, ?_⟩)
      · have : c = nc := by omega
        subst this
        have e : min (j + 1) (st c) = min j (st c) := by omega
        rw [e]
        exact ho
      · rw [cd_en_lt z] at b2
        have := cd_mono' hw (c := c + 1) (d := nc) (by omega) (Nat.le_refl _)
        have e1 : min j (st nc) = j := by omega
        have e2 : min (j + 1) (st nc) = j + 1 := by omega
        rw [e1] at ho
        refine br_c (fun e => ?_) (fun e => nm_r (nI_1 j) (ih (j + 1) (by omega) ?_))
        · rw [(cg_op_iff _).mpr ⟨j, by omega, e⟩, if_pos rfl] at h
          exact h
        · rw [e2, cg_op, ho, decide_eq_false e]
          rfl
  exact ⟨_, key nl 0 (by omega) (by rw [Nat.zero_min]; rfl)⟩
theorem yu_size {post : Int32 → Prop} {nc nl : Nat} {st : Nat → Nat} {sg pr ar : Nat → Int32} (hw : cd_wf nc nl st sg pr a_lA0 a_lA1 ar) (how : cd_own nc nl st a_lOwner)
    (h : post (nI (cg_sz (cg_oc a_lA0 a_lA1 0 (st nc) && cg_oc a_lA0 a_lA1 1 (st nc))))) : wpY_uSize post (nI nc, nI nl, f_kept, f_kN, f_bN, f_sealed, f_lastStep, f_cNodes, f_cSp, f_pNodes, f_pSp, a_lSign, a_lPred, a_lA0, a_lA1, a_lOwner, a_arity, a_kKind, a_kA, a_kB, a_kBind, a_bKind, a_bA, a_bB, a_bBind, a_cCopy, a_cLit, a_cPar, a_cStk, a_cl, a_gtab, a_pLit, a_pPar, a_pStk) := by
  refine yu_occ hw how ?_
  cases o0 : cg_oc a_lA0 a_lA1 0 (st nc)
  · rw [o0] at h
    rw [if_neg (by decide)]
    exact br_t rfl h
  · rw [o0] at h
    rw [if_pos rfl]
    refine br_f (by decide) (yu_occ hw how ?_)
    cases o1 : cg_oc a_lA0 a_lA1 1 (st nc)
    · rw [o1] at h
      rw [if_neg (by decide)]
      exact br_t rfl h
    · rw [o1] at h
      rw [if_pos rfl]
      exact br_f (by decide) h
theorem yu_power {post : Int32 → Prop} {b e : Nat} (he : e ≤ 8) (h : post (nI (b ^ e))) : wpY_power post (f_clauseCount, f_litCount, f_kept, f_kN, f_bN, f_sealed, f_lastStep, f_cNodes, f_cSp, f_pNodes, f_pSp, a_lSign, a_lPred, a_lA0, a_lA1, a_lOwner, a_arity, a_kKind, a_kA, a_kB, a_kBind, a_bKind, a_bA, a_bB, a_bBind, a_cCopy, a_cLit, a_cPar, a_cStk, a_cl, a_gtab, a_pLit, a_pPar, a_pStk) (nI b) (nI e) := by
  have key : ∀ d i : Nat, i + d = e → wY_power_5 post (nI b) (nI e) f_clauseCount f_litCount f_kept f_kN f_bN f_sealed f_lastStep f_cNodes f_cSp f_pNodes f_pSp a_lSign a_lPred a_lA0 a_lA1 a_lOwner a_arity a_kKind a_kA a_kB a_kBind a_bKind a_bA a_bB a_bBind a_cCopy a_cLit a_cPar a_cStk a_cl a_gtab a_pLit a_pPar a_pStk (d + 1) (nI (b ^ i)) (nI i) := by
    intro d
    induction d with
    | zero =>
      intro i hi
      have : i = e := by omega
      rw [this]
      exact br_t (nI_le (Nat.le_refl e) (by omega)) h
    | succ d ih =>
      intro i hi
      refine br_f (nI_ge (by omega) (by omega)) (br_f (nI_ge (b := 8) (by omega) (by decide)) (nm_r (pk_mul _ _) (nm_r (nI_1 i) ?_)))
      rw [← Nat.pow_succ]
      exact ih (i + 1) (by omega)
  exact ⟨_, key e 0 (by omega)⟩
theorem yu_pow3 {post : Int32 → Prop} {e : Nat} (he : e ≤ 8) (h : post (nI (3 ^ e))) : wpY_pow3 post (f_clauseCount, f_litCount, f_kept, f_kN, f_bN, f_sealed, f_lastStep, f_cNodes, f_cSp, f_pNodes, f_pSp, a_lSign, a_lPred, a_lA0, a_lA1, a_lOwner, a_arity, a_kKind, a_kA, a_kB, a_kBind, a_bKind, a_bA, a_bB, a_bBind, a_cCopy, a_cLit, a_cPar, a_cStk, a_cl, a_gtab, a_pLit, a_pPar, a_pStk) (nI e) := yu_power (b := 3) he h
theorem yu_arN {nc nl : Nat} {st : Nat → Nat} {sg pr a0 a1 ar : Nat → Int32} (hw : cd_wf nc nl st sg pr a0 a1 ar) {p : Nat} (hop : cg_op pr p (st nc) = true) (hp : p < 4) :
    (ar p).toNatClampNeg ≤ 2 ∧ ar p = nI (ar p).toNatClampNeg := by
  obtain ⟨l, hl, el⟩ := (cg_op_iff _).mp hop
  have hl2 : l < nl := Nat.lt_of_lt_of_le hl hw.2.2.2.2.1
  obtain ⟨q, hq, eq, ea⟩ := (hw.2.2.2.2.2.2.1 l hl2).2.1
  have a2 := (cd_arg hw hl2).1
  rw [eq, nI_eq (by omega) (by omega)] at el
  subst el
  rw [ea, nI_clamp (by omega)]
  exact ⟨a2, rfl⟩
theorem yu_count {post : Int32 → Prop} {nc nl : Nat} {st : Nat → Nat} {sg : Nat → Int32} (hw : cd_wf nc nl st sg a_lPred a_lA0 a_lA1 a_arity) (how : cd_own nc nl st a_lOwner)
    (h : post (nI (cg_base a_lPred a_arity (st nc) (cg_oc a_lA0 a_lA1 0 (st nc) && cg_oc a_lA0 a_lA1 1 (st nc)) 4))) : wpY_getGroundAtoms post (nI nc, nI nl, f_kept, f_kN, f_bN, f_sealed, f_lastStep, f_cNodes, f_cSp, f_pNodes, f_pSp, a_lSign, a_lPred, a_lA0, a_lA1, a_lOwner, a_arity, a_kKind, a_kA, a_kB, a_kBind, a_bKind, a_bA, a_bB, a_bBind, a_cCopy, a_cLit, a_cPar, a_cStk, a_cl, a_gtab, a_pLit, a_pPar, a_pStk) := by
  unfold wpY_getGroundAtoms
  dsimp only
  refine yu_size hw how ?_
  generalize (cg_oc a_lA0 a_lA1 0 (st nc) && cg_oc a_lA0 a_lA1 1 (st nc)) = two at h ⊢
  have key : ∀ d p : Nat, p + d = 4 → wY_getGroundAtoms_9 post (nI (cg_sz two)) (nI nc) (nI nl) f_kept f_kN f_bN f_sealed f_lastStep f_cNodes f_cSp f_pNodes f_pSp a_lSign a_lPred a_lA0 a_lA1 a_lOwner a_arity a_kKind a_kA a_kB a_kBind a_bKind a_bA a_bB a_bBind a_cCopy a_cLit a_cPar a_cStk a_cl a_gtab a_pLit a_pPar a_pStk (d + 1) (nI (cg_base a_lPred a_arity (st nc) two p)) (nI p) := by
    intro d
    induction d with
    | zero =>
      intro p hp
      have : p = 4 := by omega
      rw [this]
      exact br_t (nI_le (a := 4) (b := 4) (Nat.le_refl _) (by decide)) h
    | succ d ih =>
      intro p hp
      have ih2 := ih (p + 1) (by omega)
      rw [cg_base] at ih2
      refine br_f (nI_ge (b := 4) (by omega) (by decide)) ?_
      refine yu_pred hw how ?_
      by_cases o : cg_op a_lPred p (st nc) = true
      · rw [if_pos o]
        obtain ⟨a2, ea⟩ := yu_arN hw o (by omega)
        refine br_f (by decide) ⟨vp_in_nI (by omega) (by decide), ?_⟩
        rw [nI_clamp (show p < 2 ^ 31 by omega), ea]
        refine yu_power (by omega) (nm_r (nI_add _ _) (nm_r (nI_1 p) ?_))
        unfold cg_at at ih2
        rw [if_pos o] at ih2
        exact ih2
      · rw [if_neg o]
        unfold cg_at at ih2
        rw [if_neg o, Nat.add_zero] at ih2
        exact br_t rfl (nm_r (nI_1 p) ih2)
  exact ⟨_, key 4 0 (by omega)⟩
end
theorem i_vc_getGroundAtoms {k : Nat} {u : SX} {v : SY} (I : i_Rel k u v) (hk : k + 5 ≤ 2560) : wpX_getGroundAtoms (fun r => wpY_getGroundAtoms (fun r' => r' = r ∧ i_Rel (k + 5) u v) v) u := by
  obtain ⟨nc, nl, st, sl, kp, ls, ns, bn, kc, kn, sg, pr, a0, a1, ar, cs, ow, xK, xA, xB, bd, yK, yA, yB, yb, kK, kA, kB, kI, zK, zA, zB, zb, lh, ph, x0, x1, x2, x3, y0, y1, y2, y3, X0, X1, X2, X3, X4, X5, X6, X7, X8, Y0, Y1, Y2, Y3, Y4, Y5, Y6, Y7, Y8, rfl, rfl, h⟩ := I
  obtain ⟨hw, hcs, how⟩ := h.1
  refine xu_count hw hcs ?_
  exact yu_count hw how ⟨rfl, i_mk h⟩
theorem cg_at_4 {nc nl : Nat} {st : Nat → Nat} {sg pr a0 a1 ar : Nat → Int32} (hw : cd_wf nc nl st sg pr a0 a1 ar) {two : Bool} {p : Nat} (hp : p < 4) : cg_at pr ar (st nc) two p ≤ 4 := by
  unfold cg_at
  by_cases o : cg_op pr p (st nc) = true
  · rw [if_pos o]
    have h2 := (yu_arN hw o hp).1
    generalize (ar p).toNatClampNeg = a at h2 ⊢
    unfold cg_sz
    have c : a = 0 ∨ a = 1 ∨ a = 2 := by omega
    cases two <;> rcases c with c | c | c <;> subst c <;> decide
  · rw [if_neg o]
    omega
theorem cg_base_16 {nc nl : Nat} {st : Nat → Nat} {sg pr a0 a1 ar : Nat → Int32} (hw : cd_wf nc nl st sg pr a0 a1 ar) {two : Bool} : cg_base pr ar (st nc) two 4 < 2 ^ 31 := by
  have h0 := cg_at_4 (two := two) hw (show 0 < 4 by omega)
  have h1 := cg_at_4 (two := two) hw (show 1 < 4 by omega)
  have h2 := cg_at_4 (two := two) hw (show 2 < 4 by omega)
  have h3 := cg_at_4 (two := two) hw (show 3 < 4 by omega)
  show 0 + cg_at pr ar (st nc) two 0 + cg_at pr ar (st nc) two 1 + cg_at pr ar (st nc) two 2 + cg_at pr ar (st nc) two 3 < 2 ^ 31
  omega
end
section
/-! X's table of ground clauses -/
def cg_L (sg pr a0 a1 ar : Nat → Int32) (M j x y : Nat) : Nat := cg_gl sg pr a0 a1 ar M (cg_oc a0 a1 0 M && cg_oc a0 a1 1 M) j x y
def cg_HX (nc : Nat) (st : Nat → Nat) (sg pr a0 a1 ar : Nat → Int32) (q m : Nat) : Prop := ∃ j, st (q / 4) ≤ j ∧ j < st (q / 4 + 1) ∧ m = cg_L sg pr a0 a1 ar (st nc) j (q / 2 % 2) (q % 2)
def cg_UU (a0 a1 : Nat → Int32) (M x : Nat) : Prop := cg_U (cg_oc a0 a1 0 M) (cg_oc a0 a1 1 M) x
def cg_RX (nc : Nat) (st : Nat → Nat) (a0 a1 : Nat → Int32) (q : Nat) : Prop := q < 4 * nc ∧ cg_UU a0 a1 (st nc) (q / 2 % 2) ∧ cg_UU a0 a1 (st nc) (q % 2)
def cg_tb (t : Nat) : Nat → Bool := fun a => t.testBit a
theorem xt_bit : ∀ a, a < 5 → ∀ t, t < 32 → bt (xt_in a 32) t = t.testBit a := by decide +kernel
theorem xs_lh {lh ph : Nat → Int32} (h : cr_fix lh ph) {m t : Nat} (hm : m < 10) (ht : t < 32) : bt (lh m) t = true ↔ cm_tr (cg_tb t) m := by
  obtain ⟨h1, h2⟩ := h.1 (m / 2) (by omega)
  unfold cm_tr cg_tb
  have hx := xt_bit (m / 2) (by omega) t ht
  by_cases e : m % 2 = 0
  · have em : 2 * (m / 2) = m := by omega
    rw [em] at h1
    rw [h1, hx, decide_eq_true e]
  · have em : 2 * (m / 2) + 1 = m := by omega
    rw [em] at h2
    rw [h2, b_xor, hx, b_m1 t ht, decide_eq_false e]
    cases t.testBit (m / 2) <;> simp
theorem xs_b1 : ∀ i, i < 32 → bt 1 i = decide (i = 0) := by decide +kernel
theorem xs_bit (R : Int32) {k : Nat} (hk : k < 32) : ((R >>> (nI k &&& 31)) &&& 1) = 0 ↔ bt R k = false := by
  constructor
  · intro h
    have h2 := congrArg (fun z => bt z 0) h
    try dsimp only at h2
    rw [b_and, b_sshr k hk R (by omega), if_pos (by omega), b_0, xs_b1 0 (by omega), Nat.add_zero] at h2
    simpa using h2
  · intro h
    apply b_ext
    intro i hi
    rw [b_and, xs_b1 i hi, b_0]
    by_cases e : i = 0
    · subst e
      rw [b_sshr k hk R (by omega), if_pos (by omega), Nat.add_zero, h]
      rfl
    · rw [decide_eq_false e, Bool.and_false]
theorem xs_one {k q : Nat} (hk : k < 32) (hq : q < 32) : bt ((1 : Int32) <<< (nI k &&& 31)) q = decide (q = k) := by
  rw [b_shl k hk 1 hq]
  by_cases h : k ≤ q
  · rw [decide_eq_true h, Bool.true_and, xs_b1 (q - k) (by omega)]
    by_cases e : q = k
    · rw [decide_eq_true e, decide_eq_true (by omega)]
    · rw [decide_eq_false e, decide_eq_false (by omega)]
  · rw [decide_eq_false h, Bool.false_and, decide_eq_false (by omega)]
theorem xs_del (R : Int32) {k q : Nat} (hk : k < 32) (hq : q < 32) : bt (R &&& (((1 : Int32) <<< (nI k &&& 31)) ^^^ (-1))) q = (bt R q && !decide (q = k)) := by
  rw [b_and, b_xor, xs_one hk hq, b_m1 q hq]
  cases decide (q = k) <;> rfl
def xs_R (R : Int32) (q : Nat) : Prop := q < 32 ∧ bt R q = true
def xs_G (G : Int32) (m : Nat) : Prop := m < 10 ∧ bt G m = true
theorem xs_R_del {R : Int32} {k : Nat} (hk : k < 32) (q : Nat) : xs_R (R &&& (((1 : Int32) <<< (nI k &&& 31)) ^^^ (-1))) q ↔ cm_del (xs_R R) k q := by
  unfold xs_R cm_del
  constructor
  · intro ⟨h1, h2⟩
    rw [xs_del R hk h1, Bool.and_eq_true] at h2
    refine ⟨⟨h1, h2.1⟩, fun e => ?_⟩
    rw [decide_eq_true e] at h2
    exact absurd h2.2 (by decide)
  · intro ⟨⟨h1, h2⟩, h3⟩
    refine ⟨h1, ?_⟩
    rw [xs_del R hk h1, h2, decide_eq_false h3]
    rfl
theorem xs_G_add {G : Int32} {k : Nat} (hk : k < 10) (m : Nat) : xs_G (G ||| ((1 : Int32) <<< (nI k &&& 31))) m ↔ cm_add (xs_G G) k m := by
  unfold xs_G cm_add
  constructor
  · intro ⟨h1, h2⟩
    rw [b_or, xs_one (by omega) (by omega), Bool.or_eq_true] at h2
    rcases h2 with h2 | h2
    · exact Or.inl ⟨h1, h2⟩
    · exact Or.inr (of_decide_eq_true h2)
  · intro h
    rcases h with ⟨h1, h2⟩ | h
    · refine ⟨h1, ?_⟩
      rw [b_or, h2]
      rfl
    · subst h
      refine ⟨hk, ?_⟩
      rw [b_or, xs_one (by omega) (by omega), decide_eq_true rfl, Bool.or_true]
theorem xs_G_0 (m : Nat) : ¬ xs_G 0 m := by
  intro h
  have := h.2
  rw [b_0] at this
  exact absurd this (by decide)
/-- a choice of truth values for five atoms is a number below 32 -/
theorem xs_f5 (f : Nat → Bool) : ∃ t, t < 32 ∧ ∀ a, a < 5 → t.testBit a = f a := by
  have all : ∀ b0 b1 b2 b3 b4 : Bool, ∃ t, t < 32 ∧ t.testBit 0 = b0 ∧ t.testBit 1 = b1 ∧ t.testBit 2 = b2 ∧ t.testBit 3 = b3 ∧ t.testBit 4 = b4 := by
    intro b0 b1 b2 b3 b4
    refine ⟨b0.toNat + 2 * b1.toNat + 4 * b2.toNat + 8 * b3.toNat + 16 * b4.toNat, ?_⟩
    revert b0 b1 b2 b3 b4
    decide
  obtain ⟨t, ht, h0, h1, h2, h3, h4⟩ := all (f 0) (f 1) (f 2) (f 3) (f 4)
  refine ⟨t, ht, fun a ha => ?_⟩
  have : a = 0 ∨ a = 1 ∨ a = 2 ∨ a = 3 ∨ a = 4 := by omega
  rcases this with e | e | e | e | e <;> subst e <;> assumption
theorem xs_tr {f : Nat → Bool} {t m : Nat} (h : ∀ a, a < 5 → t.testBit a = f a) (hm : m < 10) : cm_tr f m ↔ cm_tr (cg_tb t) m := by
  unfold cm_tr cg_tb
  rw [h (m / 2) (by omega)]
def xi_row (nc : Nat) (st : Nat → Nat) (sg pr a0 a1 ar il ih : Nat → Int32) (q : Nat) : Prop :=
  (∀ i, i < 3 → il (3 * q + i) = if st (q / 4) + i < st (q / 4 + 1) then nI (cg_L sg pr a0 a1 ar (st nc) (st (q / 4) + i) (q / 2 % 2) (q % 2)) else -1) ∧
  (∀ t, t < 32 → (bt (ih q) t = true ↔ ∃ m, cg_HX nc st sg pr a0 a1 ar q m ∧ cm_tr (cg_tb t) m))
def xi_tab (nc : Nat) (st : Nat → Nat) (sg pr a0 a1 ar il ih : Nat → Int32) : Prop := ∀ q, cg_RX nc st a0 a1 q → xi_row nc st sg pr a0 a1 ar il ih q
theorem cg_HX_lt {nc nl : Nat} {st : Nat → Nat} {sg pr a0 a1 ar : Nat → Int32} (hw : cd_wf nc nl st sg pr a0 a1 ar) (h5 : cg_base pr ar (st nc) (cg_oc a0 a1 0 (st nc) && cg_oc a0 a1 1 (st nc)) 4 ≤ 5)
    {q m : Nat} (hq : q < 4 * nc) (h : cg_HX nc st sg pr a0 a1 ar q m) : m < 10 := by
  obtain ⟨j, h1, h2, e⟩ := h
  have hst := cd_mono' hw (c := q / 4 + 1) (d := nc) (by omega) (Nat.le_refl _)
  have := cg_gl_lt (two := (cg_oc a0 a1 0 (st nc) && cg_oc a0 a1 1 (st nc))) (x := q / 2 % 2) (y := q % 2) hw (show j < st nc by omega) (by omega) (by omega)
  rw [e]
  unfold cg_L
  omega
section
variable {f_litCount f_clauseCount f_stepCount f_bufferSealed f_lastCheckStep f_keptCount f_proofKept f_openCount f_universeSize f_neededInstances f_givenLiterals : Int32} {a_litSign a_litPred a_litArg0 a_litArg1 a_clauseStart a_predArity a_stepKind a_stepA a_stepB a_binding a_keptKind a_keptA a_keptB a_keptInstance a_openCopy a_openLit a_parentCopy a_parentLit a_pathLength a_atomBase a_instanceLits a_instanceHolds a_literalHolds a_restInstances a_pathLiterals : Nat → Int32}
theorem xi_val {post : Int32 → Prop} {q n : Nat} {t : Int32} (hq : q < 32) (hn : n < 4) (e : t = nI n) (h : post (nI (cg_vl t (q / 2 % 2) (q % 2)))) : wpX_valueIn post (f_litCount, f_clauseCount, f_stepCount, f_bufferSealed, f_lastCheckStep, f_keptCount, f_proofKept, f_openCount, f_universeSize, f_neededInstances, f_givenLiterals, a_litSign, a_litPred, a_litArg0, a_litArg1, a_clauseStart, a_predArity, a_stepKind, a_stepA, a_stepB, a_binding, a_keptKind, a_keptA, a_keptB, a_keptInstance, a_openCopy, a_openLit, a_parentCopy, a_parentLit, a_pathLength, a_atomBase, a_instanceLits, a_instanceHolds, a_literalHolds, a_restInstances, a_pathLiterals) (nI q) t := by
  unfold cg_vl at h
  refine br_c (fun e2 => ?_) (fun e2 => br_c (fun e3 => ?_) (fun e3 => ?_))
  · rw [if_pos e2] at h
    rw [(xd_bits q hq).1]
    exact h
  · rw [if_neg e2, if_pos e3] at h
    rw [(xd_bits q hq).2]
    exact h
  · rw [if_neg e2, if_neg e3, e, nI_clamp (by omega)] at h
    rw [e]
    exact h
theorem xi_lit {post : Int32 → Prop} {nc nl : Nat} {st : Nat → Nat} (hw : cd_wf nc nl st a_litSign a_litPred a_litArg0 a_litArg1 a_predArity)
    (hab : ∀ p, p < 4 → a_atomBase p = nI (cg_base a_litPred a_predArity (st nc) (cg_oc a_litArg0 a_litArg1 0 (st nc) && cg_oc a_litArg0 a_litArg1 1 (st nc)) p))
    {j q : Nat} (hj : j < st nc) (hq : q < 32) (h : post (nI (cg_L a_litSign a_litPred a_litArg0 a_litArg1 a_predArity (st nc) j (q / 2 % 2) (q % 2)))) :
    wpX_groundLiteral post (f_litCount, f_clauseCount, f_stepCount, f_bufferSealed, f_lastCheckStep, f_keptCount, f_proofKept, f_openCount, nI (cg_sz (cg_oc a_litArg0 a_litArg1 0 (st nc) && cg_oc a_litArg0 a_litArg1 1 (st nc))), f_neededInstances, f_givenLiterals, a_litSign, a_litPred, a_litArg0, a_litArg1, a_clauseStart, a_predArity, a_stepKind, a_stepA, a_stepB, a_binding, a_keptKind, a_keptA, a_keptB, a_keptInstance, a_openCopy, a_openLit, a_parentCopy, a_parentLit, a_pathLength, a_atomBase, a_instanceLits, a_instanceHolds, a_literalHolds, a_restInstances, a_pathLiterals) (nI j) (nI q) := by
  have hM := hw.2.2.2.2.1
  have hnl := hw.2.1
  obtain ⟨s2, es, p4, ep, har, _, f0, f1, a2⟩ := cg_lit hw hj
  have hin : vp_in (nI j) 16 := vp_in_nI (by omega) (by decide)
  have clj : (nI j).toNatClampNeg = j := nI_clamp (by omega)
  unfold cg_L cg_gl at h
  generalize hT : (cg_oc a_litArg0 a_litArg1 0 (st nc) && cg_oc a_litArg0 a_litArg1 1 (st nc)) = two at h hab ⊢
  refine ⟨hin, ?_⟩
  rw [clj]
  generalize hP : (a_litPred j).toNatClampNeg = p at h p4 ep har
  refine nm_r ep ?_
  have inp : vp_in (nI p) 4 := vp_in_nI p4 (by decide)
  have clp : (nI p).toNatClampNeg = p := nI_clamp (by omega)
  have eA : a_predArity p = nI (ck_ar (a_litArg0 j) (a_litArg1 j)) := by
    obtain ⟨p', hp', ep', ea'⟩ := (hw.2.2.2.2.2.2.1 j (by omega)).2.1
    rw [ep, nI_eq (by omega) (by omega)] at ep'
    rw [ep']
    exact ea'
  have fin : ∀ tup : Nat, cg_tup a_litArg0 a_litArg1 two j (q / 2 % 2) (q % 2) = tup → wX_groundLiteral_61 post (nI j) (nI p) (nI tup) f_litCount f_clauseCount f_stepCount f_bufferSealed f_lastCheckStep f_keptCount f_proofKept f_openCount (nI (cg_sz two)) f_neededInstances f_givenLiterals a_litSign a_litPred a_litArg0 a_litArg1 a_clauseStart a_predArity a_stepKind a_stepA a_stepB a_binding a_keptKind a_keptA a_keptB a_keptInstance a_openCopy a_openLit a_parentCopy a_parentLit a_pathLength a_atomBase a_instanceLits a_instanceHolds a_literalHolds a_restInstances a_pathLiterals := by
    intro tup et
    refine ⟨inp, hin, ?_⟩
    rw [clj, clp, hab p p4, es, nI_add, show (2 : Int32) = nI 2 from rfl, pk_mul, nI_add]
    rw [et] at h
    exact h
  have arg0 : ∀ {P : Int32 → Prop}, P (a_litArg0 j) → wpX_argumentOf P (f_litCount, f_clauseCount, f_stepCount, f_bufferSealed, f_lastCheckStep, f_keptCount, f_proofKept, f_openCount, nI (cg_sz two), f_neededInstances, f_givenLiterals, a_litSign, a_litPred, a_litArg0, a_litArg1, a_clauseStart, a_predArity, a_stepKind, a_stepA, a_stepB, a_binding, a_keptKind, a_keptA, a_keptB, a_keptInstance, a_openCopy, a_openLit, a_parentCopy, a_parentLit, a_pathLength, a_atomBase, a_instanceLits, a_instanceHolds, a_literalHolds, a_restInstances, a_pathLiterals) (nI j) 0 := by
    intro P hP
    refine br_t rfl ⟨hin, ?_⟩
    rw [clj]
    exact hP
  have arg1 : ∀ {P : Int32 → Prop}, P (a_litArg1 j) → wpX_argumentOf P (f_litCount, f_clauseCount, f_stepCount, f_bufferSealed, f_lastCheckStep, f_keptCount, f_proofKept, f_openCount, nI (cg_sz two), f_neededInstances, f_givenLiterals, a_litSign, a_litPred, a_litArg0, a_litArg1, a_clauseStart, a_predArity, a_stepKind, a_stepA, a_stepB, a_binding, a_keptKind, a_keptA, a_keptB, a_keptInstance, a_openCopy, a_openLit, a_parentCopy, a_parentLit, a_pathLength, a_atomBase, a_instanceLits, a_instanceHolds, a_literalHolds, a_restInstances, a_pathLiterals) (nI j) 1 := by
    intro P hP
    refine br_f (by decide) ⟨hin, ?_⟩
    rw [clj]
    exact hP
  have dbl : ∀ a b : Nat, (2 * nI a) + nI b = nI (2 * a + b) := by
    intro a b
    rw [show (2 : Int32) = nI 2 from rfl, pk_mul, nI_add]
  have c : ck_ar (a_litArg0 j) (a_litArg1 j) = 0 ∨ ck_ar (a_litArg0 j) (a_litArg1 j) = 1 ∨ ck_ar (a_litArg0 j) (a_litArg1 j) = 2 := by omega
  unfold cg_tup at fin
  by_cases t : two = true
  · have e2 : nI (cg_sz two) = 2 := by unfold cg_sz; rw [if_pos t]; rfl
    rw [if_pos t] at fin
    rcases c with c | c | c
    · rw [c, if_pos rfl] at fin
      rw [c] at eA
      refine ⟨1, inp, ?_⟩
      rw [clp, eA]
      exact br_t (by decide) (fin 0 rfl)
    · rw [c, if_neg (by decide), if_pos rfl] at fin
      rw [c] at eA
      obtain ⟨n0, hn0, e0⟩ := f0 (by omega)
      refine ⟨2, inp, ?_⟩
      rw [clp, eA]
      refine br_f (by decide) (br_t e2 (arg0 (xi_val hq hn0 e0 (nm_r (dbl 0 _) (nm_r (nI_1 0) ⟨inp, ?_⟩)))))
      rw [clp, eA]
      refine br_t (by decide) (fin _ ?_)
      omega
    · rw [c, if_neg (by decide), if_neg (by decide)] at fin
      rw [c] at eA
      obtain ⟨n0, hn0, e0⟩ := f0 (by omega)
      obtain ⟨n1, hn1, e1⟩ := f1 (by omega)
      refine ⟨3, inp, ?_⟩
      rw [clp, eA]
      refine br_f (by decide) (br_t e2 (arg0 (xi_val hq hn0 e0 (nm_r (dbl 0 _) (nm_r (nI_1 0) ⟨inp, ?_⟩)))))
      rw [clp, eA]
      refine br_f (by decide) (br_t e2 (arg1 (xi_val hq hn1 e1 (nm_r (dbl _ _) (nm_r (nI_1 1) ⟨inp, ?_⟩)))))
      rw [clp, eA]
      refine br_t (by decide) (fin _ ?_)
      omega
  · have e1 : ¬ nI (cg_sz two) = 2 := by unfold cg_sz; rw [if_neg t]; decide
    rw [if_neg t] at fin
    refine ⟨1, inp, ?_⟩
    rw [clp, eA]
    exact br_c (fun _ => fin 0 rfl) (fun _ => br_f e1 (fin 0 rfl))
end
end
section
section
variable {f_litCount f_clauseCount f_stepCount f_bufferSealed f_lastCheckStep f_keptCount f_proofKept f_openCount f_universeSize f_neededInstances f_givenLiterals : Int32} {a_litSign a_litPred a_litArg0 a_litArg1 a_clauseStart a_predArity a_stepKind a_stepA a_stepB a_binding a_keptKind a_keptA a_keptB a_keptInstance a_openCopy a_openLit a_parentCopy a_parentLit a_pathLength a_atomBase a_instanceLits a_instanceHolds a_literalHolds a_restInstances a_pathLiterals : Nat → Int32}
/-- one ground clause -/
theorem xi_make {post : SX → Prop} {nc nl : Nat} {st : Nat → Nat} (hw : cd_wf nc nl st a_litSign a_litPred a_litArg0 a_litArg1 a_predArity) (hcs : ∀ c, c ≤ nc → a_clauseStart c = nI (st c))
    (hfx : cr_fix a_literalHolds a_pathLength)
    (hab : ∀ p, p < 4 → a_atomBase p = nI (cg_base a_litPred a_predArity (st nc) (cg_oc a_litArg0 a_litArg1 0 (st nc) && cg_oc a_litArg0 a_litArg1 1 (st nc)) p))
    (h5 : cg_base a_litPred a_predArity (st nc) (cg_oc a_litArg0 a_litArg1 0 (st nc) && cg_oc a_litArg0 a_litArg1 1 (st nc)) 4 ≤ 5) {q : Nat} (hq : q < 4 * nc)
    (h : ∀ il ih : Nat → Int32, (∀ n, n < 3 * q → il n = a_instanceLits n) → (∀ n, n < q → ih n = a_instanceHolds n) → xi_row nc st a_litSign a_litPred a_litArg0 a_litArg1 a_predArity il ih q →
      post (nI nl, nI nc, f_stepCount, f_bufferSealed, f_lastCheckStep, f_keptCount, f_proofKept, f_openCount, nI (cg_sz (cg_oc a_litArg0 a_litArg1 0 (st nc) && cg_oc a_litArg0 a_litArg1 1 (st nc))), f_neededInstances, f_givenLiterals, a_litSign, a_litPred, a_litArg0, a_litArg1, a_clauseStart, a_predArity, a_stepKind, a_stepA, a_stepB, a_binding, a_keptKind, a_keptA, a_keptB, a_keptInstance, a_openCopy, a_openLit, a_parentCopy, a_parentLit, a_pathLength, a_atomBase, il, ih, a_literalHolds, a_restInstances, a_pathLiterals)) :
    wpX_makeInstance post (nI nl, nI nc, f_stepCount, f_bufferSealed, f_lastCheckStep, f_keptCount, f_proofKept, f_openCount, nI (cg_sz (cg_oc a_litArg0 a_litArg1 0 (st nc) && cg_oc a_litArg0 a_litArg1 1 (st nc))), f_neededInstances, f_givenLiterals, a_litSign, a_litPred, a_litArg0, a_litArg1, a_clauseStart, a_predArity, a_stepKind, a_stepA, a_stepB, a_binding, a_keptKind, a_keptA, a_keptB, a_keptInstance, a_openCopy, a_openLit, a_parentCopy, a_parentLit, a_pathLength, a_atomBase, a_instanceLits, a_instanceHolds, a_literalHolds, a_restInstances, a_pathLiterals) (nI q) := by
  have hnc := hw.1
  have hnl := hw.2.1
  have hM := hw.2.2.2.2.1
  have ed : nI q / 4 = nI (q / 4) := by
    rw [show (4 : Int32) = nI 4 from rfl, pk_div (by omega) (by omega) (by omega)]
  have hc : q / 4 < nc := by omega
  obtain ⟨b1, b2, b3⟩ := cd_en_bd hw (show q / 4 ≤ nc by omega)
  rw [cd_en_lt hc] at b1 b2 b3
  have hst := cd_mono' hw (c := q / 4 + 1) (d := nc) (by omega) (Nat.le_refl _)
  refine ⟨by decide, nm_r ed ?_⟩
  refine xl_len hw hcs (by omega) ?_
  rw [cd_en_lt hc]
  have key : ∀ d i : Nat, i + d = 3 → ∀ (w : Int32) (il : Nat → Int32), (∀ n, n < 3 * q → il n = a_instanceLits n) →
      (∀ i', i' < i → il (3 * q + i') = if st (q / 4) + i' < st (q / 4 + 1) then nI (cg_L a_litSign a_litPred a_litArg0 a_litArg1 a_predArity (st nc) (st (q / 4) + i') (q / 2 % 2) (q % 2)) else -1) →
      (∀ t, t < 32 → (bt w t = true ↔ ∃ i', i' < i ∧ st (q / 4) + i' < st (q / 4 + 1) ∧ cm_tr (cg_tb t) (cg_L a_litSign a_litPred a_litArg0 a_litArg1 a_predArity (st nc) (st (q / 4) + i') (q / 2 % 2) (q % 2)))) →
      wX_makeInstance_16 post (nI q) (nI (q / 4)) (nI (st (q / 4 + 1) - st (q / 4))) (nI nl) (nI nc) f_stepCount f_bufferSealed f_lastCheckStep f_keptCount f_proofKept f_openCount (nI (cg_sz (cg_oc a_litArg0 a_litArg1 0 (st nc) && cg_oc a_litArg0 a_litArg1 1 (st nc)))) f_neededInstances f_givenLiterals (d + 1) w (nI i) a_litSign a_litPred a_litArg0 a_litArg1 a_clauseStart a_predArity a_stepKind a_stepA a_stepB a_binding a_keptKind a_keptA a_keptB a_keptInstance a_openCopy a_openLit a_parentCopy a_parentLit a_pathLength a_atomBase il a_instanceHolds a_literalHolds a_restInstances a_pathLiterals := by
    intro d
    induction d with
    | zero =>
      intro i hi w il hil hrow hbits
      have ei : i = 3 := by omega
      subst ei
      refine br_t (nI_le (a := 3) (b := 3) (Nat.le_refl _) (by decide)) ⟨vp_in_nI (by omega) (by decide), ?_⟩
      rw [nI_clamp (show q < 2 ^ 31 by omega)]
      refine nm_e (h il _ hil (fun n hn => pk_un (by omega)) ⟨hrow, fun t ht => ?_⟩)
      rw [pk_us, hbits t ht]
      constructor
      · intro ⟨i', _, h2, h3⟩
        exact ⟨_, ⟨st (q / 4) + i', by omega, h2, rfl⟩, h3⟩
      · intro ⟨m, ⟨j, h1, h2, e⟩, h3⟩
        refine ⟨j - st (q / 4), by omega, by omega, ?_⟩
        have ej : st (q / 4) + (j - st (q / 4)) = j := by omega
        rw [ej, ← e]
        exact h3
    | succ d ih =>
      intro i hi w il hil hrow hbits
      have hi3 : i < 3 := by omega
      have inL : vp_in (nI (3 * q + i)) 96 := vp_in_nI (by omega) (by decide)
      have clL : (nI (3 * q + i)).toNatClampNeg = 3 * q + i := nI_clamp (by omega)
      have eix : (3 * nI q) + nI i = nI (3 * q + i) := by
        rw [show (3 : Int32) = nI 3 from rfl, pk_mul, nI_add]
      -- behind the literal x
      have tail : ∀ (x w' : Int32), x = (if st (q / 4) + i < st (q / 4 + 1) then nI (cg_L a_litSign a_litPred a_litArg0 a_litArg1 a_predArity (st nc) (st (q / 4) + i) (q / 2 % 2) (q % 2)) else -1) →
          (∀ t, t < 32 → (bt w' t = true ↔ ∃ i', i' < i + 1 ∧ st (q / 4) + i' < st (q / 4 + 1) ∧ cm_tr (cg_tb t) (cg_L a_litSign a_litPred a_litArg0 a_litArg1 a_predArity (st nc) (st (q / 4) + i') (q / 2 % 2) (q % 2)))) →
          wX_makeInstance_59 post (wX_makeInstance_16 post (nI q) (nI (q / 4)) (nI (st (q / 4 + 1) - st (q / 4))) (nI nl) (nI nc) f_stepCount f_bufferSealed f_lastCheckStep f_keptCount f_proofKept f_openCount (nI (cg_sz (cg_oc a_litArg0 a_litArg1 0 (st nc) && cg_oc a_litArg0 a_litArg1 1 (st nc)))) f_neededInstances f_givenLiterals (d + 1)) (nI q) (nI (q / 4)) (nI (st (q / 4 + 1) - st (q / 4))) w' (nI i) x (nI nl) (nI nc) f_stepCount f_bufferSealed f_lastCheckStep f_keptCount f_proofKept f_openCount (nI (cg_sz (cg_oc a_litArg0 a_litArg1 0 (st nc) && cg_oc a_litArg0 a_litArg1 1 (st nc)))) f_neededInstances f_givenLiterals a_litSign a_litPred a_litArg0 a_litArg1 a_clauseStart a_predArity a_stepKind a_stepA a_stepB a_binding a_keptKind a_keptA a_keptB a_keptInstance a_openCopy a_openLit a_parentCopy a_parentLit a_pathLength a_atomBase il a_instanceHolds a_literalHolds a_restInstances a_pathLiterals := by
        intro x w' ex hw'
        unfold wX_makeInstance_59
        rw [eix, clL]
        refine ⟨inL, nm_e (nm_r (nI_1 i) (ih (i + 1) (by omega) w' _ (fun n hn => ?_) (fun i' hi' => ?_) hw'))⟩
        · rw [pk_un (by omega)]
          exact hil n hn
        · by_cases e : i' = i
          · subst e
            rw [pk_us]
            exact ex
          · rw [pk_un (by omega)]
            exact hrow i' (by omega)
      refine br_f (nI_ge (b := 3) hi3 (by decide)) ?_
      refine pk_le (st (q / 4 + 1) - st (q / 4)) i (fun z => ?_) (fun z => ?_)
      · refine tail (-1) w (by rw [if_neg (by omega)]) (fun t ht => ?_)
        rw [hbits t ht]
        constructor
        · intro ⟨i', h1, h2, h3⟩
          exact ⟨i', by omega, h2, h3⟩
        · intro ⟨i', h1, h2, h3⟩
          exact ⟨i', by omega, h2, h3⟩
      · refine ⟨vp_in_nI (by omega) (by decide), ?_⟩
        rw [nI_clamp (show q / 4 < 2 ^ 31 by omega), hcs (q / 4) (by omega), nI_add]
        refine xi_lit hw hab (show st (q / 4) + i < st nc by omega) (by omega) ?_
        have hlt := cg_HX_lt hw h5 hq ⟨st (q / 4) + i, by omega, by omega, rfl⟩
        refine ⟨vp_in_nI hlt (by decide), ?_⟩
        rw [nI_clamp (Nat.lt_trans hlt (by decide))]
        refine nm_e (tail _ _ (by rw [if_pos (by omega)]) (fun t ht => ?_))
        rw [b_or, Bool.or_eq_true, hbits t ht, xs_lh hfx hlt ht]
        constructor
        · intro hh
          rcases hh with ⟨i', h1, h2, h3⟩ | hh
          · exact ⟨i', by omega, h2, h3⟩
          · exact ⟨i, by omega, by omega, hh⟩
        · intro ⟨i', h1, h2, h3⟩
          by_cases e : i' = i
          · subst e
            exact Or.inr h3
          · exact Or.inl ⟨i', by omega, h2, h3⟩
  refine ⟨4, key 3 0 (by omega) 0 a_instanceLits (fun _ _ => rfl) (fun i' hi' => absurd hi' (Nat.not_lt_zero i')) (fun t ht => ?_)⟩
  rw [b_0]
  constructor
  · intro z
    exact absurd z (by decide)
  · intro ⟨i', h1, _⟩
    exact absurd h1 (Nat.not_lt_zero i')
end
theorem cg_Utest : ∀ o0 o1 : Bool, ∀ x, x < 2 → ∀ y, y < 2 → ((((nI (cg_con o0 o1) >>> (nI x &&& 31)) &&& (nI (cg_con o0 o1) >>> (nI y &&& 31))) &&& 1) = 0 ↔ ¬ (cg_U o0 o1 x ∧ cg_U o0 o1 y)) := by
  intro o0 o1 x hx y hy
  have ex : x = 0 ∨ x = 1 := by omega
  have ey : y = 0 ∨ y = 1 := by omega
  unfold cg_U
  rcases ex with rfl | rfl <;> rcases ey with rfl | rfl <;> cases o0 <;> cases o1 <;> decide
section
variable {f_litCount f_clauseCount f_stepCount f_bufferSealed f_lastCheckStep f_keptCount f_proofKept f_openCount f_universeSize f_neededInstances f_givenLiterals : Int32} {a_litSign a_litPred a_litArg0 a_litArg1 a_clauseStart a_predArity a_stepKind a_stepA a_stepB a_binding a_keptKind a_keptA a_keptB a_keptInstance a_openCopy a_openLit a_parentCopy a_parentLit a_pathLength a_atomBase a_instanceLits a_instanceHolds a_literalHolds a_restInstances a_pathLiterals : Nat → Int32}
theorem xi_rows {post : Int32 → SX → Prop} {nc nl : Nat} {st : Nat → Nat} (hw : cd_wf nc nl st a_litSign a_litPred a_litArg0 a_litArg1 a_predArity) (hcs : ∀ c, c ≤ nc → a_clauseStart c = nI (st c))
    (hfx : cr_fix a_literalHolds a_pathLength)
    (hab : ∀ p, p < 4 → a_atomBase p = nI (cg_base a_litPred a_predArity (st nc) (cg_oc a_litArg0 a_litArg1 0 (st nc) && cg_oc a_litArg0 a_litArg1 1 (st nc)) p))
    (h5 : cg_base a_litPred a_predArity (st nc) (cg_oc a_litArg0 a_litArg1 0 (st nc) && cg_oc a_litArg0 a_litArg1 1 (st nc)) 4 ≤ 5)
    (h : ∀ (R : Int32) (il ih : Nat → Int32), (∀ q, xs_R R q ↔ cg_RX nc st a_litArg0 a_litArg1 q) → xi_tab nc st a_litSign a_litPred a_litArg0 a_litArg1 a_predArity il ih →
      post R (nI nl, nI nc, f_stepCount, f_bufferSealed, f_lastCheckStep, f_keptCount, f_proofKept, f_openCount, nI (cg_sz (cg_oc a_litArg0 a_litArg1 0 (st nc) && cg_oc a_litArg0 a_litArg1 1 (st nc))), f_neededInstances, f_givenLiterals, a_litSign, a_litPred, a_litArg0, a_litArg1, a_clauseStart, a_predArity, a_stepKind, a_stepA, a_stepB, a_binding, a_keptKind, a_keptA, a_keptB, a_keptInstance, a_openCopy, a_openLit, a_parentCopy, a_parentLit, a_pathLength, a_atomBase, il, ih, a_literalHolds, a_restInstances, a_pathLiterals)) :
    ∀ d q : Nat, q + d = 4 * nc → ∀ (R : Int32) (il ih : Nat → Int32), (∀ q', xs_R R q' ↔ q' < q ∧ cg_RX nc st a_litArg0 a_litArg1 q') →
      (∀ q', q' < q → cg_RX nc st a_litArg0 a_litArg1 q' → xi_row nc st a_litSign a_litPred a_litArg0 a_litArg1 a_predArity il ih q') →
      wX_makeInstances_53 post (nI (cg_con (cg_oc a_litArg0 a_litArg1 0 (st nc)) (cg_oc a_litArg0 a_litArg1 1 (st nc)))) (d + 1) R (nI q) (nI nl) (nI nc) f_stepCount f_bufferSealed f_lastCheckStep f_keptCount f_proofKept f_openCount (nI (cg_sz (cg_oc a_litArg0 a_litArg1 0 (st nc) && cg_oc a_litArg0 a_litArg1 1 (st nc)))) f_neededInstances f_givenLiterals a_litSign a_litPred a_litArg0 a_litArg1 a_clauseStart a_predArity a_stepKind a_stepA a_stepB a_binding a_keptKind a_keptA a_keptB a_keptInstance a_openCopy a_openLit a_parentCopy a_parentLit a_pathLength a_atomBase il ih a_literalHolds a_restInstances a_pathLiterals := by
  have hnc := hw.1
  have e4 : 4 * nI nc = nI (4 * nc) := by rw [show (4 : Int32) = nI 4 from rfl, pk_mul]
  intro d
  induction d with
  | zero =>
    intro q hq R il ih hR hrow
    have eq : q = 4 * nc := by omega
    subst eq
    refine br_t (by rw [e4]; exact nI_le (Nat.le_refl _) (by omega)) (h R il ih (fun q' => ?_) (fun q' hq' => hrow q' hq'.1 hq'))
    rw [hR q']
    exact ⟨fun z => z.2, fun z => ⟨z.1, z⟩⟩
  | succ d IH =>
    intro q hq R il ih hR hrow
    have hq4 : q < 4 * nc := by omega
    have hq32 : q < 32 := by omega
    refine br_f (by rw [e4]; exact nI_ge hq4 (by omega)) ?_
    refine xd_v2 hq32 (xd_v3 hq32 ?_)
    refine ek_if (cg_Utest _ _ (q / 2 % 2) (by omega) (q % 2) (by omega)) (fun z => nm_r (nI_1 q) ?_) (fun z => ?_)
    · refine IH (q + 1) (by omega) R il ih (fun q' => ?_) (fun q' hq' hX => ?_)
      · rw [hR q']
        constructor
        · intro ⟨y1, y2⟩
          exact ⟨by omega, y2⟩
        · intro ⟨y1, y2⟩
          refine ⟨?_, y2⟩
          by_cases e : q' = q
          · subst e
            exact absurd ⟨y2.2.1, y2.2.2⟩ z
          · omega
      · by_cases e : q' = q
        · subst e
          exact absurd ⟨hX.2.1, hX.2.2⟩ z
        · exact hrow q' (by omega) hX
    · have z' := Classical.byContradiction z
      refine xi_make hw hcs hfx hab h5 hq4 (fun il' ih' hil hih hnew => nm_e (nm_r (nI_1 q) ?_))
      refine IH (q + 1) (by omega) _ il' ih' (fun q' => ?_) (fun q' hq' hX => ?_)
      · unfold xs_R
        constructor
        · intro ⟨y1, y2⟩
          rw [b_or, xs_one hq32 y1, Bool.or_eq_true] at y2
          rcases y2 with y2 | y2
          · have := (hR q').mp ⟨y1, y2⟩
            exact ⟨by omega, this.2⟩
          · have e := of_decide_eq_true y2
            subst e
            exact ⟨by omega, hq4, z'.1, z'.2⟩
        · intro ⟨y1, y2⟩
          have hl : q' < 32 := by have := y2.1; omega
          refine ⟨hl, ?_⟩
          rw [b_or, xs_one hq32 hl]
          by_cases e : q' = q
          · rw [decide_eq_true e, Bool.or_true]
          · rw [((hR q').mpr ⟨by omega, y2⟩).2]
            rfl
      · by_cases e : q' = q
        · subst e
          exact hnew
        · obtain ⟨r1, r2⟩ := hrow q' (by omega) hX
          refine ⟨fun i hi => ?_, fun t ht => ?_⟩
          · rw [hil (3 * q' + i) (by omega)]
            exact r1 i hi
          · rw [hih q' (by omega)]
            exact r2 t ht
theorem xi_all {post : Int32 → SX → Prop} {nc nl : Nat} {st : Nat → Nat} (hw : cd_wf nc nl st a_litSign a_litPred a_litArg0 a_litArg1 a_predArity) (hcs : ∀ c, c ≤ nc → a_clauseStart c = nI (st c))
    (hfx : cr_fix a_literalHolds a_pathLength)
    (h5 : cg_base a_litPred a_predArity (st nc) (cg_oc a_litArg0 a_litArg1 0 (st nc) && cg_oc a_litArg0 a_litArg1 1 (st nc)) 4 ≤ 5)
    (h : ∀ (R x1 : Int32) (ab il ih : Nat → Int32), (∀ q, xs_R R q ↔ cg_RX nc st a_litArg0 a_litArg1 q) → xi_tab nc st a_litSign a_litPred a_litArg0 a_litArg1 a_predArity il ih →
      post R (nI nl, nI nc, f_stepCount, f_bufferSealed, f_lastCheckStep, f_keptCount, f_proofKept, f_openCount, x1, f_neededInstances, f_givenLiterals, a_litSign, a_litPred, a_litArg0, a_litArg1, a_clauseStart, a_predArity, a_stepKind, a_stepA, a_stepB, a_binding, a_keptKind, a_keptA, a_keptB, a_keptInstance, a_openCopy, a_openLit, a_parentCopy, a_parentLit, a_pathLength, ab, il, ih, a_literalHolds, a_restInstances, a_pathLiterals)) :
    wpX_makeInstances post (nI nl, nI nc, f_stepCount, f_bufferSealed, f_lastCheckStep, f_keptCount, f_proofKept, f_openCount, f_universeSize, f_neededInstances, f_givenLiterals, a_litSign, a_litPred, a_litArg0, a_litArg1, a_clauseStart, a_predArity, a_stepKind, a_stepA, a_stepB, a_binding, a_keptKind, a_keptA, a_keptB, a_keptInstance, a_openCopy, a_openLit, a_parentCopy, a_parentLit, a_pathLength, a_atomBase, a_instanceLits, a_instanceHolds, a_literalHolds, a_restInstances, a_pathLiterals) := by
  refine xu_univ hw hcs (xu_size ?_)
  have key : ∀ d p : Nat, p + d = 4 → ∀ ab : Nat → Int32, (∀ p', p' < p → ab p' = nI (cg_base a_litPred a_predArity (st nc) (cg_oc a_litArg0 a_litArg1 0 (st nc) && cg_oc a_litArg0 a_litArg1 1 (st nc)) p')) →
      wX_makeInstances_18 post (nI (cg_con (cg_oc a_litArg0 a_litArg1 0 (st nc)) (cg_oc a_litArg0 a_litArg1 1 (st nc)))) (nI nl) (nI nc) f_stepCount f_bufferSealed f_lastCheckStep f_keptCount f_proofKept f_openCount (nI (cg_sz (cg_oc a_litArg0 a_litArg1 0 (st nc) && cg_oc a_litArg0 a_litArg1 1 (st nc)))) f_neededInstances f_givenLiterals (d + 1) (nI (cg_base a_litPred a_predArity (st nc) (cg_oc a_litArg0 a_litArg1 0 (st nc) && cg_oc a_litArg0 a_litArg1 1 (st nc)) p)) (nI p) a_litSign a_litPred a_litArg0 a_litArg1 a_clauseStart a_predArity a_stepKind a_stepA a_stepB a_binding a_keptKind a_keptA a_keptB a_keptInstance a_openCopy a_openLit a_parentCopy a_parentLit a_pathLength ab a_instanceLits a_instanceHolds a_literalHolds a_restInstances a_pathLiterals := by
    intro d
    induction d with
    | zero =>
      intro p hp ab hab
      have : p = 4 := by omega
      subst this
      refine br_t (nI_le (a := 4) (b := 4) (Nat.le_refl _) (by decide)) ⟨4 * nc + 1, ?_⟩
      refine xi_rows hw hcs hfx hab h5 (fun R il ih hR htab => h R _ ab il ih hR htab) (4 * nc) 0 (by omega) 0 _ _ (fun q' => ?_) (fun q' hq' => absurd hq' (Nat.not_lt_zero q'))
      constructor
      · intro z
        have := z.2
        rw [b_0] at this
        exact absurd this (by decide)
      · intro z
        exact absurd z.1 (Nat.not_lt_zero q')
    | succ d ih =>
      intro p hp ab hab
      refine br_f (nI_ge (b := 4) (by omega) (by decide)) ⟨vp_in_nI (by omega) (by decide), ?_⟩
      rw [nI_clamp (show p < 2 ^ 31 by omega)]
      refine nm_e ?_
      refine xu_atoms hw hcs (by omega) (nm_r (nI_add _ _) (nm_r (nI_1 p) (ih (p + 1) (by omega) _ (fun p' hp' => ?_))))
      by_cases e : p' = p
      · subst e
        exact pk_us
      · rw [pk_un e]
        exact hab p' (by omega)
  exact ⟨_, key 4 0 (by omega) a_atomBase (fun p' hp' => absurd hp' (Nat.not_lt_zero p'))⟩
/-! where things hold -/
theorem xs_where {post : Int32 → Prop} {R : Int32} (h : ∀ w : Int32, (∀ t, t < 32 → (bt w t = true ↔ (∀ q, xs_R R q → bt (a_instanceHolds q) t = true) ∧ (∀ m, xs_G f_givenLiterals m → bt (a_literalHolds m) t = true))) → post w) :
    wpX_whereHold post (f_litCount, f_clauseCount, f_stepCount, f_bufferSealed, f_lastCheckStep, f_keptCount, f_proofKept, f_openCount, f_universeSize, f_neededInstances, f_givenLiterals, a_litSign, a_litPred, a_litArg0, a_litArg1, a_clauseStart, a_predArity, a_stepKind, a_stepA, a_stepB, a_binding, a_keptKind, a_keptA, a_keptB, a_keptInstance, a_openCopy, a_openLit, a_parentCopy, a_parentLit, a_pathLength, a_atomBase, a_instanceLits, a_instanceHolds, a_literalHolds, a_restInstances, a_pathLiterals) R := by
  have lits : ∀ d k : Nat, k + d = 10 → ∀ w : Int32, (∀ t, t < 32 → (bt w t = true ↔ (∀ q, xs_R R q → bt (a_instanceHolds q) t = true) ∧ (∀ m, m < k → xs_G f_givenLiterals m → bt (a_literalHolds m) t = true))) →
      wX_whereHold_35 post f_litCount f_clauseCount f_stepCount f_bufferSealed f_lastCheckStep f_keptCount f_proofKept f_openCount f_universeSize f_neededInstances f_givenLiterals a_litSign a_litPred a_litArg0 a_litArg1 a_clauseStart a_predArity a_stepKind a_stepA a_stepB a_binding a_keptKind a_keptA a_keptB a_keptInstance a_openCopy a_openLit a_parentCopy a_parentLit a_pathLength a_atomBase a_instanceLits a_instanceHolds a_literalHolds a_restInstances a_pathLiterals (d + 1) w (nI k) := by
    intro d
    induction d with
    | zero =>
      intro k hk w hw
      have : k = 10 := by omega
      subst this
      refine br_t (nI_le (a := 10) (b := 10) (Nat.le_refl _) (by decide)) (h w (fun t ht => ?_))
      rw [hw t ht]
      constructor
      · intro ⟨y1, y2⟩
        exact ⟨y1, fun m hm => y2 m hm.1 hm⟩
      · intro ⟨y1, y2⟩
        exact ⟨y1, fun m _ hm => y2 m hm⟩
    | succ d ih =>
      intro k hk w hw
      refine br_f (nI_ge (b := 10) (by omega) (by decide)) ?_
      refine ek_if (xs_bit f_givenLiterals (show k < 32 by omega)) (fun z => nm_r (nI_1 k) (ih (k + 1) (by omega) w (fun t ht => ?_))) (fun z => ⟨vp_in_nI (by omega) (by decide), ?_⟩)
      · rw [hw t ht]
        constructor
        · intro ⟨y1, y2⟩
          refine ⟨y1, fun m hm hG => ?_⟩
          by_cases e : m = k
          · subst e
            rw [hG.2] at z
            exact absurd z (by decide)
          · exact y2 m (by omega) hG
        · intro ⟨y1, y2⟩
          exact ⟨y1, fun m hm hG => y2 m (by omega) hG⟩
      · rw [nI_clamp (show k < 2 ^ 31 by omega)]
        have z' : bt f_givenLiterals k = true := by
          cases zz : bt f_givenLiterals k
          · exact absurd zz z
          · rfl
        refine nm_e (nm_r (nI_1 k) (ih (k + 1) (by omega) _ (fun t ht => ?_)))
        rw [b_and, Bool.and_eq_true, hw t ht]
        constructor
        · intro ⟨⟨y1, y2⟩, y3⟩
          refine ⟨y1, fun m hm hG => ?_⟩
          by_cases e : m = k
          · subst e
            exact y3
          · exact y2 m (by omega) hG
        · intro ⟨y1, y2⟩
          exact ⟨⟨y1, fun m hm hG => y2 m (by omega) hG⟩, y2 k (by omega) ⟨by omega, z'⟩⟩
  have rows : ∀ d k : Nat, k + d = 32 → ∀ w : Int32, (∀ t, t < 32 → (bt w t = true ↔ (∀ q, q < k → xs_R R q → bt (a_instanceHolds q) t = true))) → wX_whereHold_4 post R f_litCount f_clauseCount f_stepCount f_bufferSealed f_lastCheckStep f_keptCount f_proofKept f_openCount f_universeSize f_neededInstances f_givenLiterals a_litSign a_litPred a_litArg0 a_litArg1 a_clauseStart a_predArity a_stepKind a_stepA a_stepB a_binding a_keptKind a_keptA a_keptB a_keptInstance a_openCopy a_openLit a_parentCopy a_parentLit a_pathLength a_atomBase a_instanceLits a_instanceHolds a_literalHolds a_restInstances a_pathLiterals (d + 1) w (nI k) := by
    intro d
    induction d with
    | zero =>
      intro k hk w hw
      have : k = 32 := by omega
      subst this
      refine br_t (nI_le (a := 32) (b := 32) (Nat.le_refl _) (by decide)) ⟨11, lits 10 0 (by omega) w (fun t ht => ?_)⟩
      rw [hw t ht]
      constructor
      · intro y
        exact ⟨fun q hq => y q hq.1 hq, fun m hm => absurd hm (Nat.not_lt_zero m)⟩
      · intro ⟨y1, _⟩ q _ hq
        exact y1 q hq
    | succ d ih =>
      intro k hk w hw
      refine br_f (nI_ge (b := 32) (by omega) (by decide)) ?_
      refine ek_if (xs_bit R (show k < 32 by omega)) (fun z => nm_r (nI_1 k) (ih (k + 1) (by omega) w (fun t ht => ?_))) (fun z => ⟨vp_in_nI (by omega) (by decide), ?_⟩)
      · rw [hw t ht]
        constructor
        · intro y q hq hR
          by_cases e : q = k
          · subst e
            rw [hR.2] at z
            exact absurd z (by decide)
          · exact y q (by omega) hR
        · intro y q hq hR
          exact y q (by omega) hR
      · rw [nI_clamp (show k < 2 ^ 31 by omega)]
        have z' : bt R k = true := by
          cases zz : bt R k
          · exact absurd zz z
          · rfl
        refine nm_e (nm_r (nI_1 k) (ih (k + 1) (by omega) _ (fun t ht => ?_)))
        rw [b_and, Bool.and_eq_true, hw t ht]
        constructor
        · intro ⟨y1, y3⟩ q hq hR
          by_cases e : q = k
          · subst e
            exact y3
          · exact y1 q (by omega) hR
        · intro y
          exact ⟨fun q hq hR => y q (by omega) hR, y k (by omega) ⟨by omega, z'⟩⟩
  refine ⟨33, rows 32 0 (by omega) (-1) (fun t ht => ?_)⟩
  rw [b_m1 t ht]
  exact ⟨fun _ q hq => absurd hq (Nat.not_lt_zero q), fun _ => rfl⟩
/-- nowhere: the needed ground clauses and the given literals can't hold together -/
theorem xs_test {post : Int32 → Prop} {nc nl : Nat} {st : Nat → Nat} {sg pr a0 a1 ar ph : Nat → Int32} (hw : cd_wf nc nl st sg pr a0 a1 ar) (hfx : cr_fix a_literalHolds ph)
    (h5 : cg_base pr ar (st nc) (cg_oc a0 a1 0 (st nc) && cg_oc a0 a1 1 (st nc)) 4 ≤ 5) (htab : xi_tab nc st sg pr a0 a1 ar a_instanceLits a_instanceHolds)
    {R : Int32} (hR : ∀ q, xs_R R q → cg_RX nc st a0 a1 q) (h0 : ¬ cm_sat (cg_HX nc st sg pr a0 a1 ar) (xs_R R) (xs_G f_givenLiterals) → post 0)
    (h1 : ∀ w : Int32, ¬ w = 0 → cm_sat (cg_HX nc st sg pr a0 a1 ar) (xs_R R) (xs_G f_givenLiterals) → post w) : wpX_whereHold post (f_litCount, f_clauseCount, f_stepCount, f_bufferSealed, f_lastCheckStep, f_keptCount, f_proofKept, f_openCount, f_universeSize, f_neededInstances, f_givenLiterals, a_litSign, a_litPred, a_litArg0, a_litArg1, a_clauseStart, a_predArity, a_stepKind, a_stepA, a_stepB, a_binding, a_keptKind, a_keptA, a_keptB, a_keptInstance, a_openCopy, a_openLit, a_parentCopy, a_parentLit, a_pathLength, a_atomBase, a_instanceLits, a_instanceHolds, a_literalHolds, a_restInstances, a_pathLiterals) R := by
  refine xs_where (fun w hw' => ?_)
  have iff : (∃ t, t < 32 ∧ bt w t = true) ↔ cm_sat (cg_HX nc st sg pr a0 a1 ar) (xs_R R) (xs_G f_givenLiterals) := by
    constructor
    · intro ⟨t, ht, hb⟩
      obtain ⟨y1, y2⟩ := (hw' t ht).mp hb
      exact ⟨cg_tb t, fun q hq => ((htab q (hR q hq)).2 t ht).mp (y1 q hq), fun m hm => (xs_lh hfx hm.1 ht).mp (y2 m hm)⟩
    · intro ⟨f, y1, y2⟩
      obtain ⟨t, ht, hf⟩ := xs_f5 f
      refine ⟨t, ht, (hw' t ht).mpr ⟨fun q hq => ?_, fun m hm => ?_⟩⟩
      · obtain ⟨m, hm, hT⟩ := y1 q hq
        exact ((htab q (hR q hq)).2 t ht).mpr ⟨m, hm, (xs_tr hf (cg_HX_lt hw h5 (hR q hq).1 hm)).mp hT⟩
      · exact (xs_lh hfx hm.1 ht).mpr ((xs_tr hf hm.1).mp (y2 m hm))
  by_cases e : w = 0
  · subst e
    refine h0 (fun s => ?_)
    obtain ⟨t, _, hb⟩ := iff.mpr s
    rw [b_0] at hb
    exact absurd hb (by decide)
  · refine h1 w e (iff.mp (Classical.byContradiction (fun hn => e (b_ext (fun i hi => ?_)))))
    rw [b_0]
    cases hb : bt w i
    · rfl
    · exact absurd ⟨i, hi, hb⟩ hn
theorem xs_keep {post : SX → Prop} {nc nl : Nat} {st : Nat → Nat} {sg pr a0 a1 ar ph : Nat → Int32} (hw : cd_wf nc nl st sg pr a0 a1 ar) (hfx : cr_fix a_literalHolds ph)
    (h5 : cg_base pr ar (st nc) (cg_oc a0 a1 0 (st nc) && cg_oc a0 a1 1 (st nc)) 4 ≤ 5) (htab : xi_tab nc st sg pr a0 a1 ar a_instanceLits a_instanceHolds)
    {R0 : Int32} (hR0 : ∀ q, xs_R R0 q → cg_RX nc st a0 a1 q) (hu : ¬ cm_sat (cg_HX nc st sg pr a0 a1 ar) (xs_R R0) (xs_G f_givenLiterals))
    (h : ∀ R : Int32, (∀ q, xs_R R q → xs_R R0 q) → ¬ cm_sat (cg_HX nc st sg pr a0 a1 ar) (xs_R R) (xs_G f_givenLiterals) →
      (∀ q, xs_R R q → cm_sat (cg_HX nc st sg pr a0 a1 ar) (cm_del (xs_R R) q) (xs_G f_givenLiterals)) → post (f_litCount, f_clauseCount, f_stepCount, f_bufferSealed, f_lastCheckStep, f_keptCount, f_proofKept, f_openCount, f_universeSize, R, f_givenLiterals, a_litSign, a_litPred, a_litArg0, a_litArg1, a_clauseStart, a_predArity, a_stepKind, a_stepA, a_stepB, a_binding, a_keptKind, a_keptA, a_keptB, a_keptInstance, a_openCopy, a_openLit, a_parentCopy, a_parentLit, a_pathLength, a_atomBase, a_instanceLits, a_instanceHolds, a_literalHolds, a_restInstances, a_pathLiterals)) :
    wpX_keepOnlyNeeded post (f_litCount, f_clauseCount, f_stepCount, f_bufferSealed, f_lastCheckStep, f_keptCount, f_proofKept, f_openCount, f_universeSize, R0, f_givenLiterals, a_litSign, a_litPred, a_litArg0, a_litArg1, a_clauseStart, a_predArity, a_stepKind, a_stepA, a_stepB, a_binding, a_keptKind, a_keptA, a_keptB, a_keptInstance, a_openCopy, a_openLit, a_parentCopy, a_parentLit, a_pathLength, a_atomBase, a_instanceLits, a_instanceHolds, a_literalHolds, a_restInstances, a_pathLiterals) := by
  have key : ∀ d k : Nat, k + d = 32 → ∀ R : Int32, (∀ q, xs_R R q → xs_R R0 q) → ¬ cm_sat (cg_HX nc st sg pr a0 a1 ar) (xs_R R) (xs_G f_givenLiterals) →
      (∀ q, q < k → xs_R R q → cm_sat (cg_HX nc st sg pr a0 a1 ar) (cm_del (xs_R R) q) (xs_G f_givenLiterals)) →
      wX_keepOnlyNeeded_2 post f_litCount f_clauseCount f_stepCount f_bufferSealed f_lastCheckStep f_keptCount f_proofKept f_openCount f_universeSize f_givenLiterals a_litSign a_litPred a_litArg0 a_litArg1 a_clauseStart a_predArity a_stepKind a_stepA a_stepB a_binding a_keptKind a_keptA a_keptB a_keptInstance a_openCopy a_openLit a_parentCopy a_parentLit a_pathLength a_atomBase a_instanceLits a_instanceHolds a_literalHolds a_restInstances a_pathLiterals (d + 1) (nI k) R := by
    intro d
    induction d with
    | zero =>
      intro k hk R y1 y2 y3
      have : k = 32 := by omega
      subst this
      exact br_t (nI_le (a := 32) (b := 32) (Nat.le_refl _) (by decide)) (h R y1 y2 (fun q hq => y3 q hq.1 hq))
    | succ d ih =>
      intro k hk R y1 y2 y3
      have hk32 : k < 32 := by omega
      have hd := xs_R_del (R := R) hk32
      refine br_f (nI_ge (b := 32) hk32 (by decide)) (nm_e ?_)
      refine xs_test hw hfx h5 htab (fun q hq => hR0 q (y1 q ((hd q).mp hq).1)) (fun z => br_t rfl (nm_r (nI_1 k) ?_)) (fun w hw0 z => br_f hw0 (nm_r (nI_1 k) ?_))
      · refine ih (k + 1) (by omega) _ (fun q hq => y1 q ((hd q).mp hq).1) z (fun q hq hR => ?_)
        obtain ⟨r1, r2⟩ := (hd q).mp hR
        have r2' : ¬ q = k := r2
        refine cm_sat_mono (fun q' hq' => ⟨((hd q').mp hq'.1).1, hq'.2⟩) (fun _ hm => hm) (y3 q (by omega) r1)
      · refine ih (k + 1) (by omega) R y1 y2 (fun q hq hR => ?_)
        by_cases e : q = k
        · subst e
          exact cm_sat_mono (fun q' hq' => (hd q').mpr hq') (fun _ hm => hm) z
        · exact y3 q (by omega) hR
  exact ⟨_, key 32 0 (by omega) R0 (fun _ z => z) hu (fun q hq => absurd hq (Nat.not_lt_zero q))⟩
theorem xs_low {post : Int32 → Prop} {q0 : Nat} (hq0 : xs_R f_neededInstances q0) (h : ∀ q, xs_R f_neededInstances q → post (nI q)) : wpX_lowestInstance post (f_litCount, f_clauseCount, f_stepCount, f_bufferSealed, f_lastCheckStep, f_keptCount, f_proofKept, f_openCount, f_universeSize, f_neededInstances, f_givenLiterals, a_litSign, a_litPred, a_litArg0, a_litArg1, a_clauseStart, a_predArity, a_stepKind, a_stepA, a_stepB, a_binding, a_keptKind, a_keptA, a_keptB, a_keptInstance, a_openCopy, a_openLit, a_parentCopy, a_parentLit, a_pathLength, a_atomBase, a_instanceLits, a_instanceHolds, a_literalHolds, a_restInstances, a_pathLiterals) := by
  have key : ∀ k : Nat, k ≤ 32 → ∀ x : Nat, ((∃ q, k ≤ q ∧ xs_R f_neededInstances q) → xs_R f_neededInstances x) → wX_lowestInstance_5 post f_litCount f_clauseCount f_stepCount f_bufferSealed f_lastCheckStep f_keptCount f_proofKept f_openCount f_universeSize f_neededInstances f_givenLiterals a_litSign a_litPred a_litArg0 a_litArg1 a_clauseStart a_predArity a_stepKind a_stepA a_stepB a_binding a_keptKind a_keptA a_keptB a_keptInstance a_openCopy a_openLit a_parentCopy a_parentLit a_pathLength a_atomBase a_instanceLits a_instanceHolds a_literalHolds a_restInstances a_pathLiterals (k + 1) (nI x) (nI k + (-1)) := by
    intro k
    induction k with
    | zero =>
      intro _ x hx
      exact br_t (by decide) (h x (hx ⟨q0, Nat.zero_le _, hq0⟩))
    | succ k ih =>
      intro hk x hx
      rw [pk_m1]
      refine br_f (nI_pos (by omega)) ?_
      refine ek_if (xs_bit f_neededInstances (show k < 32 by omega)) (fun z => nm_e (ih (by omega) x (fun ⟨q, y1, y2⟩ => hx ⟨q, ?_, y2⟩))) (fun z => nm_e (ih (by omega) k (fun _ => ⟨by omega, ?_⟩)))
      · by_cases e : q = k
        · subst e
          rw [y2.2] at z
          exact absurd z (by decide)
        · omega
      · cases zz : bt f_neededInstances k
        · exact absurd zz z
        · rfl
  refine ⟨33, key 32 (Nat.le_refl _) 0 (fun ⟨q, y1, y2⟩ => ?_)⟩
  have := y2.1
  omega
theorem xs_find {post : Int32 → Prop} {m k0 : Nat} (hk0 : k0 < 96) (hn0 : bt f_neededInstances (k0 / 3) = true) (he0 : a_instanceLits k0 = nI m)
    (h : ∀ k, k < 96 → bt f_neededInstances (k / 3) = true → a_instanceLits k = nI m → post (nI k)) : wpX_findNeeded post (f_litCount, f_clauseCount, f_stepCount, f_bufferSealed, f_lastCheckStep, f_keptCount, f_proofKept, f_openCount, f_universeSize, f_neededInstances, f_givenLiterals, a_litSign, a_litPred, a_litArg0, a_litArg1, a_clauseStart, a_predArity, a_stepKind, a_stepA, a_stepB, a_binding, a_keptKind, a_keptA, a_keptB, a_keptInstance, a_openCopy, a_openLit, a_parentCopy, a_parentLit, a_pathLength, a_atomBase, a_instanceLits, a_instanceHolds, a_literalHolds, a_restInstances, a_pathLiterals) (nI m) := by
  have key : ∀ d k : Nat, k + d = 96 → ∀ x : Nat, (k0 < k → x < 96 ∧ bt f_neededInstances (x / 3) = true ∧ a_instanceLits x = nI m) → wX_findNeeded_4 post (nI m) f_litCount f_clauseCount f_stepCount f_bufferSealed f_lastCheckStep f_keptCount f_proofKept f_openCount f_universeSize f_neededInstances f_givenLiterals a_litSign a_litPred a_litArg0 a_litArg1 a_clauseStart a_predArity a_stepKind a_stepA a_stepB a_binding a_keptKind a_keptA a_keptB a_keptInstance a_openCopy a_openLit a_parentCopy a_parentLit a_pathLength a_atomBase a_instanceLits a_instanceHolds a_literalHolds a_restInstances a_pathLiterals (d + 1) (nI x) (nI k) := by
    intro d
    induction d with
    | zero =>
      intro k hk x hx
      obtain ⟨y1, y2, y3⟩ := hx (by omega)
      exact br_t (nI_le (a := 96) (by omega) (by omega)) (h x y1 y2 y3)
    | succ d ih =>
      intro k hk x hx
      have ed : nI k / 3 = nI (k / 3) := by
        rw [show (3 : Int32) = nI 3 from rfl, pk_div (by omega) (by omega) (by omega)]
      refine br_f (nI_ge (b := 96) (by omega) (by decide)) ⟨by decide, ?_⟩
      rw [ed]
      refine ek_if (xs_bit f_neededInstances (show k / 3 < 32 by omega)) (fun z => br_t rfl (nm_r (nI_1 k) (ih (k + 1) (by omega) x (fun hlt => hx ?_)))) (fun z => br_f (by decide) ⟨vp_in_nI (by omega) (by decide), ?_⟩)
      · by_cases e : k0 = k
        · rw [e, z] at hn0
          exact absurd hn0 (by decide)
        · omega
      · rw [nI_clamp (show k < 2 ^ 31 by omega)]
        refine br_c (fun e => nm_r (nI_1 k) (ih (k + 1) (by omega) k (fun _ => ⟨by omega, ?_, e⟩))) (fun e => nm_r (nI_1 k) (ih (k + 1) (by omega) x (fun hlt => hx ?_)))
        · cases zz : bt f_neededInstances (k / 3)
          · exact absurd zz z
          · rfl
        · by_cases e2 : k0 = k
          · rw [e2] at he0
            exact absurd he0 e
          · omega
  exact ⟨_, key 96 0 (by omega) 0 (fun z => absurd z (Nat.not_lt_zero k0))⟩
end
end
section
/-! X's writer: copy j is the ground clause q j -/
def xw_lt (st q : Nat → Nat) (e : Nat × Nat) : Nat := 3 * q e.1 + (e.2 - st (q e.1 / 4))
def xw_in (st q : Nat → Nat) (e : Nat × Nat) : Prop := st (q e.1 / 4) ≤ e.2 ∧ e.2 < st (q e.1 / 4 + 1)
def xw_g (nc : Nat) (st : Nat → Nat) (sg pr a0 a1 ar : Nat → Int32) (q : Nat → Nat) (e : Nat × Nat) : Nat := cg_L sg pr a0 a1 ar (st nc) e.2 (q e.1 / 2 % 2) (q e.1 % 2)
def xw_ch (st q : Nat → Nat) (kK pc pl ph : Nat → Int32) : List (Nat × Nat) → Nat → Prop
  | [], c => ph c = 0
  | e :: p, c => e.1 < c ∧ ¬ kK e.1 = 2 ∧ xw_in st q e ∧ ph c = nI (p.length + 1) ∧ pc c = nI e.1 ∧ pl c = nI (xw_lt st q e) ∧ xw_ch st q kK pc pl ph p e.1
def xw_goal (nc : Nat) (st : Nat → Nat) (sg pr a0 a1 ar : Nat → Int32) (q : Nat → Nat) (kK pc pl ph ri ql : Nat → Int32) (m : Nat) (g : ck_G) : Prop :=
  g.1 < m ∧ ¬ kK g.1 = 2 ∧ xw_in st q (g.1, g.2.1) ∧ xw_ch st q kK pc pl ph g.2.2 g.1 ∧ cm_ok (g.2.2.map (xw_g nc st sg pr a0 a1 ar q)) ∧
  (∀ k, xs_G (ql g.1) k ↔ k ∈ g.2.2.map (xw_g nc st sg pr a0 a1 ar q)) ∧ (∀ r, xs_R (ri g.1) r → cg_RX nc st a0 a1 r) ∧
  cm_goal (cg_HX nc st sg pr a0 a1 ar) (xs_R (ri g.1)) (xs_G (ql g.1)) (xw_g nc st sg pr a0 a1 ar q (g.1, g.2.1))
def xw_stk (nc : Nat) (st : Nat → Nat) (sg pr a0 a1 ar : Nat → Int32) (q : Nat → Nat) (kK pc pl ph ri ql oc ol : Nat → Int32) (m : Nat) : List ck_G → Prop
  | [] => True
  | g :: R => oc R.length = nI g.1 ∧ ol R.length = nI (xw_lt st q (g.1, g.2.1)) ∧ xw_goal nc st sg pr a0 a1 ar q kK pc pl ph ri ql m g ∧ xw_stk nc st sg pr a0 a1 ar q kK pc pl ph ri ql oc ol m R
theorem xw_ch_len {st q : Nat → Nat} {kK pc pl ph : Nat → Int32} : ∀ {p : List (Nat × Nat)} {c : Nat}, xw_ch st q kK pc pl ph p c → ph c = nI p.length ∧ p.length ≤ c
  | [], c, h => ⟨h, Nat.zero_le _⟩
  | e :: p, c, h => by
    have h2 := (xw_ch_len h.2.2.2.2.2.2).2
    have h1 := h.1
    exact ⟨h.2.2.2.1, by rw [List.length_cons]; omega⟩
theorem xw_ch_mem {st q : Nat → Nat} {kK pc pl ph : Nat → Int32} : ∀ {p : List (Nat × Nat)} {c : Nat}, xw_ch st q kK pc pl ph p c → ∀ e, e ∈ p → e.1 < c ∧ ¬ kK e.1 = 2 ∧ xw_in st q e
  | [], _, _, e, he => by cases he
  | x :: p, c, h, e, he => by
    rcases List.mem_cons.mp he with z | z
    · rw [z]
      exact ⟨h.1, h.2.1, h.2.2.1⟩
    · have := xw_ch_mem h.2.2.2.2.2.2 e z
      have h1 := h.1
      exact ⟨by omega, this.2⟩
/-- nothing below m has changed -/
def xw_fr (q q' : Nat → Nat) (kK kK' pc pc' pl pl' ph ph' ri ri' ql ql' : Nat → Int32) (m : Nat) : Prop :=
  ∀ j, j < m → q' j = q j ∧ kK' j = kK j ∧ pc' j = pc j ∧ pl' j = pl j ∧ ph' j = ph j ∧ ri' j = ri j ∧ ql' j = ql j
theorem xw_ch_fr {st q q' : Nat → Nat} {kK kK' pc pc' pl pl' ph ph' ri ri' ql ql' : Nat → Int32} {m : Nat} (hf : xw_fr q q' kK kK' pc pc' pl pl' ph ph' ri ri' ql ql' m) :
    ∀ {p : List (Nat × Nat)} {c : Nat}, c < m → xw_ch st q kK pc pl ph p c → xw_ch st q' kK' pc' pl' ph' p c
  | [], c, hc, h => by
    show ph' c = 0
    rw [(hf c hc).2.2.2.2.1]
    exact h
  | e :: p, c, hc, h => by
    obtain ⟨h1, h2, h3, h4, h5, h6, h7⟩ := h
    obtain ⟨_, _, f3, f4, f5, _⟩ := hf c hc
    obtain ⟨g1, g2, _⟩ := hf e.1 (by omega)
    refine ⟨h1, by rw [g2]; exact h2, ?_, by rw [f5]; exact h4, by rw [f3]; exact h5, ?_, xw_ch_fr hf (by omega) h7⟩
    · unfold xw_in at h3 ⊢
      rw [g1]
      exact h3
    · rw [f4, h6]
      unfold xw_lt
      rw [g1]
theorem xw_map_fr {nc : Nat} {st q q' : Nat → Nat} {sg pr a0 a1 ar : Nat → Int32} {p : List (Nat × Nat)} (h : ∀ e, e ∈ p → q' e.1 = q e.1) : p.map (xw_g nc st sg pr a0 a1 ar q') = p.map (xw_g nc st sg pr a0 a1 ar q) := by
  apply List.map_congr_left
  intro e he
  unfold xw_g
  rw [h e he]
theorem xw_goal_fr {nc : Nat} {st q q' : Nat → Nat} {sg pr a0 a1 ar : Nat → Int32} {kK kK' pc pc' pl pl' ph ph' ri ri' ql ql' : Nat → Int32} {m m' : Nat} (hm : m ≤ m') (hf : xw_fr q q' kK kK' pc pc' pl pl' ph ph' ri ri' ql ql' m) {g : ck_G}
    (h : xw_goal nc st sg pr a0 a1 ar q kK pc pl ph ri ql m g) : xw_goal nc st sg pr a0 a1 ar q' kK' pc' pl' ph' ri' ql' m' g := by
  obtain ⟨h1, h2, h3, h4, h5, h6, h7, h8⟩ := h
  obtain ⟨f1, f2, f3, f4, f5, f6, f7⟩ := hf g.1 h1
  have em := xw_map_fr (nc := nc) (st := st) (sg := sg) (pr := pr) (a0 := a0) (a1 := a1) (ar := ar) (q := q) (q' := q') (p := g.2.2) (fun e he => (hf e.1 (by have := (xw_ch_mem h4 e he).1; omega)).1)
  unfold xw_goal
  rw [f2, f6, f7, em]
  refine ⟨by omega, h2, ?_, xw_ch_fr hf h1 h4, h5, h6, h7, ?_⟩
  · unfold xw_in at h3 ⊢
    try dsimp only at h3 ⊢
    rw [f1]
    exact h3
  · unfold xw_g at h8 ⊢
    try dsimp only at h8 ⊢
    rw [f1]
    exact h8
theorem xw_stk_fr {nc : Nat} {st q q' : Nat → Nat} {sg pr a0 a1 ar : Nat → Int32} {kK kK' pc pc' pl pl' ph ph' ri ri' ql ql' oc oc' ol ol' : Nat → Int32} {m m' : Nat} (hm : m ≤ m') (hf : xw_fr q q' kK kK' pc pc' pl pl' ph ph' ri ri' ql ql' m) :
    ∀ {L : List ck_G}, (∀ j, j < L.length → oc' j = oc j ∧ ol' j = ol j) → xw_stk nc st sg pr a0 a1 ar q kK pc pl ph ri ql oc ol m L → xw_stk nc st sg pr a0 a1 ar q' kK' pc' pl' ph' ri' ql' oc' ol' m' L
  | [], _, _ => trivial
  | g :: R, ho, h => by
    obtain ⟨h1, h2, h3, h4⟩ := h
    obtain ⟨o1, o2⟩ := ho R.length (by rw [List.length_cons]; omega)
    have f1 := (hf g.1 h3.1).1
    refine ⟨by rw [o1]; exact h1, ?_, xw_goal_fr hm hf h3, xw_stk_fr hm hf (fun j hj => ho j (by rw [List.length_cons]; omega)) h4⟩
    rw [o2, h2]
    unfold xw_lt
    try dsimp only
    rw [f1]
theorem xg_ls_shift {sk d : Nat} : ∀ (n j : Nat), xg_ls (sk + d) n (j + d) = (xg_ls sk n j).map (fun l => l + d)
  | 0, _ => rfl
  | n + 1, j => by
    have ih := xg_ls_shift (sk := sk) (d := d) n (j + 1)
    have e : j + 1 + d = j + d + 1 := by omega
    rw [e] at ih
    by_cases z : j = sk
    · rw [xg_ls_t z, xg_ls_t (by omega)]
      exact ih
    · rw [xg_ls_f z, xg_ls_f (by omega), List.map_cons, ih]
theorem xw_stk_app {nc : Nat} {st q : Nat → Nat} {sg pr a0 a1 ar : Nat → Int32} {kK pc pl ph ri ql oc ol : Nat → Int32} {m copy F S : Nat} {p : List (Nat × Nat)} {R : List ck_G}
    (eF : F = 3 * q copy) (eS : S = st (q copy / 4)) (hR : xw_stk nc st sg pr a0 a1 ar q kK pc pl ph ri ql oc ol m R) :
    ∀ {ls : List Nat}, (∀ l, l ∈ ls → xw_goal nc st sg pr a0 a1 ar q kK pc pl ph ri ql m (copy, l + S, p)) → xg_rep oc ol (nI copy) R.length (ls.map (fun l => l + F)) →
      xw_stk nc st sg pr a0 a1 ar q kK pc pl ph ri ql oc ol m ((ls.map (fun l => l + S)).map (fun l => (copy, l, p)) ++ R)
  | [], _, _ => hR
  | l :: ls, hg, hr => by
    have e : ((ls.map (fun l => l + S)).map (fun l => ((copy, l, p) : ck_G)) ++ R).length = R.length + (ls.map (fun l => l + F)).length := by
      rw [List.length_append, List.length_map, List.length_map, List.length_map]; omega
    obtain ⟨r1, r2, r3⟩ := hr
    refine ⟨?_, ?_, hg l List.mem_cons_self, xw_stk_app eF eS hR (fun l' h' => hg l' (List.mem_cons_of_mem l h')) r3⟩
    · show oc ((ls.map (fun l => l + S)).map (fun l => ((copy, l, p) : ck_G)) ++ R).length = nI copy
      rw [e]
      exact r1
    · show ol ((ls.map (fun l => l + S)).map (fun l => ((copy, l, p) : ck_G)) ++ R).length = nI (xw_lt st q (copy, l + S))
      rw [e, r2]
      unfold xw_lt
      try dsimp only
      rw [← eS, eF]
      exact congrArg nI (by omega)
theorem xw_row {nc nl : Nat} {st q : Nat → Nat} {sg pr a0 a1 ar il ih : Nat → Int32} (hw : cd_wf nc nl st sg pr a0 a1 ar) (htab : xi_tab nc st sg pr a0 a1 ar il ih) {e : Nat × Nat} (hX : cg_RX nc st a0 a1 (q e.1)) (hin : xw_in st q e) :
    il (xw_lt st q e) = nI (xw_g nc st sg pr a0 a1 ar q e) ∧ xw_lt st q e < 96 ∧ cg_HX nc st sg pr a0 a1 ar (q e.1) (xw_g nc st sg pr a0 a1 ar q e) ∧ e.2 < st nc := by
  have hnc := hw.1
  obtain ⟨i1, i2⟩ := hin
  have hq := hX.1
  obtain ⟨b1, b2, b3⟩ := cd_en_bd hw (show q e.1 / 4 ≤ nc by omega)
  rw [cd_en_lt (by omega)] at b1 b2 b3
  have hst := cd_mono' hw (c := q e.1 / 4 + 1) (d := nc) (by omega) (Nat.le_refl _)
  have r := (htab _ hX).1 (e.2 - st (q e.1 / 4)) (by omega)
  have e1 : st (q e.1 / 4) + (e.2 - st (q e.1 / 4)) = e.2 := by omega
  rw [e1, if_pos i2] at r
  refine ⟨r, ?_, ⟨e.2, i1, i2, rfl⟩, by omega⟩
  unfold xw_lt
  omega
theorem xw_neg : ∀ K, K < 10 → nI K ^^^ 1 = nI (cm_neg K) := by decide
theorem cm_neg_lt {K : Nat} (h : K < 10) : cm_neg K < 10 := by
  unfold cm_neg; split <;> omega
section
variable {f_litCount f_clauseCount f_stepCount f_bufferSealed f_lastCheckStep f_keptCount f_proofKept f_openCount f_universeSize f_neededInstances f_givenLiterals : Int32} {a_litSign a_litPred a_litArg0 a_litArg1 a_clauseStart a_predArity a_stepKind a_stepA a_stepB a_binding a_keptKind a_keptA a_keptB a_keptInstance a_openCopy a_openLit a_parentCopy a_parentLit a_pathLength a_atomBase a_instanceLits a_instanceHolds a_literalHolds a_restInstances a_pathLiterals : Nat → Int32}
theorem xw_find {post : Int32 → Prop} {nc nl : Nat} {st q : Nat → Nat} {sg pr a0 a1 ar kK : Nat → Int32} (hw : cd_wf nc nl st sg pr a0 a1 ar) (htab : xi_tab nc st sg pr a0 a1 ar a_instanceLits a_instanceHolds)
    (h5 : cg_base pr ar (st nc) (cg_oc a0 a1 0 (st nc) && cg_oc a0 a1 1 (st nc)) 4 ≤ 5) {m : Nat} (hm : m < 10) :
    ∀ (p : List (Nat × Nat)) (c : Nat), xw_ch st q kK a_parentCopy a_parentLit a_pathLength p c → c < 256 → (∀ e, e ∈ p → cg_RX nc st a0 a1 (q e.1)) →
      (∀ n, n < p.length → xw_g nc st sg pr a0 a1 ar q (p.getD n (0, 0)) = m → post (nI (p.length - 1 - n))) → ((∀ e, e ∈ p → ¬ xw_g nc st sg pr a0 a1 ar q e = m) → post (-1)) →
      wX_findOnPath_16 post (nI m) f_litCount f_clauseCount f_stepCount f_bufferSealed f_lastCheckStep f_keptCount f_proofKept f_openCount f_universeSize f_neededInstances f_givenLiterals a_litSign a_litPred a_litArg0 a_litArg1 a_clauseStart a_predArity a_stepKind a_stepA a_stepB a_binding a_keptKind a_keptA a_keptB a_keptInstance a_openCopy a_openLit a_parentCopy a_parentLit a_pathLength a_atomBase a_instanceLits a_instanceHolds a_literalHolds a_restInstances a_pathLiterals (p.length + 1) (nI c) (nI p.length + (-1))
  | [], c, _, _, _, _, h0 => br_t (by decide) (h0 (fun e he => by cases he))
  | e :: p, c, hch, hc, hX, h1, h0 => by
    obtain ⟨c1, c2, c3, c4, c5, c6, c7⟩ := hch
    have hlen := (xw_ch_len c7).2
    obtain ⟨r1, r2, r3, _⟩ := xw_row hw htab (hX e List.mem_cons_self) c3
    have hlt := cg_HX_lt hw h5 (hX e List.mem_cons_self).1 r3
    have hin : vp_in (nI c) 256 := vp_in_nI hc (by decide)
    rw [List.length_cons, pk_m1]
    refine br_f (nI_pos (by omega)) ⟨hin, ?_⟩
    rw [nI_clamp (show c < 2 ^ 31 by omega), c5, c6, nI_clamp (show xw_lt st q e < 2 ^ 31 by omega), r1]
    refine ⟨vp_in_nI r2 (by decide), pk_eq (xw_g nc st sg pr a0 a1 ar q e) m (fun z => ?_) (fun z => ⟨hin, nm_e (nm_e ?_)⟩)⟩
    · have := h1 0 (by rw [List.length_cons]; omega) z
      rw [List.length_cons] at this
      exact this
    · refine xw_find hw htab h5 hm p e.1 c7 (by omega) (fun e' he' => hX e' (List.mem_cons_of_mem e he')) (fun n hn z2 => ?_) (fun hall => h0 (fun e' he' => ?_))
      · have := h1 (n + 1) (by rw [List.length_cons]; omega) (by rw [List.getD_cons_succ]; exact z2)
        rw [List.length_cons] at this
        have e2 : p.length + 1 - 1 - (n + 1) = p.length - 1 - n := by omega
        rw [e2] at this
        exact this
      · rcases List.mem_cons.mp he' with y | y
        · rw [y]
          exact z
        · exact hall e' y
theorem xw_copy {post : SX → Prop} {i inst : Nat} {x1 x3 : Int32} (hi : i < 256) (hq : inst < 32)
    (h : post (f_litCount, f_clauseCount, f_stepCount, f_bufferSealed, f_lastCheckStep, f_keptCount, f_proofKept, f_openCount, f_universeSize, f_neededInstances, f_givenLiterals, a_litSign, a_litPred, a_litArg0, a_litArg1, a_clauseStart, a_predArity, a_stepKind, a_stepA, a_stepB, a_binding, upd a_keptKind i x1, upd a_keptA i (nI (inst / 4)), upd a_keptB i x3, upd a_keptInstance i (nI inst), a_openCopy, a_openLit, a_parentCopy, a_parentLit, a_pathLength, a_atomBase, a_instanceLits, a_instanceHolds, a_literalHolds, upd a_restInstances i (f_neededInstances &&& (((1 : Int32) <<< (nI inst &&& 31)) ^^^ (-1))), upd a_pathLiterals i f_givenLiterals)) :
    wpX_keepCopy post (f_litCount, f_clauseCount, f_stepCount, f_bufferSealed, f_lastCheckStep, f_keptCount, f_proofKept, f_openCount, f_universeSize, f_neededInstances, f_givenLiterals, a_litSign, a_litPred, a_litArg0, a_litArg1, a_clauseStart, a_predArity, a_stepKind, a_stepA, a_stepB, a_binding, a_keptKind, a_keptA, a_keptB, a_keptInstance, a_openCopy, a_openLit, a_parentCopy, a_parentLit, a_pathLength, a_atomBase, a_instanceLits, a_instanceHolds, a_literalHolds, a_restInstances, a_pathLiterals) (nI i) x1 (nI inst) x3 := by
  have hin : vp_in (nI i) 256 := vp_in_nI hi (by decide)
  have ed : nI inst / 4 = nI (inst / 4) := by
    rw [show (4 : Int32) = nI 4 from rfl, pk_div (by omega) (by omega) (by omega)]
  refine ⟨hin, ?_⟩
  rw [nI_clamp (show i < 2 ^ 31 by omega), ed]
  exact nm_e ⟨by decide, hin, nm_e ⟨hin, nm_e ⟨hin, nm_e ⟨hin, nm_e ⟨hin, nm_e h⟩⟩⟩⟩⟩
end
end
section
/-- the writer's state before step m, with the goals L -/
def xw_inv (nc : Nat) (st : Nat → Nat) (sg pr a0 a1 ar : Nat → Int32) (m : Nat) (L : List ck_G) (q : Nat → Nat) (kK kA kB kI oc ol pc pl ph ri ql : Nat → Int32) : Prop :=
  1 ≤ m ∧ m + ck_pot L ≤ 190 ∧ ph 0 = 0 ∧ kK 0 = 0 ∧ kA 0 = nI (q 0 / 4) ∧ (∀ j, j < m → ¬ kK j = 2 → kI j = nI (q j) ∧ cg_RX nc st a0 a1 (q j)) ∧
  xw_stk nc st sg pr a0 a1 ar q kK pc pl ph ri ql oc ol m L ∧
  ck_rch nc st (cd_mk (st nc) sg) (cd_mk (st nc) pr) (cd_mk (st nc) a0) (cd_mk (st nc) a1) kK kA kB (fun j => q j / 2 % 2) (fun j => q j % 2) (ck_gl 0 16 [] (st (q 0 / 4 + 1) - st (q 0 / 4)) (st (q 0 / 4))) m L
theorem xw_pot_len {nc : Nat} {st q : Nat → Nat} {sg pr a0 a1 ar : Nat → Int32} {kK pc pl ph ri ql oc ol : Nat → Int32} {m : Nat} : ∀ {L : List ck_G}, xw_stk nc st sg pr a0 a1 ar q kK pc pl ph ri ql oc ol m L → L.length ≤ ck_pot L
  | [], _ => Nat.le_refl 0
  | g :: R, h => by
    have h1 := xw_pot_len h.2.2.2
    have ho := h.2.2.1.2.2.2.2.1
    have l5 := cm_cnt_le (g.2.2.map (xw_g nc st sg pr a0 a1 ar q))
    rw [cm_cnt_ok ho, List.length_map] at l5
    have h2 := cm_w_pos l5
    show (g :: R).length ≤ cm_w g.2.2.length + ck_pot R
    rw [List.length_cons]
    omega
theorem xw_gmem : ∀ (p : List (Nat × Nat)) (n : Nat), n < p.length → p.getD n (0, 0) ∈ p
  | [], n, h => absurd h (Nat.not_lt_zero n)
  | e :: p, 0, _ => by
    show e ∈ e :: p
    exact List.mem_cons_self
  | e :: p, n + 1, h => by
    rw [List.getD_cons_succ]
    exact List.mem_cons_of_mem e (xw_gmem p n (by rw [List.length_cons] at h; omega))
/-- a goal on top that is reduced -/
theorem xw_red_inv {nc nl : Nat} {st : Nat → Nat} {sg pr a0 a1 ar : Nat → Int32} (hw : cd_wf nc nl st sg pr a0 a1 ar) {m c l n : Nat} {p : List (Nat × Nat)} {R : List ck_G} {q : Nat → Nat} {kK kA kB kI oc ol pc pl ph ri ql : Nat → Int32}
    (hI : xw_inv nc st sg pr a0 a1 ar m ((c, l, p) :: R) q kK kA kB kI oc ol pc pl ph ri ql) (hn : n < p.length) (hg : xw_g nc st sg pr a0 a1 ar q (p.getD n (0, 0)) = cm_neg (xw_g nc st sg pr a0 a1 ar q (c, l))) {x : Int32} :
    xw_inv nc st sg pr a0 a1 ar (m + 1) R q (upd kK m 2) (upd kA m (nI (p.length - 1 - n))) (upd kB m x) kI oc ol pc pl ph ri ql := by
  obtain ⟨h1, h2, h3, h4, h5, h6, ⟨s1, s2, s3, s4⟩, h8⟩ := hI
  obtain ⟨g1, g2, g3, g4, g5, g6, g7, g8⟩ := s3
  try dsimp only at g1 g2 g3 g4 g5 g6 g7 g8
  have l5 := cm_cnt_le (p.map (xw_g nc st sg pr a0 a1 ar q))
  rw [cm_cnt_ok g5, List.length_map] at l5
  have wp := cm_w_pos l5
  have hpot : ck_pot ((c, l, p) :: R) = cm_w p.length + ck_pot R := rfl
  have hmem : p.getD n (0, 0) ∈ p := xw_gmem p n hn
  obtain ⟨e1, e2, e3⟩ := xw_ch_mem g4 _ hmem
  have hcX := (h6 c g1 g2).2
  have heX := (h6 _ (by omega) e2).2
  have kk : ∀ j, j < m → upd kK m 2 j = kK j := fun j hj => pk_un (by omega)
  have agr : ck_agr kK kA kB (fun j => q j / 2 % 2) (fun j => q j % 2) (upd kK m 2) (upd kA m (nI (p.length - 1 - n))) (upd kB m x) (fun j => q j / 2 % 2) (fun j => q j % 2) m := by
    intro j hj
    rw [pk_un (by omega), pk_un (by omega), pk_un (by omega)]
    exact ⟨rfl, rfl, rfl, fun _ => ⟨rfl, rfl⟩⟩
  refine ⟨by omega, by omega, h3, ?_, ?_, fun j hj hK => ?_, ?_, ?_⟩
  · rw [kk 0 (by omega)]
    exact h4
  · rw [pk_un (by omega)]
    exact h5
  · by_cases e : j = m
    · subst e
      rw [pk_us] at hK
      exact absurd rfl hK
    · rw [kk j (by omega)] at hK
      exact h6 j (by omega) hK
  · refine xw_stk_fr (by omega) (fun j hj => ⟨rfl, kk j hj, rfl, rfl, rfl, rfl, rfl⟩) (fun _ _ => ⟨rfl, rfl⟩) s4
  · refine ck_rch_red h8 h1 agr (e := p.length - 1 - n) (c2 := (p.getD n (0, 0)).1) (l2 := (p.getD n (0, 0)).2) pk_us pk_us (by omega) (by omega) ?_ g1 g2 (by omega) e2 (fun j hj hK => ⟨by omega, by omega⟩) ?_
    · have ee : p.length - 1 - (p.length - 1 - n) = n := by omega
      rw [ee]
    · have l1 := (show l < st nc by
        have := cd_mono' hw (c := q c / 4 + 1) (d := nc) (by have := hcX.1; omega) (Nat.le_refl _)
        have := g3.2
        try dsimp only at this
        omega)
      have l2 := (show (p.getD n (0, 0)).2 < st nc by
        have := cd_mono' hw (c := q (p.getD n (0, 0)).1 / 4 + 1) (d := nc) (by have := heX.1; omega) (Nat.le_refl _)
        have := e3.2
        omega)
      refine cg_conn hw l1 l2 hcX.2.1 hcX.2.2 heX.2.1 heX.2.2 ?_
      show xw_g nc st sg pr a0 a1 ar q (c, l) = cm_neg (xw_g nc st sg pr a0 a1 ar q (p.getD n (0, 0)))
      rw [hg, cm_neg_neg]
/-- a goal on top that is extended by the ground clause k / 3 -/
theorem xw_ext_inv {nc nl : Nat} {st : Nat → Nat} {sg pr a0 a1 ar il ih : Nat → Int32} (hw : cd_wf nc nl st sg pr a0 a1 ar) (htab : xi_tab nc st sg pr a0 a1 ar il ih)
    (h5 : cg_base pr ar (st nc) (cg_oc a0 a1 0 (st nc) && cg_oc a0 a1 1 (st nc)) 4 ≤ 5) {m c l k : Nat} {p : List (Nat × Nat)} {R : List ck_G} {q : Nat → Nat} {kK kA kB kI oc ol pc pl ph ri ql : Nat → Int32} {N G : Int32}
    (hI : xw_inv nc st sg pr a0 a1 ar m ((c, l, p) :: R) q kK kA kB kI oc ol pc pl ph ri ql) (hno : ∀ e, e ∈ p → ¬ xw_g nc st sg pr a0 a1 ar q e = cm_neg (xw_g nc st sg pr a0 a1 ar q (c, l)))
    (eG : G = ql c ||| ((1 : Int32) <<< (nI (xw_g nc st sg pr a0 a1 ar q (c, l)) &&& 31))) (hsub : ∀ r, xs_R N r → xs_R (ri c) r) (hun : ¬ cm_sat (cg_HX nc st sg pr a0 a1 ar) (xs_R N) (xs_G G))
    (hmin : ∀ r, xs_R N r → cm_sat (cg_HX nc st sg pr a0 a1 ar) (cm_del (xs_R N) r) (xs_G G)) (hk : k < 96) (hkN : bt N (k / 3) = true) (hkl : il k = nI (cm_neg (xw_g nc st sg pr a0 a1 ar q (c, l)))) :
    (k / 3 < 4 * nc ∧ st (k / 3 / 4) + k % 3 < st (k / 3 / 4 + 1)) ∧
    ∀ oc' ol' : Nat → Int32, (∀ j, j < R.length → oc' j = oc j ∧ ol' j = ol j) → xg_rep oc' ol' (nI m) R.length (xg_ls k (st (k / 3 / 4 + 1) - st (k / 3 / 4)) (3 * (k / 3))) →
      xw_inv nc st sg pr a0 a1 ar (m + 1) (ck_gl m (st (k / 3 / 4) + k % 3) ((c, l) :: p) (st (k / 3 / 4 + 1) - st (k / 3 / 4)) (st (k / 3 / 4)) ++ R) (cd_put q m (k / 3))
        (upd kK m 1) (upd kA m (nI (k / 3 / 4))) (upd kB m (nI (k % 3))) (upd kI m (nI (k / 3))) oc' ol' (upd pc m (nI c)) (upd pl m (nI (xw_lt st q (c, l)))) (upd ph m (nI (p.length + 1)))
        (upd ri m (N &&& (((1 : Int32) <<< (nI (k / 3) &&& 31)) ^^^ (-1)))) (upd ql m G) := by
  obtain ⟨h1, h2, h3, h4, h5', h6, ⟨s1, s2, s3, s4⟩, h8⟩ := hI
  obtain ⟨g1, g2, g3, g4, g5, g6, g7, g8⟩ := s3
  try dsimp only at g1 g2 g3 g4 g5 g6 g7 g8
  have hnc := hw.1
  have hcX := (h6 c g1 g2).2
  obtain ⟨r1, r2, r3, r4⟩ := xw_row (e := (c, l)) hw htab hcX g3
  try dsimp only at r3 r4
  have hK10 := cg_HX_lt hw h5 hcX.1 r3
  generalize hKK : xw_g nc st sg pr a0 a1 ar q (c, l) = K at *
  have hn10 := cm_neg_lt hK10
  have hRi : xs_R N (k / 3) := ⟨by omega, hkN⟩
  have hiX := g7 _ (hsub _ hRi)
  have hi4 := hiX.1
  obtain ⟨b1, b2, b3⟩ := cd_en_bd hw (show k / 3 / 4 ≤ nc by omega)
  rw [cd_en_lt (by omega)] at b1 b2 b3
  have hst := cd_mono' hw (c := k / 3 / 4 + 1) (d := nc) (by omega) (Nat.le_refl _)
  have row := (htab _ hiX).1 (k % 3) (by omega)
  have ek : 3 * (k / 3) + k % 3 = k := by omega
  rw [ek, hkl] at row
  have hlt : st (k / 3 / 4) + k % 3 < st (k / 3 / 4 + 1) := by
    apply Classical.byContradiction
    intro z
    rw [if_neg z] at row
    have := congrArg Int32.toInt row
    rw [nI_toInt (by omega), show (-1 : Int32).toInt = -1 from by decide] at this
    omega
  rw [if_pos hlt] at row
  have hpl := cg_HX_lt (m := cg_L sg pr a0 a1 ar (st nc) (st (k / 3 / 4) + k % 3) (k / 3 / 2 % 2) (k / 3 % 2)) hw h5 hi4 ⟨_, by omega, hlt, rfl⟩
  rw [nI_eq (by omega) (by omega)] at row
  have hKm : K ∉ p.map (xw_g nc st sg pr a0 a1 ar q) := fun z => cm_goal_new g8 ((g6 K).mpr z)
  have hKn : cm_neg K ∉ p.map (xw_g nc st sg pr a0 a1 ar q) := by
    intro z
    obtain ⟨e, he, ee⟩ := List.mem_map.mp z
    exact hno e he ee
  obtain ⟨len4, ok2⟩ := cm_len4 g5 (by omega) hKm hKn
  rw [List.length_map] at len4
  refine ⟨⟨hi4, hlt⟩, fun oc' ol' hag hrep => ?_⟩
  have qlt : ∀ j, j < m → cd_put q m (k / 3) j = q j := fun j hj => cd_put_n (by omega)
  have kk : ∀ j, j < m → upd kK m 1 j = kK j := fun j hj => pk_un (by omega)
  have fr : xw_fr q (cd_put q m (k / 3)) kK (upd kK m 1) pc (upd pc m (nI c)) pl (upd pl m (nI (xw_lt st q (c, l)))) ph (upd ph m (nI (p.length + 1))) ri (upd ri m (N &&& (((1 : Int32) <<< (nI (k / 3) &&& 31)) ^^^ (-1)))) ql (upd ql m G) m := by
    intro j hj
    rw [pk_un (by omega), pk_un (by omega), pk_un (by omega), pk_un (by omega), pk_un (by omega), pk_un (by omega)]
    exact ⟨qlt j hj, rfl, rfl, rfl, rfl, rfl, rfl⟩
  have agr : ck_agr kK kA kB (fun j => q j / 2 % 2) (fun j => q j % 2) (upd kK m 1) (upd kA m (nI (k / 3 / 4))) (upd kB m (nI (k % 3))) (fun j => cd_put q m (k / 3) j / 2 % 2) (fun j => cd_put q m (k / 3) j % 2) m := by
    intro j hj
    rw [pk_un (by omega), pk_un (by omega), pk_un (by omega)]
    refine ⟨rfl, rfl, rfl, fun _ => ?_⟩
    try dsimp only
    rw [qlt j hj]
    exact ⟨rfl, rfl⟩
  have q0 : cd_put q m (k / 3) 0 = q 0 := qlt 0 (by omega)
  have hX' : ∀ j, j < m + 1 → ¬ upd kK m 1 j = 2 → upd kI m (nI (k / 3)) j = nI (cd_put q m (k / 3) j) ∧ cg_RX nc st a0 a1 (cd_put q m (k / 3) j) := by
    intro j hj hK
    by_cases e : j = m
    · subst e
      rw [pk_us, cd_put_s]
      exact ⟨rfl, hiX⟩
    · rw [kk j (by omega)] at hK
      rw [pk_un e, cd_put_n e]
      exact h6 j (by omega) hK
  -- the goals of the new copy
  have em : ((c, l) :: p).map (xw_g nc st sg pr a0 a1 ar (cd_put q m (k / 3))) = K :: p.map (xw_g nc st sg pr a0 a1 ar q) := by
    rw [xw_map_fr (q := q) (fun e he => ?_), List.map_cons, hKK]
    rcases List.mem_cons.mp he with z | z
    · rw [z]
      exact qlt c g1
    · exact qlt e.1 (by have := (xw_ch_mem g4 e z).1; omega)
  have hGm : ∀ x, xs_G G x ↔ x ∈ K :: p.map (xw_g nc st sg pr a0 a1 ar q) := by
    intro x
    rw [eG, xs_G_add hK10 x, List.mem_cons]
    unfold cm_add
    rw [g6 x]
    exact Or.comm
  have newg : ∀ i', i' < st (k / 3 / 4 + 1) - st (k / 3 / 4) → xw_goal nc st sg pr a0 a1 ar (cd_put q m (k / 3)) (upd kK m 1) (upd pc m (nI c)) (upd pl m (nI (xw_lt st q (c, l)))) (upd ph m (nI (p.length + 1))) (upd ri m (N &&& (((1 : Int32) <<< (nI (k / 3) &&& 31)) ^^^ (-1)))) (upd ql m G) (m + 1) (m, i' + st (k / 3 / 4), (c, l) :: p) := by
    intro i' hi'
    unfold xw_goal
    try dsimp only
    rw [em, pk_us, pk_us, pk_us]
    refine ⟨by omega, by decide, ?_, ?_, ok2, hGm, fun r hr => g7 r (hsub r ((xs_R_del (by omega) r).mp hr).1), ?_⟩
    · unfold xw_in
      try dsimp only
      rw [cd_put_s]
      exact ⟨by omega, by omega⟩
    · refine ⟨g1, by rw [kk c g1]; exact g2, ?_, pk_us, pk_us, ?_, xw_ch_fr fr g1 g4⟩
      · unfold xw_in at g3 ⊢
        try dsimp only at g3 ⊢
        rw [qlt c g1]
        exact g3
      · rw [pk_us]
        unfold xw_lt
        try dsimp only
        rw [qlt c g1]
    · refine cm_goal_congr (fun r => (xs_R_del (by omega) r).symm) (fun _ => Iff.rfl) (cm_goal_next hun (hmin _ hRi) ⟨i' + st (k / 3 / 4), by omega, by omega, ?_⟩)
      unfold xw_g
      try dsimp only
      rw [cd_put_s]
  have ls0 : xg_ls (st (k / 3 / 4) + k % 3) (st (k / 3 / 4 + 1) - st (k / 3 / 4)) (st (k / 3 / 4)) = (xg_ls (k % 3) (st (k / 3 / 4 + 1) - st (k / 3 / 4)) 0).map (fun l => l + st (k / 3 / 4)) := by
    have := xg_ls_shift (sk := k % 3) (d := st (k / 3 / 4)) (st (k / 3 / 4 + 1) - st (k / 3 / 4)) 0
    rw [Nat.zero_add, Nat.add_comm (k % 3)] at this
    exact this
  have ls1 : xg_ls k (st (k / 3 / 4 + 1) - st (k / 3 / 4)) (3 * (k / 3)) = (xg_ls (k % 3) (st (k / 3 / 4 + 1) - st (k / 3 / 4)) 0).map (fun l => l + 3 * (k / 3)) := by
    have := xg_ls_shift (sk := k % 3) (d := 3 * (k / 3)) (st (k / 3 / 4 + 1) - st (k / 3 / 4)) 0
    rw [Nat.zero_add, Nat.add_comm (k % 3), ek] at this
    exact this
  have glen : (ck_gl m (st (k / 3 / 4) + k % 3) ((c, l) :: p) (st (k / 3 / 4 + 1) - st (k / 3 / 4)) (st (k / 3 / 4))).length ≤ 2 := by
    have := ck_gl_len' (copy := m) (sk := st (k / 3 / 4) + k % 3) (p := (c, l) :: p) (st (k / 3 / 4 + 1) - st (k / 3 / 4)) (st (k / 3 / 4)) (by omega) (by omega)
    omega
  have hpot : ck_pot ((c, l, p) :: R) = cm_w p.length + ck_pot R := rfl
  have hw1 := cm_w_succ len4
  refine ⟨by omega, ?_, ?_, ?_, ?_, hX', ?_, ?_⟩
  · rw [ck_pot_app, ck_pot_gl, List.length_cons]
    have : (ck_gl m (st (k / 3 / 4) + k % 3) ((c, l) :: p) (st (k / 3 / 4 + 1) - st (k / 3 / 4)) (st (k / 3 / 4))).length * cm_w (p.length + 1) ≤ 2 * cm_w (p.length + 1) := Nat.mul_le_mul_right _ glen
    omega
  · rw [pk_un (by omega)]
    exact h3
  · rw [kk 0 (by omega)]
    exact h4
  · rw [pk_un (by omega), q0]
    exact h5'
  · rw [xg_gl, ls0]
    rw [ls1] at hrep
    refine xw_stk_app (by rw [cd_put_s]) (by rw [cd_put_s]) (xw_stk_fr (by omega) fr hag s4) (fun i' hi' => ?_) hrep
    have := xg_ls_mem hi'
    exact newg i' (by omega)
  · rw [q0]
    refine ck_rch_ext h8 h1 agr (a := k / 3 / 4) (bb := k % 3) pk_us pk_us pk_us hnc (by omega) (by omega) (by omega) g1 g2 (fun j hj hK => ⟨by omega, by omega⟩) ?_
    have hcX' := hX' c (by omega) (by rw [kk c g1]; exact g2)
    have hmX' := hX' m (by omega) (by rw [pk_us]; decide)
    refine cg_conn hw r4 (show st (k / 3 / 4) + k % 3 < st nc by omega) hcX'.2.2.1 hcX'.2.2.2 hmX'.2.2.1 hmX'.2.2.2 ?_
    show xw_g nc st sg pr a0 a1 ar (cd_put q m (k / 3)) (c, l) = cm_neg (xw_g nc st sg pr a0 a1 ar (cd_put q m (k / 3)) (m, st (k / 3 / 4) + k % 3))
    have x1 : xw_g nc st sg pr a0 a1 ar (cd_put q m (k / 3)) (c, l) = K := by
      rw [← hKK]
      unfold xw_g
      try dsimp only
      rw [qlt c g1]
    have x2 : xw_g nc st sg pr a0 a1 ar (cd_put q m (k / 3)) (m, st (k / 3 / 4) + k % 3) = cm_neg K := by
      unfold xw_g
      try dsimp only
      rw [cd_put_s]
      exact row.symm
    rw [x1, x2, cm_neg_neg]
end
section
section
variable {f_litCount f_clauseCount f_stepCount f_bufferSealed f_lastCheckStep f_keptCount f_proofKept f_openCount f_universeSize f_neededInstances f_givenLiterals : Int32} {a_litSign a_litPred a_litArg0 a_litArg1 a_clauseStart a_predArity a_stepKind a_stepA a_stepB a_binding a_keptKind a_keptA a_keptB a_keptInstance a_openCopy a_openLit a_parentCopy a_parentLit a_pathLength a_atomBase a_instanceLits a_instanceHolds a_literalHolds a_restInstances a_pathLiterals : Nat → Int32}
theorem xw_loop {post : SX → Prop} {nc nl : Nat} {st : Nat → Nat} (hw : cd_wf nc nl st a_litSign a_litPred a_litArg0 a_litArg1 a_predArity) (hcs : ∀ c, c ≤ nc → a_clauseStart c = nI (st c))
    (hfx : ∀ ph : Nat → Int32, ph 0 = 0 → cr_fix a_literalHolds ph)
    (h5 : cg_base a_litPred a_predArity (st nc) (cg_oc a_litArg0 a_litArg1 0 (st nc) && cg_oc a_litArg0 a_litArg1 1 (st nc)) 4 ≤ 5)
    (htab : xi_tab nc st a_litSign a_litPred a_litArg0 a_litArg1 a_predArity a_instanceLits a_instanceHolds)
    (h : ∀ (n : Nat) (x0 x2 x3 : Int32) (kK kA kB kI oc ol pc pl ph ri ql : Nat → Int32), ph 0 = 0 → cr_kx nc st a_litSign a_litPred a_litArg0 a_litArg1 n kK kA kB kI →
      post (nI nl, nI nc, f_stepCount, f_bufferSealed, f_lastCheckStep, nI n, f_proofKept, x0, f_universeSize, x2, x3, a_litSign, a_litPred, a_litArg0, a_litArg1, a_clauseStart, a_predArity, a_stepKind, a_stepA, a_stepB, a_binding, kK, kA, kB, kI, oc, ol, pc, pl, ph, a_atomBase, a_instanceLits, a_instanceHolds, a_literalHolds, ri, ql)) :
    ∀ (r m : Nat) (L : List ck_G) (q : Nat → Nat) (x0 x2 x3 : Int32) (kK kA kB kI oc ol pc pl ph ri ql : Nat → Int32), ck_pot L ≤ r → x0 = nI L.length →
      xw_inv nc st a_litSign a_litPred a_litArg0 a_litArg1 a_predArity m L q kK kA kB kI oc ol pc pl ph ri ql →
      wX_writeProof_35 post (r + 1) (nI m) (nI nl) (nI nc) f_stepCount f_bufferSealed f_lastCheckStep f_keptCount f_proofKept x0 f_universeSize x2 x3 a_litSign a_litPred a_litArg0 a_litArg1 a_clauseStart a_predArity a_stepKind a_stepA a_stepB a_binding kK kA kB kI oc ol pc pl ph a_atomBase a_instanceLits a_instanceHolds a_literalHolds ri ql := by
  have hnc := hw.1
  intro r
  induction r with
  | zero =>
    intro m L q x0 x2 x3 kK kA kB kI oc ol pc pl ph ri ql hr ex hI
    have hlen := xw_pot_len hI.2.2.2.2.2.2.1
    have hL : L = [] := List.eq_nil_of_length_eq_zero (by omega)
    subst hL ex
    obtain ⟨h1, h2, h3, h4, h6, h7, h8, h9⟩ := hI
    have fin := h m (nI 0) x2 x3 kK kA kB kI oc ol pc pl ph ri ql h3 ⟨q, by omega, fun j hj hK => ⟨by have := (h7 j hj hK).2.1; omega, (h7 j hj hK).1⟩, ck_rch_end h1 h4 h6 hnc (by have := (h7 0 (by omega) (by rw [h4]; decide)).2.1; omega) h9⟩
    exact br_f (nI_ge (b := 256) (by omega) (by decide)) (br_t (by decide) fin)
  | succ r IH =>
    intro m L q x0 x2 x3 kK kA kB kI oc ol pc pl ph ri ql hr ex hI
    subst ex
    have hlen := xw_pot_len hI.2.2.2.2.2.2.1
    have hm2 := hI.2.1
    refine br_f (nI_ge (b := 256) (by omega) (by decide)) ?_
    match L, hI, hr, hlen, hm2 with
    | [], hI, _, _, _ =>
      obtain ⟨h1, h2, h3, h4, h6, h7, h8, h9⟩ := hI
      have fin := h m (nI 0) x2 x3 kK kA kB kI oc ol pc pl ph ri ql h3 ⟨q, by omega, fun j hj hK => ⟨by have := (h7 j hj hK).2.1; omega, (h7 j hj hK).1⟩, ck_rch_end h1 h4 h6 hnc (by have := (h7 0 (by omega) (by rw [h4]; decide)).2.1; omega) h9⟩
      exact br_t (by decide) fin
    | (c, l, p) :: R, hI, hr, hlen, hm2 =>
      obtain ⟨h1, h2, h3, h4, h6, h7, ⟨s1, s2, s3, s4⟩, h9⟩ := id hI
      obtain ⟨g1, g2, g3, g4, g5, g6, g7, g8⟩ := s3
      try dsimp only at g1 g2 g3 g4 g5 g6 g7 g8 s1 s2
      rw [List.length_cons] at hlen
      have hpot : ck_pot ((c, l, p) :: R) = cm_w p.length + ck_pot R := rfl
      have l5 := cm_cnt_le (p.map (xw_g nc st a_litSign a_litPred a_litArg0 a_litArg1 a_predArity q))
      rw [cm_cnt_ok g5, List.length_map] at l5
      have wp := cm_w_pos l5
      have hcX := (h7 c g1 g2).2
      obtain ⟨r1, r2, r3, r4⟩ := xw_row (e := (c, l)) hw htab hcX g3
      have hK10 := cg_HX_lt hw h5 hcX.1 r3
      have hinR : vp_in (nI R.length) 258 := vp_in_nI (by omega) (by decide)
      refine br_f (nI_nle (by rw [List.length_cons]; omega) (by rw [List.length_cons]; omega)) ?_
      refine nm_r (by rw [List.length_cons]; exact nI_pred R.length) ⟨hinR, hinR, ?_⟩
      rw [nI_clamp (show R.length < 2 ^ 31 by omega), s1, s2, nI_clamp (show xw_lt st q (c, l) < 2 ^ 31 by omega), r1, xw_neg _ hK10]
      refine ⟨vp_in_nI r2 (by decide), vp_in_nI (show c < 256 by omega) (by decide), ?_⟩
      rw [nI_clamp (show c < 2 ^ 31 by omega), (xw_ch_len g4).1]
      refine nm_e (nm_r (Int32.sub_eq_add_neg _ _) ⟨_, xw_find hw htab h5 (cm_neg_lt hK10) p c g4 (by omega) (fun e he => ?_) (fun n hn hg => ?_) (fun hno => ?_)⟩)
      · obtain ⟨e1, e2, _⟩ := xw_ch_mem g4 e he
        exact (h7 e.1 (by omega) e2).2
      · -- a reduction
        have hne : ¬ nI (p.length - 1 - n) = -1 := by
          intro z
          have := congrArg Int32.toInt z
          rw [nI_toInt (by omega), show (-1 : Int32).toInt = -1 from by decide] at this
          omega
        have hinm : vp_in (nI m) 256 := vp_in_nI (by omega) (by decide)
        refine br_f hne ⟨hinm, ?_⟩
        rw [nI_clamp (show m < 2 ^ 31 by omega)]
        refine nm_e ⟨hinm, nm_e ⟨hinm, nm_e (nm_r (nI_1 m) ?_)⟩⟩
        exact IH (m + 1) R q _ _ _ _ _ _ _ _ _ _ _ _ _ _ (by omega) rfl (xw_red_inv hw hI hn hg)
      · -- an extension
        refine br_t rfl ⟨hinR, hinR, ?_⟩
        refine ⟨vp_in_nI r2 (by decide), ?_⟩
        rw [nI_clamp (show xw_lt st q (c, l) < 2 ^ 31 by omega), r1, nI_clamp (show c < 2 ^ 31 by omega)]
        have hinc : vp_in (nI c) 256 := vp_in_nI (by omega) (by decide)
        refine nm_e ⟨hinc, nm_e ⟨hinc, nm_e ?_⟩⟩
        have hGa := xs_G_add (G := ql c) hK10
        refine xs_keep hw (hfx ph h3) h5 htab g7 (fun z => g8.2 (cm_sat_mono (fun _ y => y) (fun k y => (hGa k).mpr y) z)) (fun N hsub hun hmin => ?_)
        have hun2 : ¬ cm_sat (cg_HX nc st a_litSign a_litPred a_litArg0 a_litArg1 a_predArity) (xs_R N) (cm_add (xs_G (ql c)) (xw_g nc st a_litSign a_litPred a_litArg0 a_litArg1 a_predArity q (c, l))) :=
          fun z => hun (cm_sat_mono (fun _ y => y) (fun k y => (hGa k).mp y) z)
        have hnot : ¬ xs_G (ql c) (cm_neg (xw_g nc st a_litSign a_litPred a_litArg0 a_litArg1 a_predArity q (c, l))) := by
          intro z
          obtain ⟨e, he, ee⟩ := List.mem_map.mp ((g6 _).mp z)
          exact hno e he ee
        obtain ⟨i0, hi0, j0, j1, j2, j3⟩ := cm_partner g8.1 hun2 hsub hnot
        have hX0 := g7 _ (hsub _ hi0)
        have hX04 := hX0.1
        obtain ⟨b1, b2, b3⟩ := cd_en_bd hw (show i0 / 4 ≤ nc by omega)
        rw [cd_en_lt (by omega)] at b1 b2 b3
        have k0d : (3 * i0 + (j0 - st (i0 / 4))) / 3 = i0 := by omega
        have hil0 : a_instanceLits (3 * i0 + (j0 - st (i0 / 4))) = nI (cm_neg (xw_g nc st a_litSign a_litPred a_litArg0 a_litArg1 a_predArity q (c, l))) := by
          have row := (htab _ hX0).1 (j0 - st (i0 / 4)) (by omega)
          have ej : st (i0 / 4) + (j0 - st (i0 / 4)) = j0 := by omega
          rw [ej, if_pos j2, ← j3] at row
          exact row
        rw [xw_neg _ hK10]
        refine xs_find (k0 := 3 * i0 + (j0 - st (i0 / 4))) (by omega) (by rw [k0d]; exact hi0.2) hil0 (fun k hk hkN hkl => ?_)
        obtain ⟨⟨x4, xlt⟩, hinv⟩ := xw_ext_inv hw htab h5 hI hno rfl hsub hun hmin hk hkN hkl
        have e3 : nI k / 3 = nI (k / 3) := by
          rw [show (3 : Int32) = nI 3 from rfl, pk_div (by omega) (by omega) (by omega)]
        have e33 : 3 * nI (k / 3) = nI (3 * (k / 3)) := by
          rw [show (3 : Int32) = nI 3 from rfl, pk_mul]
        have esub : nI k - nI (3 * (k / 3)) = nI (k % 3) := by
          rw [pk_sub (by omega)]
          exact congrArg nI (by omega)
        refine ⟨by decide, nm_r e3 (nm_r e33 ?_)⟩
        rw [esub]
        refine xw_copy (show m < 256 by omega) (by omega) ?_
        refine xj_par (show m < 256 by omega) (show c < 256 by omega) (xw_ch_len g4).1 ?_
        refine ⟨by decide, ?_⟩
        have e34 : nI (k / 3) / 4 = nI (k / 3 / 4) := by
          rw [show (4 : Int32) = nI 4 from rfl, pk_div (by omega) (by omega) (by omega)]
        rw [e34]
        refine xl_len hw hcs (by omega) ?_
        rw [cd_en_lt (show k / 3 / 4 < nc by omega)]
        obtain ⟨d1, d2, d3⟩ := cd_en_bd hw (show k / 3 / 4 ≤ nc by omega)
        rw [cd_en_lt (by omega)] at d1 d2 d3
        have lsl : (xg_ls k (st (k / 3 / 4 + 1) - st (k / 3 / 4)) (3 * (k / 3))).length ≤ 3 := by
          have := ck_gl_len (copy := 0) (sk := k) (p := []) (st (k / 3 / 4 + 1) - st (k / 3 / 4)) (3 * (k / 3))
          rw [xg_gl, List.length_map] at this
          omega
        refine xg_open (sk := k) (fun j hj1 hj2 => nI_eq (by omega) (by omega)) (by omega) (by omega) (fun oc' ol' hag hrep => nm_r (nI_1 m) ?_)
        refine IH (m + 1) _ _ _ _ _ _ _ _ _ _ _ _ _ _ _ _ ?_ ?_ (hinv oc' ol' hag hrep)
        · have := (hinv oc' ol' hag hrep).2.1
          rw [ck_pot_app, ck_pot_gl, List.length_cons]
          have glen : (ck_gl m (st (k / 3 / 4) + k % 3) ((c, l) :: p) (st (k / 3 / 4 + 1) - st (k / 3 / 4)) (st (k / 3 / 4))).length ≤ 2 := by
            have := ck_gl_len' (copy := m) (sk := st (k / 3 / 4) + k % 3) (p := (c, l) :: p) (st (k / 3 / 4 + 1) - st (k / 3 / 4)) (st (k / 3 / 4)) (by omega) (by omega)
            omega
          have hKm : xw_g nc st a_litSign a_litPred a_litArg0 a_litArg1 a_predArity q (c, l) ∉ p.map (xw_g nc st a_litSign a_litPred a_litArg0 a_litArg1 a_predArity q) := fun z => cm_goal_new g8 ((g6 _).mpr z)
          have hKn : cm_neg (xw_g nc st a_litSign a_litPred a_litArg0 a_litArg1 a_predArity q (c, l)) ∉ p.map (xw_g nc st a_litSign a_litPred a_litArg0 a_litArg1 a_predArity q) := fun z => hnot ((g6 _).mpr z)
          have l4 := (cm_len4 g5 (by omega) hKm hKn).1
          rw [List.length_map] at l4
          have hw1 := cm_w_succ l4
          have : (ck_gl m (st (k / 3 / 4) + k % 3) ((c, l) :: p) (st (k / 3 / 4 + 1) - st (k / 3 / 4)) (st (k / 3 / 4))).length * cm_w (p.length + 1) ≤ 2 * cm_w (p.length + 1) := Nat.mul_le_mul_right _ glen
          omega
        · rw [List.length_append, xg_gl, List.length_map]
          have z1 := xg_ls_shift (sk := k % 3) (d := st (k / 3 / 4)) (st (k / 3 / 4 + 1) - st (k / 3 / 4)) 0
          have z2 := xg_ls_shift (sk := k % 3) (d := 3 * (k / 3)) (st (k / 3 / 4 + 1) - st (k / 3 / 4)) 0
          rw [Nat.zero_add, Nat.add_comm (k % 3)] at z1 z2
          have ek : 3 * (k / 3) + k % 3 = k := by omega
          rw [ek] at z2
          rw [z1, z2, List.length_map, List.length_map, Nat.add_comm]
theorem xw_write {post : SX → Prop} {nc nl : Nat} {st : Nat → Nat} (hw : cd_wf nc nl st a_litSign a_litPred a_litArg0 a_litArg1 a_predArity) (hcs : ∀ c, c ≤ nc → a_clauseStart c = nI (st c))
    (hfx : cr_fix a_literalHolds a_pathLength)
    (h5 : cg_base a_litPred a_predArity (st nc) (cg_oc a_litArg0 a_litArg1 0 (st nc) && cg_oc a_litArg0 a_litArg1 1 (st nc)) 4 ≤ 5)
    (htab : xi_tab nc st a_litSign a_litPred a_litArg0 a_litArg1 a_predArity a_instanceLits a_instanceHolds)
    {N : Int32} (hN : ∀ r, xs_R N r → cg_RX nc st a_litArg0 a_litArg1 r) (hu : ¬ cm_sat (cg_HX nc st a_litSign a_litPred a_litArg0 a_litArg1 a_predArity) (xs_R N) (xs_G 0))
    (h : ∀ (n : Nat) (x0 x2 x3 : Int32) (kK kA kB kI oc ol pc pl ph ri ql : Nat → Int32), ph 0 = 0 → cr_kx nc st a_litSign a_litPred a_litArg0 a_litArg1 n kK kA kB kI →
      post (nI nl, nI nc, f_stepCount, f_bufferSealed, f_lastCheckStep, nI n, f_proofKept, x0, f_universeSize, x2, x3, a_litSign, a_litPred, a_litArg0, a_litArg1, a_clauseStart, a_predArity, a_stepKind, a_stepA, a_stepB, a_binding, kK, kA, kB, kI, oc, ol, pc, pl, ph, a_atomBase, a_instanceLits, a_instanceHolds, a_literalHolds, ri, ql)) :
    wpX_writeProof post (nI nl, nI nc, f_stepCount, f_bufferSealed, f_lastCheckStep, f_keptCount, f_proofKept, f_openCount, f_universeSize, N, 0, a_litSign, a_litPred, a_litArg0, a_litArg1, a_clauseStart, a_predArity, a_stepKind, a_stepA, a_stepB, a_binding, a_keptKind, a_keptA, a_keptB, a_keptInstance, a_openCopy, a_openLit, a_parentCopy, a_parentLit, a_pathLength, a_atomBase, a_instanceLits, a_instanceHolds, a_literalHolds, a_restInstances, a_pathLiterals) := by
  have hnc := hw.1
  refine xs_keep hw hfx h5 htab hN hu (fun R hsub hun hmin => ?_)
  have hex : ∃ r, xs_R R r := by
    apply Classical.byContradiction
    intro hno
    exact hun ⟨fun _ => true, fun r hr => absurd ⟨r, hr⟩ hno, fun m hm => absurd hm (xs_G_0 m)⟩
  obtain ⟨r0, hr0⟩ := hex
  refine xs_low hr0 (fun i hi => ?_)
  have hiX := hN _ (hsub _ hi)
  have hi4 := hiX.1
  obtain ⟨b1, b2, b3⟩ := cd_en_bd hw (show i / 4 ≤ nc by omega)
  rw [cd_en_lt (by omega)] at b1 b2 b3
  refine xw_copy (i := 0) (by omega) hi.1 ?_
  have e4 : nI i / 4 = nI (i / 4) := by
    rw [show (4 : Int32) = nI 4 from rfl, pk_div (by omega) (by omega) (by omega)]
  refine ⟨by decide, ?_⟩
  rw [e4]
  refine xl_len hw hcs (by omega) ?_
  rw [cd_en_lt (show i / 4 < nc by omega)]
  have e3 : 3 * nI i = nI (3 * i) := by
    rw [show (3 : Int32) = nI 3 from rfl, pk_mul]
  rw [e3]
  have lsl : (xg_ls 1000 (st (i / 4 + 1) - st (i / 4)) (3 * i)).length ≤ 3 := by
    have := ck_gl_len (copy := 0) (sk := 1000) (p := []) (st (i / 4 + 1) - st (i / 4)) (3 * i)
    rw [xg_gl, List.length_map] at this
    omega
  refine xg_open (base := 0) (sk := 1000) (fun j hj1 hj2 => ?_) (by omega) (by omega) (fun oc ol hag hrep => ?_)
  · constructor
    · intro z
      have := congrArg Int32.toInt z
      rw [nI_toInt (by omega), show (-1 : Int32).toInt = -1 from by decide] at this
      omega
    · intro z
      omega
  · have noskip : ∀ (sk n j : Nat), j + n ≤ sk → ∀ d, xg_ls (sk + d) n (j + d) = (xg_ls sk n j).map (fun l => l + d) := fun sk n j _ d => xg_ls_shift n j
    -- the literals 0 .. len - 1, none left out
    have free : ∀ (n j sk sk' : Nat), j + n ≤ sk → j + n ≤ sk' → xg_ls sk n j = xg_ls sk' n j := by
      intro n
      induction n with
      | zero => intro j sk sk' _ _; rfl
      | succ n ih =>
        intro j sk sk' h1 h2
        rw [xg_ls_f (by omega), xg_ls_f (by omega), ih (j + 1) sk sk' (by omega) (by omega)]
    have hst := cd_mono' hw (c := i / 4 + 1) (d := nc) (by omega) (Nat.le_refl _)
    have hnl := hw.2.1
    have hM := hw.2.2.2.2.1
    have ls0 : xg_ls 16 (st (i / 4 + 1) - st (i / 4)) (st (i / 4)) = (xg_ls 1000 (st (i / 4 + 1) - st (i / 4)) 0).map (fun l => l + st (i / 4)) := by
      have := xg_ls_shift (sk := 1000) (d := st (i / 4)) (st (i / 4 + 1) - st (i / 4)) 0
      rw [Nat.zero_add] at this
      rw [← this]
      exact free _ _ _ _ (by omega) (by omega)
    have ls1 : xg_ls 1000 (st (i / 4 + 1) - st (i / 4)) (3 * i) = (xg_ls 1000 (st (i / 4 + 1) - st (i / 4)) 0).map (fun l => l + 3 * i) := by
      have := xg_ls_shift (sk := 1000) (d := 3 * i) (st (i / 4 + 1) - st (i / 4)) 0
      rw [Nat.zero_add] at this
      rw [← this]
      exact free _ _ _ _ (by omega) (by omega)
    rw [ls1] at hrep lsl ⊢
    rw [List.length_map] at lsl ⊢
    refine ⟨191, ?_⟩
    have inv : xw_inv nc st a_litSign a_litPred a_litArg0 a_litArg1 a_predArity 1 (ck_gl 0 16 [] (st (i / 4 + 1) - st (i / 4)) (st (i / 4))) (fun _ => i)
        (upd a_keptKind 0 0) (upd a_keptA 0 (nI (i / 4))) (upd a_keptB 0 0) (upd a_keptInstance 0 (nI i)) oc ol a_parentCopy a_parentLit a_pathLength
        (upd a_restInstances 0 (R &&& (((1 : Int32) <<< (nI i &&& 31)) ^^^ (-1)))) (upd a_pathLiterals 0 0) := by
      refine ⟨by omega, ?_, hfx.2, pk_us, pk_us, fun j hj hK => ?_, ?_, ck_rch_1⟩
      · rw [ck_pot_gl, xg_gl, List.length_map, ls0, List.length_map]
        have e63 : cm_w ([] : List (Nat × Nat)).length = 63 := by decide
        rw [e63]
        omega
      · have : j = 0 := by omega
        subst this
        exact ⟨pk_us, hiX⟩
      · rw [xg_gl, ls0, ← List.append_nil (((xg_ls 1000 (st (i / 4 + 1) - st (i / 4)) 0).map (fun l => l + st (i / 4))).map (fun l => ((0, l, []) : ck_G)))]
        refine xw_stk_app (R := []) rfl rfl trivial (fun l' hl' => ?_) hrep
        have hl2 := xg_ls_mem hl'
        unfold xw_goal
        try dsimp only
        rw [pk_us, pk_us, pk_us]
        refine ⟨by omega, by decide, ⟨by dsimp only; omega, by dsimp only; omega⟩, hfx.2, trivial, fun k => ?_, fun r hr => hN r (hsub r ((xs_R_del hi.1 r).mp hr).1), ?_⟩
        · constructor
          · intro z
            exact absurd z (xs_G_0 k)
          · intro z
            cases z
        · exact cm_goal_congr (fun r => (xs_R_del hi.1 r).symm) (fun _ => Iff.rfl) (cm_goal_next hun (hmin _ hi) ⟨l' + st (i / 4), by omega, by omega, rfl⟩)
    refine xw_loop hw hcs (fun ph hph => ⟨hfx.1, hph⟩) h5 htab h 190 1 _ _ _ _ _ _ _ _ _ _ _ _ _ _ _ _ ?_ ?_ inv
    · have := inv.2.1
      omega
    · rw [xg_gl, List.length_map, ls0, List.length_map, Nat.zero_add]
theorem xw_prove {post : Int32 → SX → Prop} {nc nl : Nat} {st : Nat → Nat} (hw : cd_wf nc nl st a_litSign a_litPred a_litArg0 a_litArg1 a_predArity) (hcs : ∀ c, c ≤ nc → a_clauseStart c = nI (st c))
    (hfx : cr_fix a_literalHolds a_pathLength)
    (hbig : ¬ cg_base a_litPred a_predArity (st nc) (cg_oc a_litArg0 a_litArg1 0 (st nc) && cg_oc a_litArg0 a_litArg1 1 (st nc)) 4 ≤ 5 → post (-4) (nI nl, nI nc, f_stepCount, f_bufferSealed, f_lastCheckStep, f_keptCount, f_proofKept, f_openCount, f_universeSize, f_neededInstances, f_givenLiterals, a_litSign, a_litPred, a_litArg0, a_litArg1, a_clauseStart, a_predArity, a_stepKind, a_stepA, a_stepB, a_binding, a_keptKind, a_keptA, a_keptB, a_keptInstance, a_openCopy, a_openLit, a_parentCopy, a_parentLit, a_pathLength, a_atomBase, a_instanceLits, a_instanceHolds, a_literalHolds, a_restInstances, a_pathLiterals))
    (hno : cg_base a_litPred a_predArity (st nc) (cg_oc a_litArg0 a_litArg1 0 (st nc) && cg_oc a_litArg0 a_litArg1 1 (st nc)) 4 ≤ 5 →
      cm_sat (cg_HX nc st a_litSign a_litPred a_litArg0 a_litArg1 a_predArity) (cg_RX nc st a_litArg0 a_litArg1) (fun _ => False) → ∀ (x1 x2 x3 : Int32) (ab il ih : Nat → Int32),
      post 2 (nI nl, nI nc, f_stepCount, f_bufferSealed, f_lastCheckStep, f_keptCount, 0, f_openCount, x1, x2, x3, a_litSign, a_litPred, a_litArg0, a_litArg1, a_clauseStart, a_predArity, a_stepKind, a_stepA, a_stepB, a_binding, a_keptKind, a_keptA, a_keptB, a_keptInstance, a_openCopy, a_openLit, a_parentCopy, a_parentLit, a_pathLength, ab, il, ih, a_literalHolds, a_restInstances, a_pathLiterals))
    (hyes : cg_base a_litPred a_predArity (st nc) (cg_oc a_litArg0 a_litArg1 0 (st nc) && cg_oc a_litArg0 a_litArg1 1 (st nc)) 4 ≤ 5 →
      ¬ cm_sat (cg_HX nc st a_litSign a_litPred a_litArg0 a_litArg1 a_predArity) (cg_RX nc st a_litArg0 a_litArg1) (fun _ => False) → ∀ (n : Nat) (x0 x1 x2 x3 : Int32) (kK kA kB kI oc ol pc pl ph ab il ih ri ql : Nat → Int32), ph 0 = 0 → cr_kx nc st a_litSign a_litPred a_litArg0 a_litArg1 n kK kA kB kI →
      post 1 (nI nl, nI nc, f_stepCount, f_bufferSealed, f_lastCheckStep, nI n, 1, x0, x1, x2, x3, a_litSign, a_litPred, a_litArg0, a_litArg1, a_clauseStart, a_predArity, a_stepKind, a_stepA, a_stepB, a_binding, kK, kA, kB, kI, oc, ol, pc, pl, ph, ab, il, ih, a_literalHolds, ri, ql)) :
    wpX_prove post (nI nl, nI nc, f_stepCount, f_bufferSealed, f_lastCheckStep, f_keptCount, f_proofKept, f_openCount, f_universeSize, f_neededInstances, f_givenLiterals, a_litSign, a_litPred, a_litArg0, a_litArg1, a_clauseStart, a_predArity, a_stepKind, a_stepA, a_stepB, a_binding, a_keptKind, a_keptA, a_keptB, a_keptInstance, a_openCopy, a_openLit, a_parentCopy, a_parentLit, a_pathLength, a_atomBase, a_instanceLits, a_instanceHolds, a_literalHolds, a_restInstances, a_pathLiterals) := by
  refine xu_count hw hcs ?_
  have b16 : cg_base a_litPred a_predArity (st nc) (cg_oc a_litArg0 a_litArg1 0 (st nc) && cg_oc a_litArg0 a_litArg1 1 (st nc)) 4 < 2 ^ 31 := cg_base_16 hw
  refine pk_le _ 5 (fun h5 => ?_) (fun h5 => hbig (by omega)) rfl rfl b16 (by omega)
  refine xi_all hw hcs hfx h5 (fun R x1 ab il ih hR htab => ?_)
  have conv : cm_sat (cg_HX nc st a_litSign a_litPred a_litArg0 a_litArg1 a_predArity) (xs_R R) (xs_G 0) ↔ cm_sat (cg_HX nc st a_litSign a_litPred a_litArg0 a_litArg1 a_predArity) (cg_RX nc st a_litArg0 a_litArg1) (fun _ => False) :=
    ⟨cm_sat_mono (fun r hr => (hR r).mpr hr) (fun _ z => z.elim), cm_sat_mono (fun r hr => (hR r).mp hr) (fun m z => absurd z (xs_G_0 m))⟩
  refine xs_test hw hfx h5 htab (fun r hr => (hR r).mp hr) (fun z => br_t rfl ?_) (fun w hw0 z => br_f hw0 ?_)
  · refine ⟨rfl, rfl, br_f (by decide) ?_⟩
    exact xw_write hw hcs hfx h5 htab (fun r hr => (hR r).mp hr) z (fun n x0 x2 x3 kK kA kB kI oc ol pc pl ph ri ql hp hk => hyes h5 (fun y => z (conv.mpr y)) n x0 x1 x2 x3 kK kA kB kI oc ol pc pl ph ab il ih ri ql hp hk)
  · exact ⟨rfl, rfl, br_t rfl (hno h5 (conv.mp z) x1 R 0 ab il ih)⟩
end
end
section
/-! Y's ground literals -/
def cg_uc (o0 o1 : Bool) (i : Nat) : Nat := if (o0 && o1) = true then i else if o1 = true then 1 else 0
theorem cg_uc_U (o0 o1 : Bool) {i : Nat} (hi : i < 2) : cg_U o0 o1 (cg_uc o0 o1 i) := by
  have : i = 0 ∨ i = 1 := by omega
  rcases this with e | e <;> subst e <;> cases o0 <;> cases o1 <;> simp [cg_U, cg_uc]
/-- the literal j in Y's ground clause q -/
def cg_YL (nc : Nat) (st : Nat → Nat) (sg pr a0 a1 ar : Nat → Int32) (j q : Nat) : Nat :=
  cg_L sg pr a0 a1 ar (st nc) j (cg_uc (cg_oc a0 a1 0 (st nc)) (cg_oc a0 a1 1 (st nc)) (q % 4 % 2)) (cg_uc (cg_oc a0 a1 0 (st nc)) (cg_oc a0 a1 1 (st nc)) (q % 4 / 2))
def cg_HY (nc : Nat) (st : Nat → Nat) (sg pr a0 a1 ar : Nat → Int32) (q m : Nat) : Prop := ∃ j, st (q / 4) ≤ j ∧ j < st (q / 4 + 1) ∧ m = cg_YL nc st sg pr a0 a1 ar j q
theorem cg_XY {nc : Nat} {st : Nat → Nat} {sg pr a0 a1 ar : Nat → Int32} : cm_sat (cg_HX nc st sg pr a0 a1 ar) (cg_RX nc st a0 a1) (fun _ => False) ↔ cm_sat (cg_HY nc st sg pr a0 a1 ar) (fun q => q < 4 * nc) (fun _ => False) := by
  constructor
  · intro ⟨f, h1, _⟩
    refine ⟨f, fun q hq => ?_, fun _ z => z.elim⟩
    have ux := cg_uc_U (cg_oc a0 a1 0 (st nc)) (cg_oc a0 a1 1 (st nc)) (i := q % 4 % 2) (by omega)
    have uy := cg_uc_U (cg_oc a0 a1 0 (st nc)) (cg_oc a0 a1 1 (st nc)) (i := q % 4 / 2) (by omega)
    unfold cg_HY cg_YL
    generalize cg_uc (cg_oc a0 a1 0 (st nc)) (cg_oc a0 a1 1 (st nc)) (q % 4 % 2) = x at ux ⊢
    generalize cg_uc (cg_oc a0 a1 0 (st nc)) (cg_oc a0 a1 1 (st nc)) (q % 4 / 2) = y at uy ⊢
    have bx := cg_U_lt ux
    have bY := cg_U_lt uy
    have e1 : (4 * (q / 4) + 2 * x + y) / 4 = q / 4 := by omega
    have e2 : (4 * (q / 4) + 2 * x + y) / 2 % 2 = x := by omega
    have e3 : (4 * (q / 4) + 2 * x + y) % 2 = y := by omega
    obtain ⟨m, ⟨j, j1, j2, j3⟩, t⟩ := h1 (4 * (q / 4) + 2 * x + y) ⟨by omega, by unfold cg_UU; rw [e2]; exact ux, by unfold cg_UU; rw [e3]; exact uy⟩
    rw [e1] at j1 j2
    rw [e2, e3] at j3
    exact ⟨m, ⟨j, j1, j2, j3⟩, t⟩
  · intro ⟨f, h1, _⟩
    refine ⟨f, fun q hq => ?_, fun _ z => z.elim⟩
    obtain ⟨hq4, ux, uy⟩ := hq
    unfold cg_UU at ux uy
    have hk : ∃ k, k < 4 ∧ cg_uc (cg_oc a0 a1 0 (st nc)) (cg_oc a0 a1 1 (st nc)) (k % 2) = q / 2 % 2 ∧ cg_uc (cg_oc a0 a1 0 (st nc)) (cg_oc a0 a1 1 (st nc)) (k / 2) = q % 2 := by
      by_cases t : (cg_oc a0 a1 0 (st nc) && cg_oc a0 a1 1 (st nc)) = true
      · refine ⟨q / 2 % 2 + 2 * (q % 2), by omega, ?_, ?_⟩
        · unfold cg_uc
          rw [if_pos t]
          omega
        · unfold cg_uc
          rw [if_pos t]
          omega
      · refine ⟨0, by omega, ?_, ?_⟩
        · exact cg_U_one (cg_uc_U _ _ (by omega)) ux t
        · exact cg_U_one (cg_uc_U _ _ (by omega)) uy t
    obtain ⟨k, hk4, k1, k2⟩ := hk
    have e1 : (4 * (q / 4) + k) / 4 = q / 4 := by omega
    have e2 : (4 * (q / 4) + k) % 4 = k := by omega
    obtain ⟨m, ⟨j, j1, j2, j3⟩, t⟩ := h1 (4 * (q / 4) + k) (by show 4 * (q / 4) + k < 4 * nc; omega)
    unfold cg_YL at j3
    rw [e1] at j1 j2
    rw [e2, k1, k2] at j3
    exact ⟨m, ⟨j, j1, j2, j3⟩, t⟩
theorem cg_YL_lt {nc nl : Nat} {st : Nat → Nat} {sg pr a0 a1 ar : Nat → Int32} (hw : cd_wf nc nl st sg pr a0 a1 ar) {j q : Nat} (hj : j < st nc) :
    cg_YL nc st sg pr a0 a1 ar j q < 2 * cg_base pr ar (st nc) (cg_oc a0 a1 0 (st nc) && cg_oc a0 a1 1 (st nc)) 4 :=
  cg_gl_lt hw hj (cg_U_lt (cg_uc_U _ _ (by omega))) (cg_U_lt (cg_uc_U _ _ (by omega)))
section
variable {f_clauseCount f_litCount f_kept f_kN f_bN f_sealed f_lastStep f_cNodes f_cSp f_pNodes f_pSp : Int32} {a_lSign a_lPred a_lA0 a_lA1 a_lOwner a_arity a_kKind a_kA a_kB a_kBind a_bKind a_bA a_bB a_bBind a_cCopy a_cLit a_cPar a_cStk a_cl a_gtab a_pLit a_pPar a_pStk : Nat → Int32}
theorem yu_const {post : Int32 → Prop} {nc nl : Nat} {st : Nat → Nat} {sg pr ar : Nat → Int32} (hw : cd_wf nc nl st sg pr a_lA0 a_lA1 ar) (how : cd_own nc nl st a_lOwner) {i : Nat}
    (h : post (nI (cg_uc (cg_oc a_lA0 a_lA1 0 (st nc)) (cg_oc a_lA0 a_lA1 1 (st nc)) i))) : wpY_uConst post (nI nc, nI nl, f_kept, f_kN, f_bN, f_sealed, f_lastStep, f_cNodes, f_cSp, f_pNodes, f_pSp, a_lSign, a_lPred, a_lA0, a_lA1, a_lOwner, a_arity, a_kKind, a_kA, a_kB, a_kBind, a_bKind, a_bA, a_bB, a_bBind, a_cCopy, a_cLit, a_cPar, a_cStk, a_cl, a_gtab, a_pLit, a_pPar, a_pStk) (nI i) := by
  unfold wpY_uConst
  dsimp only
  refine yu_size hw how ?_
  unfold cg_uc at h
  by_cases t : (cg_oc a_lA0 a_lA1 0 (st nc) && cg_oc a_lA0 a_lA1 1 (st nc)) = true
  · rw [if_pos t] at h
    rw [t]
    exact br_t rfl h
  · rw [if_neg t] at h
    have e : nI (cg_sz (cg_oc a_lA0 a_lA1 0 (st nc) && cg_oc a_lA0 a_lA1 1 (st nc))) = 1 := by unfold cg_sz; rw [if_neg t]; rfl
    rw [e]
    refine br_f (by decide) (yu_occ hw how ?_)
    by_cases o : cg_oc a_lA0 a_lA1 1 (st nc) = true
    · rw [if_pos o] at h ⊢
      exact br_f (by decide) h
    · rw [if_neg o] at h ⊢
      exact br_t rfl h
theorem yu_index {post : Int32 → Prop} {nc nl : Nat} {st : Nat → Nat} {sg pr ar : Nat → Int32} (hw : cd_wf nc nl st sg pr a_lA0 a_lA1 ar) (how : cd_own nc nl st a_lOwner) {x : Int32}
    (h : post (if (cg_oc a_lA0 a_lA1 0 (st nc) && cg_oc a_lA0 a_lA1 1 (st nc)) = true then x else 0)) : wpY_uIndex post (nI nc, nI nl, f_kept, f_kN, f_bN, f_sealed, f_lastStep, f_cNodes, f_cSp, f_pNodes, f_pSp, a_lSign, a_lPred, a_lA0, a_lA1, a_lOwner, a_arity, a_kKind, a_kA, a_kB, a_kBind, a_bKind, a_bA, a_bB, a_bBind, a_cCopy, a_cLit, a_cPar, a_cStk, a_cl, a_gtab, a_pLit, a_pPar, a_pStk) x := by
  unfold wpY_uIndex
  dsimp only
  refine yu_size hw how ?_
  by_cases t : (cg_oc a_lA0 a_lA1 0 (st nc) && cg_oc a_lA0 a_lA1 1 (st nc)) = true
  · rw [if_pos t] at h
    rw [t]
    exact br_t rfl h
  · rw [if_neg t] at h
    have e : nI (cg_sz (cg_oc a_lA0 a_lA1 0 (st nc) && cg_oc a_lA0 a_lA1 1 (st nc))) = 1 := by unfold cg_sz; rw [if_neg t]; rfl
    rw [e]
    exact br_f (by decide) h
theorem yu_term {post : Int32 → Prop} {nc nl : Nat} {st : Nat → Nat} {sg pr ar : Nat → Int32} (hw : cd_wf nc nl st sg pr a_lA0 a_lA1 ar) (how : cd_own nc nl st a_lOwner) {t : Int32} {k : Nat} (hk : k < 4) (ht : cd_at t)
    (h : post (if t = -1 then -1 else nI (cg_vl t (cg_uc (cg_oc a_lA0 a_lA1 0 (st nc)) (cg_oc a_lA0 a_lA1 1 (st nc)) (k % 2)) (cg_uc (cg_oc a_lA0 a_lA1 0 (st nc)) (cg_oc a_lA0 a_lA1 1 (st nc)) (k / 2))))) :
    wpY_termValue post (nI nc, nI nl, f_kept, f_kN, f_bN, f_sealed, f_lastStep, f_cNodes, f_cSp, f_pNodes, f_pSp, a_lSign, a_lPred, a_lA0, a_lA1, a_lOwner, a_arity, a_kKind, a_kA, a_kB, a_kBind, a_bKind, a_bA, a_bB, a_bBind, a_cCopy, a_cLit, a_cPar, a_cStk, a_cl, a_gtab, a_pLit, a_pPar, a_pStk) t (nI k) := by
  unfold cg_vl at h
  have er : nI k - nI k / 2 * 2 = nI (k % 2) := by
    rw [show (2 : Int32) = nI 2 from rfl, pk_rem (by omega) (by omega) (by omega)]
  have ed : nI k / 2 = nI (k / 2) := by
    rw [show (2 : Int32) = nI 2 from rfl, pk_div (by omega) (by omega) (by omega)]
  refine br_c (fun e2 => ⟨by decide, ?_⟩) (fun e2 => br_c (fun e3 => ⟨by decide, ?_⟩) (fun e3 => ?_))
  · rw [if_neg (by rw [e2]; decide), if_pos e2] at h
    rw [er]
    exact yu_const hw how h
  · rw [if_neg (by rw [e3]; decide), if_neg e2, if_pos e3] at h
    rw [ed]
    exact yu_const hw how h
  · by_cases em : t = -1
    · rw [if_pos em] at h
      rw [em]
      exact h
    · rw [if_neg em, if_neg e2, if_neg e3] at h
      obtain ⟨n, hn, e⟩ := ht.resolve_left em
      rw [e, nI_clamp (by omega)] at h
      rw [e]
      exact h
theorem yu_atom {post : Int32 → Prop} {nc nl : Nat} {st : Nat → Nat} {sg : Nat → Int32} (hw : cd_wf nc nl st sg a_lPred a_lA0 a_lA1 a_arity) (how : cd_own nc nl st a_lOwner) {p a v0 v1 : Nat} {x0 x1 : Int32} (hp : p < 4) (ea : a_arity p = nI a) (ha : a ≤ 2)
    (e0 : 1 ≤ a → x0 = nI v0) (e1 : 2 ≤ a → x1 = nI v1)
    (h : post (nI (cg_base a_lPred a_arity (st nc) (cg_oc a_lA0 a_lA1 0 (st nc) && cg_oc a_lA0 a_lA1 1 (st nc)) p + (if (cg_oc a_lA0 a_lA1 0 (st nc) && cg_oc a_lA0 a_lA1 1 (st nc)) = true then (if a = 0 then 0 else if a = 1 then v0 else 2 * v0 + v1) else 0)))) :
    wpY_atomId post (nI nc, nI nl, f_kept, f_kN, f_bN, f_sealed, f_lastStep, f_cNodes, f_cSp, f_pNodes, f_pSp, a_lSign, a_lPred, a_lA0, a_lA1, a_lOwner, a_arity, a_kKind, a_kA, a_kB, a_kBind, a_bKind, a_bA, a_bB, a_bBind, a_cCopy, a_cLit, a_cPar, a_cStk, a_cl, a_gtab, a_pLit, a_pPar, a_pStk) (nI p) x0 x1 := by
  unfold wpY_atomId
  dsimp only
  refine yu_size hw how ?_
  have inp : vp_in (nI p) 4 := vp_in_nI hp (by decide)
  have clp : (nI p).toNatClampNeg = p := nI_clamp (by omega)
  have key : ∀ d q : Nat, q + d = p → wY_atomId_12 post (nI p) x0 x1 (nI (cg_sz (cg_oc a_lA0 a_lA1 0 (st nc) && cg_oc a_lA0 a_lA1 1 (st nc)))) (nI nc) (nI nl) f_kept f_kN f_bN f_sealed f_lastStep f_cNodes f_cSp f_pNodes f_pSp a_lSign a_lPred a_lA0 a_lA1 a_lOwner a_arity a_kKind a_kA a_kB a_kBind a_bKind a_bA a_bB a_bBind a_cCopy a_cLit a_cPar a_cStk a_cl a_gtab a_pLit a_pPar a_pStk (d + 1) (nI (cg_base a_lPred a_arity (st nc) (cg_oc a_lA0 a_lA1 0 (st nc) && cg_oc a_lA0 a_lA1 1 (st nc)) q)) (nI q) := by
    intro d
    induction d with
    | zero =>
      intro q hq
      have eq : q = p := by omega
      subst eq
      refine br_t (nI_le (Nat.le_refl _) (by omega)) ⟨inp, ?_⟩
      rw [clp, ea]
      have c : a = 0 ∨ a = 1 ∨ a = 2 := by omega
      rcases c with c | c | c
      · subst c
        refine br_f (by decide) ⟨inp, ?_⟩
        rw [clp, ea]
        refine br_f (by decide) ?_
        rw [if_pos rfl] at h
        by_cases t : (cg_oc a_lA0 a_lA1 0 (st nc) && cg_oc a_lA0 a_lA1 1 (st nc)) = true
        · rw [if_pos t, Nat.add_zero] at h
          exact h
        · rw [if_neg t, Nat.add_zero] at h
          exact h
      · subst c
        rw [if_neg (show ¬ (1 : Nat) = 0 by decide), if_pos (show (1 : Nat) = 1 from rfl)] at h
        refine br_t rfl (yu_index hw how ?_)
        rw [e0 (by omega)]
        have es : nI (cg_base a_lPred a_arity (st nc) (cg_oc a_lA0 a_lA1 0 (st nc) && cg_oc a_lA0 a_lA1 1 (st nc)) q) + (if (cg_oc a_lA0 a_lA1 0 (st nc) && cg_oc a_lA0 a_lA1 1 (st nc)) = true then nI v0 else 0) = nI (cg_base a_lPred a_arity (st nc) (cg_oc a_lA0 a_lA1 0 (st nc) && cg_oc a_lA0 a_lA1 1 (st nc)) q + (if (cg_oc a_lA0 a_lA1 0 (st nc) && cg_oc a_lA0 a_lA1 1 (st nc)) = true then v0 else 0)) := by
          by_cases t : (cg_oc a_lA0 a_lA1 0 (st nc) && cg_oc a_lA0 a_lA1 1 (st nc)) = true
          · rw [if_pos t, if_pos t, nI_add]
          · rw [if_neg t, if_neg t, ← nI_0, nI_add]
        refine nm_r es ⟨inp, ?_⟩
        rw [clp, ea]
        exact br_f (by decide) h
      · subst c
        rw [if_neg (show ¬ (2 : Nat) = 0 by decide), if_neg (show ¬ (2 : Nat) = 1 by decide)] at h
        refine br_f (by decide) ⟨inp, ?_⟩
        rw [clp, ea]
        refine br_t rfl (yu_index hw how (yu_index hw how ?_))
        rw [e0 (by omega), e1 (by omega)]
        refine nm_r ?_ h
        by_cases t : (cg_oc a_lA0 a_lA1 0 (st nc) && cg_oc a_lA0 a_lA1 1 (st nc)) = true
        · rw [if_pos t, if_pos t, if_pos t, t, show cg_sz true = 2 from rfl, pk_mul, nI_add, nI_add]
          exact congrArg nI (by omega)
        · rw [if_neg t, if_neg t, if_neg t, ← nI_0, pk_mul, nI_add, nI_add]
          exact congrArg nI (by omega)
    | succ d ih =>
      intro q hq
      have ih2 := ih (q + 1) (by omega)
      rw [cg_base] at ih2
      refine br_f (nI_ge (by omega) (by omega)) (yu_pred hw how ?_)
      by_cases o : cg_op a_lPred q (st nc) = true
      · rw [if_pos o]
        obtain ⟨a2, ea2⟩ := yu_arN hw o (by omega)
        refine br_f (by decide) ⟨vp_in_nI (by omega) (by decide), ?_⟩
        rw [nI_clamp (show q < 2 ^ 31 by omega), ea2]
        refine yu_power (by omega) (nm_r (nI_add _ _) (nm_r (nI_1 q) ?_))
        unfold cg_at at ih2
        rw [if_pos o] at ih2
        exact ih2
      · rw [if_neg o]
        unfold cg_at at ih2
        rw [if_neg o, Nat.add_zero] at ih2
        exact br_t rfl (nm_r (nI_1 q) ih2)
  exact ⟨_, key p 0 (by omega)⟩
theorem yu_lit {post : Int32 → Prop} {nc nl : Nat} {st : Nat → Nat} (hw : cd_wf nc nl st a_lSign a_lPred a_lA0 a_lA1 a_arity) (how : cd_own nc nl st a_lOwner) {j k q : Nat} (hj : j < st nc) (hk : k < 4) (eq : q % 4 = k)
    (h : post (nI (cg_YL nc st a_lSign a_lPred a_lA0 a_lA1 a_arity j q))) : wpY_groundLit post (nI nc, nI nl, f_kept, f_kN, f_bN, f_sealed, f_lastStep, f_cNodes, f_cSp, f_pNodes, f_pSp, a_lSign, a_lPred, a_lA0, a_lA1, a_lOwner, a_arity, a_kKind, a_kA, a_kB, a_kBind, a_bKind, a_bA, a_bB, a_bBind, a_cCopy, a_cLit, a_cPar, a_cStk, a_cl, a_gtab, a_pLit, a_pPar, a_pStk) (nI j) (nI k) := by
  have hM := hw.2.2.2.2.1
  have hnl := hw.2.1
  obtain ⟨_, _, l3, l4, l5⟩ := hw.2.2.2.2.2.2.1 j (by omega)
  obtain ⟨s2, es, p4, ep, har, _, f0, f1, a2⟩ := cg_lit hw hj
  have eA : a_arity (a_lPred j).toNatClampNeg = nI (ck_ar (a_lA0 j) (a_lA1 j)) := by
    obtain ⟨p', hp', ep', ea'⟩ := (hw.2.2.2.2.2.2.1 j (by omega)).2.1
    rw [ep', nI_clamp (by omega)]
    exact ea'
  have hin : vp_in (nI j) 16 := vp_in_nI (by omega) (by decide)
  have clj : (nI j).toNatClampNeg = j := nI_clamp (by omega)
  unfold cg_YL cg_L cg_gl cg_tup at h
  rw [eq] at h
  refine ⟨hin, ?_⟩
  rw [clj]
  refine yu_term hw how hk l3 ⟨hin, yu_term hw how hk l4 ⟨hin, ?_⟩⟩
  rw [ep]
  refine yu_atom hw how p4 eA a2 (v0 := cg_vl (a_lA0 j) (cg_uc (cg_oc a_lA0 a_lA1 0 (st nc)) (cg_oc a_lA0 a_lA1 1 (st nc)) (k % 2)) (cg_uc (cg_oc a_lA0 a_lA1 0 (st nc)) (cg_oc a_lA0 a_lA1 1 (st nc)) (k / 2)))
    (v1 := cg_vl (a_lA1 j) (cg_uc (cg_oc a_lA0 a_lA1 0 (st nc)) (cg_oc a_lA0 a_lA1 1 (st nc)) (k % 2)) (cg_uc (cg_oc a_lA0 a_lA1 0 (st nc)) (cg_oc a_lA0 a_lA1 1 (st nc)) (k / 2))) (fun h1 => ?_) (fun h1 => ?_) ⟨hin, ?_⟩
  · obtain ⟨n, hn, e⟩ := f0 h1
    rw [if_neg]
    rw [e]
    intro z
    have := congrArg Int32.toInt z
    rw [nI_toInt (by omega), show (-1 : Int32).toInt = -1 from by decide] at this
    omega
  · obtain ⟨n, hn, e⟩ := f1 h1
    rw [if_neg]
    rw [e]
    intro z
    have := congrArg Int32.toInt z
    rw [nI_toInt (by omega), show (-1 : Int32).toInt = -1 from by decide] at this
    omega
  · rw [es, show (2 : Int32) = nI 2 from rfl, pk_mul, nI_add, Nat.mul_comm]
    rw [ep, nI_clamp (show (a_lPred j).toNatClampNeg < 2 ^ 31 by omega)]
    exact h
end
end
section
/-! Y decides -/
def yn_gt (nc : Nat) (st : Nat → Nat) (sg pr a0 a1 ar gt : Nat → Int32) : Prop := ∀ j k, j < st nc → k < 4 → gt (j * 4 + k) = nI (cg_YL nc st sg pr a0 a1 ar j k)
theorem cg_YL_mod {nc : Nat} {st : Nat → Nat} {sg pr a0 a1 ar : Nat → Int32} {j q : Nat} : cg_YL nc st sg pr a0 a1 ar j (q % 4) = cg_YL nc st sg pr a0 a1 ar j q := by
  unfold cg_YL
  rw [Nat.mod_mod]
theorem yn_bit : ∀ m, m < 32 → ∀ a, a < 5 → ((nI m >>> (nI a &&& 31)) &&& 1) = (if m.testBit a = true then 1 else 0) := by decide +kernel
section
variable {f_clauseCount f_litCount f_kept f_kN f_bN f_sealed f_lastStep f_cNodes f_cSp f_pNodes f_pSp : Int32} {a_lSign a_lPred a_lA0 a_lA1 a_lOwner a_arity a_kKind a_kA a_kB a_kBind a_bKind a_bA a_bB a_bBind a_cCopy a_cLit a_cPar a_cStk a_cl a_gtab a_pLit a_pPar a_pStk : Nat → Int32}
theorem yn_inst {post : Int32 → Prop} {nc nl : Nat} {st : Nat → Nat} (hw : cd_wf nc nl st a_lSign a_lPred a_lA0 a_lA1 a_arity) (how : cd_own nc nl st a_lOwner)
    (h5 : cg_base a_lPred a_arity (st nc) (cg_oc a_lA0 a_lA1 0 (st nc) && cg_oc a_lA0 a_lA1 1 (st nc)) 4 ≤ 5) (hgt : yn_gt nc st a_lSign a_lPred a_lA0 a_lA1 a_arity a_gtab) {q m : Nat} (hq : q < 4 * nc) (hm : m < 32)
    (h1 : (∃ x, cg_HY nc st a_lSign a_lPred a_lA0 a_lA1 a_arity q x ∧ cm_tr (cg_tb m) x) → post 1) (h0 : ¬ (∃ x, cg_HY nc st a_lSign a_lPred a_lA0 a_lA1 a_arity q x ∧ cm_tr (cg_tb m) x) → post 0) :
    wpY_instHolds post (nI nc, nI nl, f_kept, f_kN, f_bN, f_sealed, f_lastStep, f_cNodes, f_cSp, f_pNodes, f_pSp, a_lSign, a_lPred, a_lA0, a_lA1, a_lOwner, a_arity, a_kKind, a_kA, a_kB, a_kBind, a_bKind, a_bA, a_bB, a_bBind, a_cCopy, a_cLit, a_cPar, a_cStk, a_cl, a_gtab, a_pLit, a_pPar, a_pStk) (nI (q / 4)) (nI (q % 4)) (nI m) := by
  have hnc := hw.1
  have hM := hw.2.2.2.2.1
  have hnl := hw.2.1
  have hc : q / 4 < nc := by omega
  obtain ⟨b1, b2, b3⟩ := cd_en_bd hw (show q / 4 ≤ nc by omega)
  have een : cd_en nc nl st (q / 4) = st (q / 4 + 1) := cd_en_lt hc
  have hst := cd_mono' hw (c := q / 4 + 1) (d := nc) (by omega) (Nat.le_refl _)
  have key : ∀ d j : Nat, j + d = nl → (∀ j', j' < j → st (q / 4) ≤ j' → j' < st (q / 4 + 1) → ¬ cm_tr (cg_tb m) (cg_YL nc st a_lSign a_lPred a_lA0 a_lA1 a_arity j' q)) →
      wY_instHolds_3 post (nI (q / 4)) (nI (q % 4)) (nI m) (nI nc) (nI nl) f_kept f_kN f_bN f_sealed f_lastStep f_cNodes f_cSp f_pNodes f_pSp a_lSign a_lPred a_lA0 a_lA1 a_lOwner a_arity a_kKind a_kA a_kB a_kBind a_bKind a_bA a_bB a_bBind a_cCopy a_cLit a_cPar a_cStk a_cl a_gtab a_pLit a_pPar a_pStk (d + 1) (nI j) := by
    intro d
    induction d with
    | zero =>
      intro j hj hno
      refine br_t (nI_le (by omega) (by omega)) (h0 (fun ⟨x, ⟨j', e1, e2, e3⟩, t⟩ => ?_))
      rw [e3] at t
      exact hno j' (by omega) e1 e2 t
    | succ d ih =>
      intro j hj hno
      refine br_f (nI_ge (show j < nl by omega) (by omega)) ⟨vp_in_nI (by omega) (by decide), ?_⟩
      rw [nI_clamp (show j < 2 ^ 31 by omega)]
      refine ek_if (cd_own_iff hw how (show j < nl by omega) (show q / 4 ≤ nc by omega)) (fun z => ?_) (fun z => nm_r (nI_1 j) (ih (j + 1) (by omega) (fun j' hj' e1 e2 => ?_)))
      · rw [een] at z
        have eix : nI j * 4 + nI (q % 4) = nI (j * 4 + q % 4) := by
          rw [show (4 : Int32) = nI 4 from rfl, pk_mul, nI_add]
        rw [eix]
        refine ⟨vp_in_nI (by omega) (by decide), ?_⟩
        rw [nI_clamp (show j * 4 + q % 4 < 2 ^ 31 by omega), hgt j (q % 4) (by omega) (by omega), cg_YL_mod]
        have hY := cg_YL_lt (q := q) hw (show j < st nc by omega)
        have cont : ¬ cm_tr (cg_tb m) (cg_YL nc st a_lSign a_lPred a_lA0 a_lA1 a_arity j q) → wY_instHolds_3 post (nI (q / 4)) (nI (q % 4)) (nI m) (nI nc) (nI nl) f_kept f_kN f_bN f_sealed f_lastStep f_cNodes f_cSp f_pNodes f_pSp a_lSign a_lPred a_lA0 a_lA1 a_lOwner a_arity a_kKind a_kA a_kB a_kBind a_bKind a_bA a_bB a_bBind a_cCopy a_cLit a_cPar a_cStk a_cl a_gtab a_pLit a_pPar a_pStk (d + 1) (nI (j + 1)) := by
          intro nt
          refine ih (j + 1) (by omega) (fun j' hj' e1 e2 => ?_)
          by_cases e : j' = j
          · rw [e]
            exact nt
          · exact hno j' (by omega) e1 e2
        have yes : cm_tr (cg_tb m) (cg_YL nc st a_lSign a_lPred a_lA0 a_lA1 a_arity j q) → post 1 := fun t => h1 ⟨_, ⟨j, z.1, z.2, rfl⟩, t⟩
        generalize cg_YL nc st a_lSign a_lPred a_lA0 a_lA1 a_arity j q = x at hY cont yes ⊢
        have ed : nI x / 2 = nI (x / 2) := by
          rw [show (2 : Int32) = nI 2 from rfl, pk_div (by omega) (by omega) (by omega)]
        have er : nI x - nI x / 2 * 2 = nI (x % 2) := by
          rw [show (2 : Int32) = nI 2 from rfl, pk_rem (by omega) (by omega) (by omega)]
        refine nm_e ⟨by decide, ?_⟩
        rw [er, ed, yn_bit m hm (x / 2) (by omega)]
        refine nm_e ⟨by decide, ?_⟩
        unfold cm_tr cg_tb at cont yes
        have c2 : x % 2 = 0 ∨ x % 2 = 1 := by omega
        cases tb : m.testBit (x / 2)
        · rw [if_neg (by decide)]
          rw [tb] at cont yes
          rcases c2 with c2 | c2
          · rw [c2] at cont ⊢
            exact br_t rfl (br_f (by decide) (br_f (by decide) (nm_r (nI_1 j) (cont (by decide)))))
          · rw [c2] at yes ⊢
            exact br_f (by decide) (br_f (by decide) (br_t rfl (yes (by decide))))
        · rw [if_pos rfl]
          rw [tb] at cont yes
          rcases c2 with c2 | c2
          · rw [c2] at yes ⊢
            exact br_t rfl (br_t rfl (br_t rfl (yes (by decide))))
          · rw [c2] at cont ⊢
            exact br_f (by decide) (br_t rfl (br_f (by decide) (nm_r (nI_1 j) (cont (by decide)))))
      · by_cases e : j' = j
        · subst e
          rw [een] at z
          exact absurd ⟨e1, e2⟩ z
        · exact hno j' (by omega) e1 e2
  exact ⟨_, key nl 0 (by omega) (fun j' hj' => absurd hj' (Nat.not_lt_zero j'))⟩
theorem yn_all {post : Int32 → Prop} {nc nl : Nat} {st : Nat → Nat} (hw : cd_wf nc nl st a_lSign a_lPred a_lA0 a_lA1 a_arity) (how : cd_own nc nl st a_lOwner)
    (h5 : cg_base a_lPred a_arity (st nc) (cg_oc a_lA0 a_lA1 0 (st nc) && cg_oc a_lA0 a_lA1 1 (st nc)) 4 ≤ 5) (hgt : yn_gt nc st a_lSign a_lPred a_lA0 a_lA1 a_arity a_gtab) {m : Nat} (hm : m < 32)
    (h1 : (∀ q, q < 4 * nc → ∃ x, cg_HY nc st a_lSign a_lPred a_lA0 a_lA1 a_arity q x ∧ cm_tr (cg_tb m) x) → post 1) (h0 : ¬ (∀ q, q < 4 * nc → ∃ x, cg_HY nc st a_lSign a_lPred a_lA0 a_lA1 a_arity q x ∧ cm_tr (cg_tb m) x) → post 0) :
    wpY_holdsAll post (nI nc, nI nl, f_kept, f_kN, f_bN, f_sealed, f_lastStep, f_cNodes, f_cSp, f_pNodes, f_pSp, a_lSign, a_lPred, a_lA0, a_lA1, a_lOwner, a_arity, a_kKind, a_kA, a_kB, a_kBind, a_bKind, a_bA, a_bB, a_bBind, a_cCopy, a_cLit, a_cPar, a_cStk, a_cl, a_gtab, a_pLit, a_pPar, a_pStk) (nI m) := by
  have hnc := hw.1
  have e4 : nI nc * 4 = nI (4 * nc) := by
    rw [show (4 : Int32) = nI 4 from rfl, pk_mul, Nat.mul_comm]
  have key : ∀ d q : Nat, q + d = 4 * nc → (∀ q', q' < q → ∃ x, cg_HY nc st a_lSign a_lPred a_lA0 a_lA1 a_arity q' x ∧ cm_tr (cg_tb m) x) → wY_holdsAll_2 post (nI m) (nI nc) (nI nl) f_kept f_kN f_bN f_sealed f_lastStep f_cNodes f_cSp f_pNodes f_pSp a_lSign a_lPred a_lA0 a_lA1 a_lOwner a_arity a_kKind a_kA a_kB a_kBind a_bKind a_bA a_bB a_bBind a_cCopy a_cLit a_cPar a_cStk a_cl a_gtab a_pLit a_pPar a_pStk (d + 1) (nI q) := by
    intro d
    induction d with
    | zero =>
      intro q hq hall
      refine br_t (by rw [e4]; exact nI_le (by omega) (by omega)) (h1 (fun q' hq' => hall q' (by omega)))
    | succ d ih =>
      intro q hq hall
      have ed : nI q / 4 = nI (q / 4) := by
        rw [show (4 : Int32) = nI 4 from rfl, pk_div (by omega) (by omega) (by omega)]
      have er : nI q - nI q / 4 * 4 = nI (q % 4) := by
        rw [show (4 : Int32) = nI 4 from rfl, pk_rem (by omega) (by omega) (by omega)]
      refine br_f (by rw [e4]; exact nI_ge (by omega) (by omega)) ⟨by decide, by decide, ?_⟩
      rw [er, ed]
      refine yn_inst hw how h5 hgt (show q < 4 * nc by omega) hm (fun z => br_f (by decide) (nm_r (nI_1 q) (ih (q + 1) (by omega) (fun q' hq' => ?_)))) (fun z => br_t rfl (h0 (fun y => z (y q (by omega)))))
      by_cases e : q' = q
      · rw [e]
        exact z
      · exact hall q' (by omega)
  exact ⟨_, key (4 * nc) 0 (by omega) (fun q' hq' => absurd hq' (Nat.not_lt_zero q'))⟩
theorem yn_unsat {post : Int32 → Prop} {nc nl g : Nat} {st : Nat → Nat} (hw : cd_wf nc nl st a_lSign a_lPred a_lA0 a_lA1 a_arity) (how : cd_own nc nl st a_lOwner)
    (eg : cg_base a_lPred a_arity (st nc) (cg_oc a_lA0 a_lA1 0 (st nc) && cg_oc a_lA0 a_lA1 1 (st nc)) 4 = g) (h5 : g ≤ 5) (hgt : yn_gt nc st a_lSign a_lPred a_lA0 a_lA1 a_arity a_gtab)
    (h1 : ¬ cm_sat (cg_HY nc st a_lSign a_lPred a_lA0 a_lA1 a_arity) (fun q => q < 4 * nc) (fun _ => False) → post 1) (h0 : cm_sat (cg_HY nc st a_lSign a_lPred a_lA0 a_lA1 a_arity) (fun q => q < 4 * nc) (fun _ => False) → post 0) :
    wpY_unsat post (nI nc, nI nl, f_kept, f_kN, f_bN, f_sealed, f_lastStep, f_cNodes, f_cSp, f_pNodes, f_pSp, a_lSign, a_lPred, a_lA0, a_lA1, a_lOwner, a_arity, a_kKind, a_kA, a_kB, a_kBind, a_bKind, a_bA, a_bB, a_bBind, a_cCopy, a_cLit, a_cPar, a_cStk, a_cl, a_gtab, a_pLit, a_pPar, a_pStk) (nI g) := by
  have p32 : 2 ^ g ≤ 32 := Nat.pow_le_pow_right (by omega) h5
  have hM := hw.2.2.2.2.1
  have hnc := hw.1
  refine yu_power (b := 2) (by omega) ?_
  have key : ∀ d m : Nat, m + d = 2 ^ g → (∀ m', m' < m → ¬ (∀ q, q < 4 * nc → ∃ x, cg_HY nc st a_lSign a_lPred a_lA0 a_lA1 a_arity q x ∧ cm_tr (cg_tb m') x)) → wY_unsat_9 post (nI (2 ^ g)) (nI nc) (nI nl) f_kept f_kN f_bN f_sealed f_lastStep f_cNodes f_cSp f_pNodes f_pSp a_lSign a_lPred a_lA0 a_lA1 a_lOwner a_arity a_kKind a_kA a_kB a_kBind a_bKind a_bA a_bB a_bBind a_cCopy a_cLit a_cPar a_cStk a_cl a_gtab a_pLit a_pPar a_pStk (d + 1) (nI m) := by
    intro d
    induction d with
    | zero =>
      intro m hm hno
      refine br_t (nI_le (by omega) (by omega)) (h1 (fun ⟨f, y1, _⟩ => ?_))
      obtain ⟨t, ht, hf⟩ := xs_f5 f
      refine hno (t % 2 ^ g) (by have := Nat.mod_lt t (Nat.two_pow_pos g); omega) (fun q hq => ?_)
      obtain ⟨x, ⟨j, j1, j2, j3⟩, tx⟩ := y1 q hq
      have hst := cd_mono' hw (c := q / 4 + 1) (d := nc) (by omega) (Nat.le_refl _)
      have hx := cg_YL_lt (q := q) hw (show j < st nc by omega)
      rw [eg, ← j3] at hx
      refine ⟨x, ⟨j, j1, j2, j3⟩, ?_⟩
      unfold cm_tr cg_tb at *
      rw [Nat.testBit_mod_two_pow, decide_eq_true (show x / 2 < g by omega), Bool.true_and, hf (x / 2) (by omega)]
      exact tx
    | succ d ih =>
      intro m hm hno
      refine br_f (nI_ge (by omega) (by omega)) ?_
      refine yn_all hw how (by rw [eg]; exact h5) hgt (show m < 32 by omega) (fun z => br_f (by decide) (h0 ⟨cg_tb m, z, fun _ y => y.elim⟩)) (fun z => br_t rfl (nm_r (nI_1 m) (ih (m + 1) (by omega) (fun m' hm' => ?_))))
      by_cases e : m' = m
      · rw [e]
        exact z
      · exact hno m' (by omega)
  exact ⟨_, key (2 ^ g) 0 (by omega) (fun m' hm' => absurd hm' (Nat.not_lt_zero m'))⟩
end
/-! path states: base three -/
def yt_d (s a : Nat) : Nat := s / 3 ^ a % 3
def yp_s : List Nat → Nat
  | [] => 0
  | m :: ms => yp_s ms + (m % 2 + 1) * 3 ^ (m / 2)
theorem yt_add {s a b d : Nat} (hs : s < 243) (ha : a < 5) (hb : b < 5) (hd : d ≤ 2) (h0 : yt_d s a = 0) : s + d * 3 ^ a < 243 ∧ yt_d (s + d * 3 ^ a) b = if b = a then d else yt_d s b := by
  unfold yt_d at h0 ⊢
  have ca : a = 0 ∨ a = 1 ∨ a = 2 ∨ a = 3 ∨ a = 4 := by omega
  have cb : b = 0 ∨ b = 1 ∨ b = 2 ∨ b = 3 ∨ b = 4 := by omega
  rcases ca with e | e | e | e | e <;> subst e <;> rcases cb with e | e | e | e | e <;> subst e <;> simp only [Nat.pow_zero, Nat.reducePow, Nat.div_one, Nat.mul_one, if_true, if_false] at h0 ⊢ <;> constructor <;> (try split) <;> omega
theorem yt_add_g {s a d g : Nat} (hs : s < 3 ^ g) (ha : a < g) (hg : g ≤ 5) (hd : d ≤ 2) (h0 : yt_d s a = 0) : s + d * 3 ^ a < 3 ^ g := by
  unfold yt_d at h0
  have cg : g = 1 ∨ g = 2 ∨ g = 3 ∨ g = 4 ∨ g = 5 := by omega
  have ca : a = 0 ∨ a = 1 ∨ a = 2 ∨ a = 3 ∨ a = 4 := by omega
  rcases cg with e | e | e | e | e <;> subst e <;> rcases ca with e | e | e | e | e <;> subst e <;> simp only [Nat.pow_zero, Nat.reducePow, Nat.div_one, Nat.mul_one] at h0 hs ⊢ <;> omega
theorem yp_ok : ∀ {ms : List Nat}, cm_ok ms → yp_s ms < 243 ∧ (∀ a, a < 5 → (yt_d (yp_s ms) a = 0 ↔ cm_us ms a = false)) ∧ ∀ k, k / 2 < 5 → (yt_d (yp_s ms) (k / 2) = k % 2 + 1 ↔ k ∈ ms)
  | [], _ => by
    have z : ∀ a, yt_d 0 a = 0 := by
      intro a
      unfold yt_d
      rw [Nat.zero_div]
    refine ⟨by decide, fun a _ => ⟨fun _ => rfl, fun _ => z a⟩, fun k _ => ⟨fun h => ?_, fun h => by cases h⟩⟩
    have := z (k / 2)
    have h' : yt_d 0 (k / 2) = k % 2 + 1 := h
    omega
  | m :: ms, h => by
    obtain ⟨h1, h2, h3⟩ := h
    obtain ⟨i1, i2, i3⟩ := yp_ok h3
    have z0 := (i2 (m / 2) h1).mpr h2
    have add : ∀ b, b < 5 → yp_s (m :: ms) < 243 ∧ yt_d (yp_s (m :: ms)) b = if b = m / 2 then m % 2 + 1 else yt_d (yp_s ms) b := fun b hb => yt_add i1 h1 hb (by omega) z0
    refine ⟨(add 0 (by omega)).1, fun a ha => ?_, fun k hk => ?_⟩
    · rw [(add a ha).2, cm_us_cons]
      by_cases e : a = m / 2
      · rw [if_pos e, e]
        simp
      · rw [if_neg e, i2 a ha]
        have : (m / 2 == a) = false := by
          rw [beq_eq_false_iff_ne]
          omega
        rw [this, Bool.false_or]
    · rw [(add (k / 2) hk).2, List.mem_cons]
      by_cases e : k / 2 = m / 2
      · rw [if_pos e]
        constructor
        · intro z
          exact Or.inl (by omega)
        · intro z
          rcases z with z | z
          · rw [z]
          · have : cm_us ms (m / 2) = true := (cm_us_iff ms (m / 2)).mpr ⟨k, z, e⟩
            rw [h2] at this
            exact absurd this (by decide)
      · rw [if_neg e, i3 k hk]
        constructor
        · intro z
          exact Or.inr z
        · intro z
          rcases z with z | z
          · exact absurd (by rw [z]) e
          · exact z
theorem yp_lt {g : Nat} (hg : g ≤ 5) : ∀ {ms : List Nat}, cm_ok ms → (∀ k, k ∈ ms → k / 2 < g) → yp_s ms < 3 ^ g
  | [], _, _ => Nat.pow_pos (by omega)
  | m :: ms, h, hk => by
    obtain ⟨h1, h2, h3⟩ := h
    have ih := yp_lt hg h3 (fun k hh => hk k (List.mem_cons_of_mem m hh))
    exact yt_add_g ih (hk m List.mem_cons_self) hg (by omega) (((yp_ok h3).2.1 (m / 2) h1).mpr h2)
theorem yp_neg {ms : List Nat} {m : Nat} (h : cm_ok ms) (hm : m / 2 < 5) : yt_d (yp_s ms) (m / 2) = 2 - m % 2 ↔ cm_neg m ∈ ms := by
  have e1 := cm_neg_div m
  have e2 := cm_neg_mod m
  have := (yp_ok h).2.2 (cm_neg m) (by omega)
  rw [e1, e2] at this
  rw [← this]
  omega
end
section
/-! Y's table: C m s says that the literal m is known to close below the path state s -/
def ye_ok (nc : Nat) (st : Nat → Nat) (sg pr a0 a1 ar : Nat → Int32) (C : Nat → Nat → Prop) (q b s2 : Nat) : Prop :=
  ∀ j, st (q / 4) ≤ j → j < st (q / 4 + 1) → ¬ j = b → ¬ yt_d s2 (cg_YL nc st sg pr a0 a1 ar j q / 2) = cg_YL nc st sg pr a0 a1 ar j q % 2 + 1 ∧ (yt_d s2 (cg_YL nc st sg pr a0 a1 ar j q / 2) = 0 → C (cg_YL nc st sg pr a0 a1 ar j q) s2)
def ye_at (nc : Nat) (st : Nat → Nat) (sg pr a0 a1 ar : Nat → Int32) (C : Nat → Nat → Prop) (m s2 q j : Nat) : Prop :=
  q < 4 * nc ∧ st (q / 4) ≤ j ∧ j < st (q / 4 + 1) ∧ cg_YL nc st sg pr a0 a1 ar j q = cm_neg m ∧ ye_ok nc st sg pr a0 a1 ar C q j s2
def ye_ev (nc : Nat) (st : Nat → Nat) (sg pr a0 a1 ar : Nat → Int32) (C : Nat → Nat → Prop) (m s : Nat) : Prop :=
  yt_d s (m / 2) = 2 - m % 2 ∨ (yt_d s (m / 2) = 0 ∧ ∃ q j, ye_at nc st sg pr a0 a1 ar C m (s + (m % 2 + 1) * 3 ^ (m / 2)) q j)
theorem ye_ev_mono {nc : Nat} {st : Nat → Nat} {sg pr a0 a1 ar : Nat → Int32} {C C' : Nat → Nat → Prop} (hC : ∀ m s, C m s → C' m s) {m s : Nat} (h : ye_ev nc st sg pr a0 a1 ar C m s) : ye_ev nc st sg pr a0 a1 ar C' m s := by
  rcases h with h | ⟨h0, q, j, h1, h2, h3, h4, h5⟩
  · exact Or.inl h
  · exact Or.inr ⟨h0, q, j, h1, h2, h3, h4, fun j' y1 y2 y3 => ⟨(h5 j' y1 y2 y3).1, fun z => hC _ _ ((h5 j' y1 y2 y3).2 z)⟩⟩
/-- what is known to close after p passes -/
def ye_lv (nc g : Nat) (st : Nat → Nat) (sg pr a0 a1 ar : Nat → Int32) (C : Nat → Nat → Prop) (p : Nat) : Prop :=
  ∀ (ms : List Nat) (m : Nat) (R : Nat → Prop), cm_ok ms → (∀ k, k ∈ ms → k / 2 < g) → m / 2 < g → (∀ r, R r → r < 4 * nc) → cm_goal (cg_HY nc st sg pr a0 a1 ar) R (fun k => k ∈ ms) m → 6 ≤ ms.length + p → C m (yp_s ms)
theorem ye_lv_0 {nc g : Nat} {st : Nat → Nat} {sg pr a0 a1 ar : Nat → Int32} {C : Nat → Nat → Prop} : ye_lv nc g st sg pr a0 a1 ar C 0 := by
  intro ms m R hok _ _ _ _ h6
  have := cm_cnt_le ms
  rw [cm_cnt_ok hok] at this
  omega
theorem ye_lv_s {nc nl g : Nat} {st : Nat → Nat} {sg pr a0 a1 ar : Nat → Int32} (hw : cd_wf nc nl st sg pr a0 a1 ar) (eg : cg_base pr ar (st nc) (cg_oc a0 a1 0 (st nc) && cg_oc a0 a1 1 (st nc)) 4 = g) (h5 : g ≤ 5) {C C' : Nat → Nat → Prop} {p : Nat}
    (h : ye_lv nc g st sg pr a0 a1 ar C p) (hs : ∀ m s, m < 2 * g → s < 3 ^ g → ye_ev nc st sg pr a0 a1 ar C m s → C' m s) : ye_lv nc g st sg pr a0 a1 ar C' (p + 1) := by
  intro ms m R hok hg hm hR hgoal h6
  have hnc := hw.1
  refine hs m (yp_s ms) (by omega) (yp_lt h5 hok hg) ?_
  by_cases hn : cm_neg m ∈ ms
  · exact Or.inl ((yp_neg hok (by omega)).mpr hn)
  · have hm1 : m ∉ ms := cm_goal_new hgoal
    have hok2 := (cm_len4 hok (by omega) hm1 hn).2
    refine Or.inr ⟨((yp_ok hok).2.1 (m / 2) (by omega)).mpr hok2.2.1, ?_⟩
    obtain ⟨R', r1, r2, r3⟩ := cm_thin (cg_HY nc st sg pr a0 a1 ar) R (cm_add (fun k => k ∈ ms) m) hgoal.2 (4 * nc)
    obtain ⟨q, hq, j, j1, j2, j3⟩ := cm_partner hgoal.1 r2 r1 hn
    have hq4 := hR q (r1 q hq)
    have hst := cd_mono' hw (c := q / 4 + 1) (d := nc) (by omega) (Nat.le_refl _)
    refine ⟨q, j, hq4, j1, j2, j3.symm, fun j' y1 y2 y3 => ?_⟩
    have hY := cg_YL_lt (q := q) hw (show j' < st nc by omega)
    rw [eg] at hY
    have hmem : cg_HY nc st sg pr a0 a1 ar q (cg_YL nc st sg pr a0 a1 ar j' q) := ⟨j', y1, y2, rfl⟩
    generalize cg_YL nc st sg pr a0 a1 ar j' q = K at hY hmem ⊢
    have goal2 : cm_goal (cg_HY nc st sg pr a0 a1 ar) (cm_del R' q) (fun k => k ∈ m :: ms) K := by
      refine cm_goal_congr (fun _ => Iff.rfl) (fun k => ?_) (cm_goal_next r2 (r3 q hq4 hq) hmem)
      unfold cm_add
      rw [List.mem_cons]
      exact Or.comm
    have es : yp_s ms + (m % 2 + 1) * 3 ^ (m / 2) = yp_s (m :: ms) := rfl
    rw [es]
    have nK := cm_goal_new goal2
    refine ⟨fun z => nK (((yp_ok hok2).2.2 K (by omega)).mp z), fun z => ?_⟩
    refine h (m :: ms) K (cm_del R' q) hok2 (fun k hk => ?_) (by omega) (fun r hr => hR r (r1 r hr.1)) goal2 (by rw [List.length_cons]; omega)
    rcases List.mem_cons.mp hk with z2 | z2
    · rw [z2]
      exact hm
    · exact hg k z2
/-! the walks -/
def ye_C (a : Nat → Int32) (m s : Nat) : Prop := ¬ a (m * 243 + s) = 0
section
variable {f_clauseCount f_litCount f_kept f_kN f_bN f_sealed f_lastStep f_cNodes f_cSp f_pNodes f_pSp : Int32} {a_lSign a_lPred a_lA0 a_lA1 a_lOwner a_arity a_kKind a_kA a_kB a_kBind a_bKind a_bA a_bB a_bBind a_cCopy a_cLit a_cPar a_cStk a_cl a_gtab a_pLit a_pPar a_pStk : Nat → Int32}
theorem ye_trit {post : Int32 → Prop} {s a : Nat} (hs : s < 2 ^ 20) (ha : a ≤ 8) (h : post (nI (yt_d s a))) : wpY_trit post (f_clauseCount, f_litCount, f_kept, f_kN, f_bN, f_sealed, f_lastStep, f_cNodes, f_cSp, f_pNodes, f_pSp, a_lSign, a_lPred, a_lA0, a_lA1, a_lOwner, a_arity, a_kKind, a_kA, a_kB, a_kBind, a_bKind, a_bA, a_bB, a_bBind, a_cCopy, a_cLit, a_cPar, a_cStk, a_cl, a_gtab, a_pLit, a_pPar, a_pStk) (nI s) (nI a) := by
  have hp : 3 ^ a ≤ 3 ^ 8 := Nat.pow_le_pow_right (by omega) ha
  have h38 : 3 ^ 8 = 6561 := by decide
  have hpos : 0 < 3 ^ a := Nat.pow_pos (by omega)
  have hd : s / 3 ^ a ≤ s := Nat.div_le_self _ _
  refine yu_pow3 ha ⟨nI_ne0 hpos (by omega), by decide, ?_⟩
  rw [pk_div (by omega) hpos (by omega), show (3 : Int32) = nI 3 from rfl, pk_rem (by omega) (by omega) (by omega)]
  exact h
theorem ye_ext {post : Int32 → Prop} {nc nl g : Nat} {st : Nat → Nat} (hw : cd_wf nc nl st a_lSign a_lPred a_lA0 a_lA1 a_arity) (how : cd_own nc nl st a_lOwner)
    (eg : cg_base a_lPred a_arity (st nc) (cg_oc a_lA0 a_lA1 0 (st nc) && cg_oc a_lA0 a_lA1 1 (st nc)) 4 = g) (h5 : g ≤ 5) (hgt : yn_gt nc st a_lSign a_lPred a_lA0 a_lA1 a_arity a_gtab) {q b s2 : Nat} (hq : q < 4 * nc) (hs : s2 < 243)
    (h1 : ye_ok nc st a_lSign a_lPred a_lA0 a_lA1 a_arity (ye_C a_cl) q b s2 → post 1) (h0 : ¬ ye_ok nc st a_lSign a_lPred a_lA0 a_lA1 a_arity (ye_C a_cl) q b s2 → post 0) (hb : b < 16) :
    wpY_extOk post (nI nc, nI nl, f_kept, f_kN, f_bN, f_sealed, f_lastStep, f_cNodes, f_cSp, f_pNodes, f_pSp, a_lSign, a_lPred, a_lA0, a_lA1, a_lOwner, a_arity, a_kKind, a_kA, a_kB, a_kBind, a_bKind, a_bA, a_bB, a_bBind, a_cCopy, a_cLit, a_cPar, a_cStk, a_cl, a_gtab, a_pLit, a_pPar, a_pStk) (nI (q / 4)) (nI (q % 4)) (nI b) (nI s2) := by
  have hnc := hw.1
  have hM := hw.2.2.2.2.1
  have hnl := hw.2.1
  have hc : q / 4 < nc := by omega
  have een : cd_en nc nl st (q / 4) = st (q / 4 + 1) := cd_en_lt hc
  obtain ⟨b1, b2, b3⟩ := cd_en_bd hw (show q / 4 ≤ nc by omega)
  have hst := cd_mono' hw (c := q / 4 + 1) (d := nc) (by omega) (Nat.le_refl _)
  have key : ∀ d j : Nat, j + d = nl → (∀ j', j' < j → st (q / 4) ≤ j' → j' < st (q / 4 + 1) → ¬ j' = b → ¬ yt_d s2 (cg_YL nc st a_lSign a_lPred a_lA0 a_lA1 a_arity j' q / 2) = cg_YL nc st a_lSign a_lPred a_lA0 a_lA1 a_arity j' q % 2 + 1 ∧ (yt_d s2 (cg_YL nc st a_lSign a_lPred a_lA0 a_lA1 a_arity j' q / 2) = 0 → ye_C a_cl (cg_YL nc st a_lSign a_lPred a_lA0 a_lA1 a_arity j' q) s2)) →
      wY_extOk_3 post (nI (q / 4)) (nI (q % 4)) (nI b) (nI s2) (nI nc) (nI nl) f_kept f_kN f_bN f_sealed f_lastStep f_cNodes f_cSp f_pNodes f_pSp a_lSign a_lPred a_lA0 a_lA1 a_lOwner a_arity a_kKind a_kA a_kB a_kBind a_bKind a_bA a_bB a_bBind a_cCopy a_cLit a_cPar a_cStk a_cl a_gtab a_pLit a_pPar a_pStk (d + 1) (nI j) := by
    intro d
    induction d with
    | zero =>
      intro j hj hall
      exact br_t (nI_le (by omega) (by omega)) (h1 (fun j' y1 y2 y3 => hall j' (by omega) y1 y2 y3))
    | succ d ih =>
      intro j hj hall
      refine br_f (nI_ge (show j < nl by omega) (by omega)) ⟨vp_in_nI (by omega) (by decide), ?_⟩
      rw [nI_clamp (show j < 2 ^ 31 by omega)]
      refine ek_if (cd_own_iff hw how (show j < nl by omega) (show q / 4 ≤ nc by omega)) (fun z => ?_) (fun z => nm_r (nI_1 j) (ih (j + 1) (by omega) (fun j' hj' y1 y2 y3 => ?_)))
      · rw [een] at z
        refine pk_eq j b (fun e => nm_r (nI_1 j) (ih (j + 1) (by omega) (fun j' hj' y1 y2 y3 => ?_))) (fun e => ?_)
        · exact hall j' (by omega) y1 y2 y3
        · have eix : nI j * 4 + nI (q % 4) = nI (j * 4 + q % 4) := by
            rw [show (4 : Int32) = nI 4 from rfl, pk_mul, nI_add]
          rw [eix]
          refine ⟨vp_in_nI (by omega) (by decide), ?_⟩
          rw [nI_clamp (show j * 4 + q % 4 < 2 ^ 31 by omega), hgt j (q % 4) (by omega) (by omega), cg_YL_mod]
          have hY := cg_YL_lt (q := q) hw (show j < st nc by omega)
          rw [eg] at hY
          have bad : ¬ (¬ yt_d s2 (cg_YL nc st a_lSign a_lPred a_lA0 a_lA1 a_arity j q / 2) = cg_YL nc st a_lSign a_lPred a_lA0 a_lA1 a_arity j q % 2 + 1 ∧ (yt_d s2 (cg_YL nc st a_lSign a_lPred a_lA0 a_lA1 a_arity j q / 2) = 0 → ye_C a_cl (cg_YL nc st a_lSign a_lPred a_lA0 a_lA1 a_arity j q) s2)) → post 0 :=
            fun y => h0 (fun ok => y (ok j z.1 z.2 e))
          have good : (¬ yt_d s2 (cg_YL nc st a_lSign a_lPred a_lA0 a_lA1 a_arity j q / 2) = cg_YL nc st a_lSign a_lPred a_lA0 a_lA1 a_arity j q % 2 + 1 ∧ (yt_d s2 (cg_YL nc st a_lSign a_lPred a_lA0 a_lA1 a_arity j q / 2) = 0 → ye_C a_cl (cg_YL nc st a_lSign a_lPred a_lA0 a_lA1 a_arity j q) s2)) →
              wY_extOk_3 post (nI (q / 4)) (nI (q % 4)) (nI b) (nI s2) (nI nc) (nI nl) f_kept f_kN f_bN f_sealed f_lastStep f_cNodes f_cSp f_pNodes f_pSp a_lSign a_lPred a_lA0 a_lA1 a_lOwner a_arity a_kKind a_kA a_kB a_kBind a_bKind a_bA a_bB a_bBind a_cCopy a_cLit a_cPar a_cStk a_cl a_gtab a_pLit a_pPar a_pStk (d + 1) (nI (j + 1)) := by
            intro y
            refine ih (j + 1) (by omega) (fun j' hj' y1 y2 y3 => ?_)
            by_cases e2 : j' = j
            · rw [e2]
              exact y
            · exact hall j' (by omega) y1 y2 y3
          generalize cg_YL nc st a_lSign a_lPred a_lA0 a_lA1 a_arity j q = K at hY bad good ⊢
          have ed : nI K / 2 = nI (K / 2) := by
            rw [show (2 : Int32) = nI 2 from rfl, pk_div (by omega) (by omega) (by omega)]
          have er : nI K - nI K / 2 * 2 = nI (K % 2) := by
            rw [show (2 : Int32) = nI 2 from rfl, pk_rem (by omega) (by omega) (by omega)]
          refine nm_e ⟨by decide, ?_⟩
          rw [er, ed]
          have t3 : yt_d s2 (K / 2) < 3 := Nat.mod_lt _ (by omega)
          refine ye_trit (by omega) (by omega) ⟨by decide, ?_⟩
          rw [nI_1]
          refine pk_eq (yt_d s2 (K / 2)) (K % 2 + 1) (fun t1 => bad (fun y => y.1 t1)) (fun t1 => pk_eq (yt_d s2 (K / 2)) 0 (fun t0 => ?_) (fun t0 => nm_r (nI_1 j) (good ⟨t1, fun y => absurd y t0⟩)))
          have eK : nI K * 243 + nI s2 = nI (K * 243 + s2) := by
            rw [show (243 : Int32) = nI 243 from rfl, pk_mul, nI_add]
          rw [eK]
          refine ⟨vp_in_nI (by omega) (by decide), ?_⟩
          rw [nI_clamp (show K * 243 + s2 < 2 ^ 31 by omega)]
          exact br_c (fun y => bad (fun y2 => y2.2 t0 y)) (fun y => nm_r (nI_1 j) (good ⟨t1, fun _ => y⟩))
      · by_cases e : j' = j
        · subst e
          rw [een] at z
          exact absurd ⟨y1, y2⟩ z
        · exact hall j' (by omega) y1 y2 y3
  exact ⟨_, key nl 0 (by omega) (fun j' hj' => absurd hj' (Nat.not_lt_zero j'))⟩
theorem ye_find {post : Int32 → Prop} {nc nl g : Nat} {st : Nat → Nat} (hw : cd_wf nc nl st a_lSign a_lPred a_lA0 a_lA1 a_arity) (how : cd_own nc nl st a_lOwner)
    (eg : cg_base a_lPred a_arity (st nc) (cg_oc a_lA0 a_lA1 0 (st nc) && cg_oc a_lA0 a_lA1 1 (st nc)) 4 = g) (h5 : g ≤ 5) (hgt : yn_gt nc st a_lSign a_lPred a_lA0 a_lA1 a_arity a_gtab) {m s2 : Nat} (hm : m < 10) (hs : s2 < 243)
    (h1 : ∀ q j, ye_at nc st a_lSign a_lPred a_lA0 a_lA1 a_arity (ye_C a_cl) m s2 q j → post (nI (q * 16 + j))) (h0 : ¬ (∃ q j, ye_at nc st a_lSign a_lPred a_lA0 a_lA1 a_arity (ye_C a_cl) m s2 q j) → post (-1)) :
    wpY_findExt post (nI nc, nI nl, f_kept, f_kN, f_bN, f_sealed, f_lastStep, f_cNodes, f_cSp, f_pNodes, f_pSp, a_lSign, a_lPred, a_lA0, a_lA1, a_lOwner, a_arity, a_kKind, a_kA, a_kB, a_kBind, a_bKind, a_bA, a_bB, a_bBind, a_cCopy, a_cLit, a_cPar, a_cStk, a_cl, a_gtab, a_pLit, a_pPar, a_pStk) (nI m) (nI s2) := by
  have hnc := hw.1
  have hM := hw.2.2.2.2.1
  have hnl := hw.2.1
  have hn10 := cm_neg_lt hm
  have e4 : nI nc * 4 = nI (4 * nc) := by
    rw [show (4 : Int32) = nI 4 from rfl, pk_mul, Nat.mul_comm]
  have key : ∀ d q : Nat, q + d = 4 * nc → (∀ q' j', q' < q → ¬ ye_at nc st a_lSign a_lPred a_lA0 a_lA1 a_arity (ye_C a_cl) m s2 q' j') → wY_findExt_2 post (nI m) (nI s2) (nI nc) (nI nl) f_kept f_kN f_bN f_sealed f_lastStep f_cNodes f_cSp f_pNodes f_pSp a_lSign a_lPred a_lA0 a_lA1 a_lOwner a_arity a_kKind a_kA a_kB a_kBind a_bKind a_bA a_bB a_bBind a_cCopy a_cLit a_cPar a_cStk a_cl a_gtab a_pLit a_pPar a_pStk (d + 1) (nI q) := by
    intro d
    induction d with
    | zero =>
      intro q hq hno
      refine br_t (by rw [e4]; exact nI_le (by omega) (by omega)) (h0 (fun ⟨q', j', y⟩ => hno q' j' (by have := y.1; omega) y))
    | succ d ih =>
      intro q hq hno
      have hq4 : q < 4 * nc := by omega
      have hc : q / 4 < nc := by omega
      have een : cd_en nc nl st (q / 4) = st (q / 4 + 1) := cd_en_lt hc
      obtain ⟨b1, b2, b3⟩ := cd_en_bd hw (show q / 4 ≤ nc by omega)
      have hst := cd_mono' hw (c := q / 4 + 1) (d := nc) (by omega) (Nat.le_refl _)
      have ed : nI q / 4 = nI (q / 4) := by
        rw [show (4 : Int32) = nI 4 from rfl, pk_div (by omega) (by omega) (by omega)]
      have er : nI q - nI q / 4 * 4 = nI (q % 4) := by
        rw [show (4 : Int32) = nI 4 from rfl, pk_rem (by omega) (by omega) (by omega)]
      refine br_f (by rw [e4]; exact nI_ge (by omega) (by omega)) ?_
      have inner : ∀ d2 j : Nat, j + d2 = nl → (∀ j', j' < j → ¬ ye_at nc st a_lSign a_lPred a_lA0 a_lA1 a_arity (ye_C a_cl) m s2 q j') →
          wY_findExt_15 post (wY_findExt_2 post (nI m) (nI s2) (nI nc) (nI nl) f_kept f_kN f_bN f_sealed f_lastStep f_cNodes f_cSp f_pNodes f_pSp a_lSign a_lPred a_lA0 a_lA1 a_lOwner a_arity a_kKind a_kA a_kB a_kBind a_bKind a_bA a_bB a_bBind a_cCopy a_cLit a_cPar a_cStk a_cl a_gtab a_pLit a_pPar a_pStk (d + 1)) (nI m) (nI s2) (nI q) (nI nc) (nI nl) f_kept f_kN f_bN f_sealed f_lastStep f_cNodes f_cSp f_pNodes f_pSp a_lSign a_lPred a_lA0 a_lA1 a_lOwner a_arity a_kKind a_kA a_kB a_kBind a_bKind a_bA a_bB a_bBind a_cCopy a_cLit a_cPar a_cStk a_cl a_gtab a_pLit a_pPar a_pStk (d2 + 1) (nI j) := by
        intro d2
        induction d2 with
        | zero =>
          intro j hj hn
          refine br_t (nI_le (by omega) (by omega)) (nm_r (nI_1 q) (ih (q + 1) (by omega) (fun q' j' hq' y => ?_)))
          by_cases e : q' = q
          · subst e
            have := y.2.2.1
            exact hn j' (by omega) y
          · exact hno q' j' (by omega) y
        | succ d2 ih2 =>
          intro j hj hn
          have next : ¬ ye_at nc st a_lSign a_lPred a_lA0 a_lA1 a_arity (ye_C a_cl) m s2 q j → wY_findExt_15 post (wY_findExt_2 post (nI m) (nI s2) (nI nc) (nI nl) f_kept f_kN f_bN f_sealed f_lastStep f_cNodes f_cSp f_pNodes f_pSp a_lSign a_lPred a_lA0 a_lA1 a_lOwner a_arity a_kKind a_kA a_kB a_kBind a_bKind a_bA a_bB a_bBind a_cCopy a_cLit a_cPar a_cStk a_cl a_gtab a_pLit a_pPar a_pStk (d + 1)) (nI m) (nI s2) (nI q) (nI nc) (nI nl) f_kept f_kN f_bN f_sealed f_lastStep f_cNodes f_cSp f_pNodes f_pSp a_lSign a_lPred a_lA0 a_lA1 a_lOwner a_arity a_kKind a_kA a_kB a_kBind a_bKind a_bA a_bB a_bBind a_cCopy a_cLit a_cPar a_cStk a_cl a_gtab a_pLit a_pPar a_pStk (d2 + 1) (nI (j + 1)) := by
            intro y
            refine ih2 (j + 1) (by omega) (fun j' hj' => ?_)
            by_cases e : j' = j
            · rw [e]
              exact y
            · exact hn j' (by omega)
          refine br_f (nI_ge (show j < nl by omega) (by omega)) ⟨vp_in_nI (by omega) (by decide), by decide, ?_⟩
          rw [nI_clamp (show j < 2 ^ 31 by omega), er, ed]
          refine ek_if (cd_own_iff hw how (show j < nl by omega) (show q / 4 ≤ nc by omega)) (fun z => ⟨by decide, ?_⟩) (fun z => nm_r (nI_1 j) (next (fun y => z ⟨y.2.1, by rw [een]; exact y.2.2.1⟩)))
          rw [een] at z
          have eix : nI j * 4 + nI (q % 4) = nI (j * 4 + q % 4) := by
            rw [show (4 : Int32) = nI 4 from rfl, pk_mul, nI_add]
          rw [eix]
          refine ⟨vp_in_nI (by omega) (by decide), ?_⟩
          have hY := cg_YL_lt (q := q) hw (show j < st nc by omega)
          rw [eg] at hY
          rw [nI_clamp (show j * 4 + q % 4 < 2 ^ 31 by omega), hgt j (q % 4) (by omega) (by omega), cg_YL_mod, xw_neg m hm]
          refine pk_eq (cg_YL nc st a_lSign a_lPred a_lA0 a_lA1 a_arity j q) (cm_neg m) (fun e => ⟨by decide, by decide, ?_⟩) (fun e => nm_r (nI_1 j) (next (fun y => e y.2.2.2.1)))
          refine ye_ext hw how eg h5 hgt hq4 hs (fun ok => br_f (by decide) ?_) (fun ok => br_t rfl (nm_r (nI_1 j) (next (fun y => ok y.2.2.2.2)))) (by omega)
          have e16 : nI q * 16 + nI j = nI (q * 16 + j) := by
            rw [show (16 : Int32) = nI 16 from rfl, pk_mul, nI_add]
          rw [e16]
          exact h1 q j ⟨hq4, z.1, z.2, e, ok⟩
      exact ⟨_, inner nl 0 (by omega) (fun j' hj' => absurd hj' (Nat.not_lt_zero j'))⟩
  exact ⟨_, key (4 * nc) 0 (by omega) (fun q' j' hq' => absurd hq' (Nat.not_lt_zero q'))⟩
theorem ye_eval {post : Int32 → Prop} {nc nl g : Nat} {st : Nat → Nat} (hw : cd_wf nc nl st a_lSign a_lPred a_lA0 a_lA1 a_arity) (how : cd_own nc nl st a_lOwner)
    (eg : cg_base a_lPred a_arity (st nc) (cg_oc a_lA0 a_lA1 0 (st nc) && cg_oc a_lA0 a_lA1 1 (st nc)) 4 = g) (h5 : g ≤ 5) (hgt : yn_gt nc st a_lSign a_lPred a_lA0 a_lA1 a_arity a_gtab) {m s : Nat} (hm : m < 2 * g) (hs : s < 243)
    (h1 : ye_ev nc st a_lSign a_lPred a_lA0 a_lA1 a_arity (ye_C a_cl) m s → post 1) (h0 : ¬ ye_ev nc st a_lSign a_lPred a_lA0 a_lA1 a_arity (ye_C a_cl) m s → post 0) :
    wpY_evalState post (nI nc, nI nl, f_kept, f_kN, f_bN, f_sealed, f_lastStep, f_cNodes, f_cSp, f_pNodes, f_pSp, a_lSign, a_lPred, a_lA0, a_lA1, a_lOwner, a_arity, a_kKind, a_kA, a_kB, a_kBind, a_bKind, a_bA, a_bB, a_bBind, a_cCopy, a_cLit, a_cPar, a_cStk, a_cl, a_gtab, a_pLit, a_pPar, a_pStk) (nI m) (nI s) := by
  have ed : nI m / 2 = nI (m / 2) := by
    rw [show (2 : Int32) = nI 2 from rfl, pk_div (by omega) (by omega) (by omega)]
  have er : nI m - nI m / 2 * 2 = nI (m % 2) := by
    rw [show (2 : Int32) = nI 2 from rfl, pk_rem (by omega) (by omega) (by omega)]
  have t3 : yt_d s (m / 2) < 3 := Nat.mod_lt _ (by omega)
  have e2 : (2 : Int32) - nI (m % 2) = nI (2 - m % 2) := by
    rw [show (2 : Int32) = nI 2 from rfl, pk_sub (by omega)]
  refine ⟨by decide, nm_r ed ?_⟩
  refine ye_trit (by omega) (by omega) ⟨by decide, ?_⟩
  rw [er, e2]
  refine pk_eq (yt_d s (m / 2)) (2 - m % 2) (fun t => h1 (Or.inl t)) (fun t => pk_eq (yt_d s (m / 2)) 0 (fun t0 => ⟨by decide, ?_⟩) (fun t0 => h0 (fun y => y.elim t (fun z => t0 z.1))))
  refine yu_pow3 (by omega) ?_
  have es : nI s + (nI (m % 2) + 1) * nI (3 ^ (m / 2)) = nI (s + (m % 2 + 1) * 3 ^ (m / 2)) := by
    rw [nI_1, pk_mul, nI_add]
  have hs2 := (yt_add hs (show m / 2 < 5 by omega) (b := 0) (by omega) (show m % 2 + 1 ≤ 2 by omega) t0).1
  refine nm_r es ?_
  refine ye_find hw how eg h5 hgt (by omega) hs2 (fun q j y => br_f (nI_pos ?_) (h1 (Or.inr ⟨t0, q, j, y⟩))) (fun y => br_t (by decide) (h0 (fun z => z.elim t (fun w => y w.2))))
  have hnc := hw.1
  have hnl := hw.2.1
  have hM := hw.2.2.2.2.1
  have hst := cd_mono' hw (c := q / 4 + 1) (d := nc) (by have := y.1; omega) (Nat.le_refl _)
  have := y.1
  have := y.2.2.1
  omega
end
end
section
/-! the seven passes -/
def ye_snd (nc g : Nat) (st : Nat → Nat) (sg pr a0 a1 ar a : Nat → Int32) : Prop :=
  ∀ m s, m < 10 → s < 243 → ye_C a m s → m < 2 * g ∧ s < 3 ^ g ∧ ye_ev nc st sg pr a0 a1 ar (ye_C a) m s
theorem ye_n1 : vp_nar .boolean 1 = 1 := by decide
theorem ye_n0 : vp_nar .boolean 0 = 0 := by decide
section
variable {f_clauseCount f_litCount f_kept f_kN f_bN f_sealed f_lastStep f_cNodes f_cSp f_pNodes f_pSp : Int32} {a_lSign a_lPred a_lA0 a_lA1 a_lOwner a_arity a_kKind a_kA a_kB a_kBind a_bKind a_bA a_bB a_bBind a_cCopy a_cLit a_cPar a_cStk a_cl a_gtab a_pLit a_pPar a_pStk : Nat → Int32}
theorem ye_pass {post : Int32 → SY → Prop} {J : Int32 → (Nat → Int32) → (Nat → Int32) → (Nat → Int32) → (Nat → Int32) → (Nat → Int32) → (Nat → Int32) → (Nat → Int32) → (Nat → Int32) → (Nat → Int32) → (Nat → Int32) → (Nat → Int32) → (Nat → Int32) → (Nat → Int32) → (Nat → Int32) → (Nat → Int32) → (Nat → Int32) → (Nat → Int32) → (Nat → Int32) → (Nat → Int32) → (Nat → Int32) → (Nat → Int32) → (Nat → Int32) → (Nat → Int32) → Prop}
    {nc nl g : Nat} {st : Nat → Nat} (hw : cd_wf nc nl st a_lSign a_lPred a_lA0 a_lA1 a_arity) (how : cd_own nc nl st a_lOwner)
    (eg : cg_base a_lPred a_arity (st nc) (cg_oc a_lA0 a_lA1 0 (st nc) && cg_oc a_lA0 a_lA1 1 (st nc)) 4 = g) (h5 : g ≤ 5) (hgt : yn_gt nc st a_lSign a_lPred a_lA0 a_lA1 a_arity a_gtab) {a0 : Nat → Int32} {x4 : Int32}
    (hJ : ∀ a : Nat → Int32, (∀ y, ¬ a0 y = 0 → ¬ a y = 0) → ye_snd nc g st a_lSign a_lPred a_lA0 a_lA1 a_arity a → (∀ m s, m < 2 * g → s < 3 ^ g → ye_ev nc st a_lSign a_lPred a_lA0 a_lA1 a_arity (ye_C a0) m s → ye_C a m s) → J (x4 + 1) a_lSign a_lPred a_lA0 a_lA1 a_lOwner a_arity a_kKind a_kA a_kB a_kBind a_bKind a_bA a_bB a_bBind a_cCopy a_cLit a_cPar a_cStk a a_gtab a_pLit a_pPar a_pStk) :
    ∀ d x : Nat, x + d = 2430 → ∀ a : Nat → Int32, (∀ y, ¬ a0 y = 0 → ¬ a y = 0) → ye_snd nc g st a_lSign a_lPred a_lA0 a_lA1 a_arity a →
      (∀ m s, m < 2 * g → s < 3 ^ g → m * 243 + s < x → ye_ev nc st a_lSign a_lPred a_lA0 a_lA1 a_arity (ye_C a0) m s → ye_C a m s) →
      wY_prove_135 post J (nI (2 * g)) (nI (3 ^ g)) x4 (nI nc) (nI nl) f_kept f_kN f_bN f_sealed f_lastStep f_cNodes f_cSp f_pNodes f_pSp (d + 1) (nI x) a_lSign a_lPred a_lA0 a_lA1 a_lOwner a_arity a_kKind a_kA a_kB a_kBind a_bKind a_bA a_bB a_bBind a_cCopy a_cLit a_cPar a_cStk a a_gtab a_pLit a_pPar a_pStk := by
  have p3 : 3 ^ g ≤ 243 := by
    have := Nat.pow_le_pow_right (n := 3) (by omega) h5
    have e : 3 ^ 5 = 243 := by decide
    omega
  intro d
  induction d with
  | zero =>
    intro x hx a hmono hsnd hprog
    have : x = 2430 := by omega
    subst this
    exact br_t (nI_le (a := 2430) (b := 2430) (Nat.le_refl _) (by decide)) (nm_e (hJ a hmono hsnd (fun m s hm hs he => hprog m s hm hs (by omega) he)))
  | succ d ih =>
    intro x hx a hmono hsnd hprog
    have hin : vp_in (nI x) 2430 := vp_in_nI (by omega) (by decide)
    have ed : nI x / 243 = nI (x / 243) := by
      rw [show (243 : Int32) = nI 243 from rfl, pk_div (by omega) (by omega) (by omega)]
    have er : nI x - nI x / 243 * 243 = nI (x % 243) := by
      rw [show (243 : Int32) = nI 243 from rfl, pk_rem (by omega) (by omega) (by omega)]
    have exd : x / 243 * 243 + x % 243 = x := by omega
    have same : (x / 243 < 2 * g → x % 243 < 3 ^ g → ye_ev nc st a_lSign a_lPred a_lA0 a_lA1 a_arity (ye_C a0) (x / 243) (x % 243) → ye_C a (x / 243) (x % 243)) →
        wY_prove_135 post J (nI (2 * g)) (nI (3 ^ g)) x4 (nI nc) (nI nl) f_kept f_kN f_bN f_sealed f_lastStep f_cNodes f_cSp f_pNodes f_pSp (d + 1) (nI (x + 1)) a_lSign a_lPred a_lA0 a_lA1 a_lOwner a_arity a_kKind a_kA a_kB a_kBind a_bKind a_bA a_bB a_bBind a_cCopy a_cLit a_cPar a_cStk a a_gtab a_pLit a_pPar a_pStk := by
      intro hh
      refine ih (x + 1) (by omega) a hmono hsnd (fun m s hm hs hlt he => ?_)
      by_cases e : m * 243 + s = x
      · have e1 : x / 243 = m := by omega
        have e2 : x % 243 = s := by omega
        rw [e1, e2] at hh
        exact hh hm hs he
      · exact hprog m s hm hs (by omega) he
    refine br_f (nI_ge (b := 2430) (by omega) (by decide)) ⟨hin, ?_⟩
    rw [nI_clamp (show x < 2 ^ 31 by omega)]
    refine br_c (fun z => ⟨by decide, ?_⟩) (fun z => nm_r (nI_1 x) (same (fun _ _ _ => by unfold ye_C; rw [exd]; exact z)))
    rw [er, ed]
    refine pk_le (2 * g) (x / 243) (fun y => nm_r (nI_1 x) (same (fun y1 => by omega))) (fun y => ⟨by decide, ?_⟩)
    refine pk_le (3 ^ g) (x % 243) (fun y2 => nm_r (nI_1 x) (same (fun _ y1 => by omega))) (fun y2 => ⟨by decide, by decide, ?_⟩) rfl rfl (by omega) (by omega)
    refine ye_eval hw how eg h5 hgt y (by omega) (fun hev => br_f (by decide) ⟨hin, ?_⟩) (fun hev => br_t rfl (nm_r (nI_1 x) (same (fun _ _ y3 => absurd (ye_ev_mono (fun m s hC => hmono _ hC) y3) hev))))
    rw [ye_n1]
    refine nm_e (nm_r (nI_1 x) (ih (x + 1) (by omega) _ (fun y0 hy0 => ?_) (fun m s hm hs hC => ?_) (fun m s hm hs hlt he => ?_)))
    · by_cases e : y0 = x
      · rw [e, pk_us]
        decide
      · rw [pk_un e]
        exact hmono y0 hy0
    · have up : ∀ m s, ye_C a m s → ye_C (upd a x 1) m s := by
        intro m s hC
        unfold ye_C at hC ⊢
        by_cases e : m * 243 + s = x
        · rw [e, pk_us]
          decide
        · rw [pk_un e]
          exact hC
      by_cases e : m * 243 + s = x
      · have e1 : x / 243 = m := by omega
        have e2 : x % 243 = s := by omega
        rw [e1, e2] at hev
        exact ⟨by omega, by omega, ye_ev_mono up hev⟩
      · unfold ye_C at hC
        rw [pk_un e] at hC
        obtain ⟨z1, z2, z3⟩ := hsnd m s hm hs hC
        exact ⟨z1, z2, ye_ev_mono up z3⟩
    · unfold ye_C
      by_cases e : m * 243 + s = x
      · rw [e, pk_us]
        decide
      · rw [pk_un e]
        exact hprog m s hm hs (by omega) he
end
end
section
/-! Y's writer: copy j is the ground clause q j; nodes as goals -/
def yb_F (nc : Nat) (st : Nat → Nat) (sg pr a0 a1 ar : Nat → Int32) (q : Nat → Nat) (e : Nat × Nat) : Nat := cg_YL nc st sg pr a0 a1 ar e.2 (q e.1)
def yb_nd (pL pP : Nat → Int32) (F : Nat × Nat → Nat) : List (Nat × Nat) → Nat → Nat × Nat → Prop
  | [], g, e => pL g = nI (F e) ∧ pP g = -1
  | e' :: p, g, e => pL g = nI (F e) ∧ ∃ g', g' < g ∧ pP g = nI g' ∧ yb_nd pL pP F p g' e'
theorem yb_nd_hd {pL pP : Nat → Int32} {F : Nat × Nat → Nat} : ∀ {p : List (Nat × Nat)} {g : Nat} {e : Nat × Nat}, yb_nd pL pP F p g e → pL g = nI (F e)
  | [], _, _, h => h.1
  | _ :: _, _, _, h => h.1
theorem yb_nd_len {pL pP : Nat → Int32} {F : Nat × Nat → Nat} : ∀ {p : List (Nat × Nat)} {g : Nat} {e : Nat × Nat}, yb_nd pL pP F p g e → p.length ≤ g
  | [], _, _, _ => Nat.zero_le _
  | e' :: p, g, _, h => by
    obtain ⟨_, g', h1, _, h2⟩ := h
    have := yb_nd_len h2
    rw [List.length_cons]
    omega
theorem yb_nd_fr {pL pP pL' pP' : Nat → Int32} {F F' : Nat × Nat → Nat} {N : Nat} (hf : ∀ j, j < N → pL' j = pL j ∧ pP' j = pP j) : ∀ {p : List (Nat × Nat)} {g : Nat} {e : Nat × Nat}, g < N → F' e = F e → (∀ x, x ∈ p → F' x = F x) → yb_nd pL pP F p g e → yb_nd pL' pP' F' p g e
  | [], g, e, hg, hF, _, h => by
    obtain ⟨f1, f2⟩ := hf g hg
    exact ⟨by rw [f1, hF]; exact h.1, by rw [f2]; exact h.2⟩
  | e' :: p, g, e, hg, hF, hp, h => by
    obtain ⟨f1, f2⟩ := hf g hg
    obtain ⟨h0, g', h1, h2, h3⟩ := h
    exact ⟨by rw [f1, hF]; exact h0, g', h1, by rw [f2]; exact h2, yb_nd_fr hf (by omega) (hp e' List.mem_cons_self) (fun x hx => hp x (List.mem_cons_of_mem e' hx)) h3⟩
def yb_goal (nc : Nat) (st : Nat → Nat) (sg pr a0 a1 ar : Nat → Int32) (q : Nat → Nat) (kK : Nat → Int32) (C : Nat → Nat → Prop) (m : Nat) (g : ck_G) : Prop :=
  g.1 < m ∧ ¬ kK g.1 = 2 ∧ xw_in st q (g.1, g.2.1) ∧ (∀ e, e ∈ g.2.2 → e.1 < m ∧ ¬ kK e.1 = 2 ∧ xw_in st q e) ∧ cm_ok (g.2.2.map (yb_F nc st sg pr a0 a1 ar q)) ∧
  yb_F nc st sg pr a0 a1 ar q (g.1, g.2.1) ∉ g.2.2.map (yb_F nc st sg pr a0 a1 ar q) ∧
  (cm_neg (yb_F nc st sg pr a0 a1 ar q (g.1, g.2.1)) ∉ g.2.2.map (yb_F nc st sg pr a0 a1 ar q) → C (yb_F nc st sg pr a0 a1 ar q (g.1, g.2.1)) (yp_s (g.2.2.map (yb_F nc st sg pr a0 a1 ar q))))
def yb_stk (nc : Nat) (st : Nat → Nat) (sg pr a0 a1 ar : Nat → Int32) (q : Nat → Nat) (kK : Nat → Int32) (C : Nat → Nat → Prop) (pL pP pS : Nat → Int32) (m N : Nat) : List ck_G → Prop
  | [] => True
  | g :: R => (∃ d, d < N ∧ pS R.length = nI d ∧ yb_nd pL pP (yb_F nc st sg pr a0 a1 ar q) g.2.2 d (g.1, g.2.1)) ∧ yb_goal nc st sg pr a0 a1 ar q kK C m g ∧ yb_stk nc st sg pr a0 a1 ar q kK C pL pP pS m N R
theorem yb_goal_fr {nc : Nat} {st q q' : Nat → Nat} {sg pr a0 a1 ar kK kK' : Nat → Int32} {C : Nat → Nat → Prop} {m m' : Nat} (hm : m ≤ m') (hf : ∀ j, j < m → q' j = q j ∧ kK' j = kK j) {g : ck_G}
    (h : yb_goal nc st sg pr a0 a1 ar q kK C m g) : yb_goal nc st sg pr a0 a1 ar q' kK' C m' g := by
  obtain ⟨h1, h2, h3, h4, h5, h6, h7⟩ := h
  obtain ⟨f1, f2⟩ := hf g.1 h1
  have em : g.2.2.map (yb_F nc st sg pr a0 a1 ar q') = g.2.2.map (yb_F nc st sg pr a0 a1 ar q) := by
    apply List.map_congr_left
    intro e he
    unfold yb_F
    rw [(hf e.1 (h4 e he).1).1]
  have ef : yb_F nc st sg pr a0 a1 ar q' (g.1, g.2.1) = yb_F nc st sg pr a0 a1 ar q (g.1, g.2.1) := by
    unfold yb_F
    try dsimp only
    rw [f1]
  unfold yb_goal
  rw [em, ef, f2]
  refine ⟨by omega, h2, ?_, fun e he => ?_, h5, h6, h7⟩
  · unfold xw_in at h3 ⊢
    try dsimp only at h3 ⊢
    rw [f1]
    exact h3
  · obtain ⟨y1, y2, y3⟩ := h4 e he
    obtain ⟨f3, f4⟩ := hf e.1 y1
    refine ⟨by omega, by rw [f4]; exact y2, ?_⟩
    unfold xw_in at y3 ⊢
    rw [f3]
    exact y3
theorem yb_stk_fr {nc : Nat} {st q q' : Nat → Nat} {sg pr a0 a1 ar kK kK' : Nat → Int32} {C : Nat → Nat → Prop} {pL pP pS pL' pP' pS' : Nat → Int32} {m m' N N' : Nat} (hm : m ≤ m') (hN : N ≤ N') (hf : ∀ j, j < m → q' j = q j ∧ kK' j = kK j)
    (hp : ∀ j, j < N → pL' j = pL j ∧ pP' j = pP j) : ∀ {L : List ck_G}, (∀ j, j < L.length → pS' j = pS j) → yb_stk nc st sg pr a0 a1 ar q kK C pL pP pS m N L → yb_stk nc st sg pr a0 a1 ar q' kK' C pL' pP' pS' m' N' L
  | [], _, _ => trivial
  | g :: R, hs, h => by
    obtain ⟨⟨d, h1, h2, h3⟩, h4, h5⟩ := h
    have fF : ∀ e : Nat × Nat, e.1 < m → yb_F nc st sg pr a0 a1 ar q' e = yb_F nc st sg pr a0 a1 ar q e := by
      intro e he
      unfold yb_F
      rw [(hf e.1 he).1]
    refine ⟨⟨d, by omega, ?_, yb_nd_fr hp h1 (fF _ h4.1) (fun x hx => fF x (h4.2.2.2.1 x hx).1) h3⟩, yb_goal_fr hm hf h4, yb_stk_fr hm hN hf hp (fun j hj => hs j (by rw [List.length_cons]; omega)) h5⟩
    rw [hs R.length (by rw [List.length_cons]; omega)]
    exact h2
def yb_rep (pL pP pS : Nat → Int32) (F : Nat → Nat) (x4 : Int32) (N S : Nat) : List Nat → Prop
  | [] => True
  | l :: ls => pL (N + ls.length) = nI (F l) ∧ pP (N + ls.length) = x4 ∧ pS (S + ls.length) = nI (N + ls.length) ∧ yb_rep pL pP pS F x4 N S ls
theorem yb_rep_fr {pL pP pS pL' pP' pS' : Nat → Int32} {F : Nat → Nat} {x4 : Int32} {N S : Nat} : ∀ {ls : List Nat}, (∀ j, j < N + ls.length → pL' j = pL j ∧ pP' j = pP j) → (∀ j, j < S + ls.length → pS' j = pS j) →
    yb_rep pL pP pS F x4 N S ls → yb_rep pL' pP' pS' F x4 N S ls
  | [], _, _, _ => trivial
  | l :: ls, ho, hs, h => by
    obtain ⟨o1, o2⟩ := ho (N + ls.length) (by rw [List.length_cons]; omega)
    have o4 := hs (S + ls.length) (by rw [List.length_cons]; omega)
    obtain ⟨h1, h2, h3, h5⟩ := h
    exact ⟨by rw [o1]; exact h1, by rw [o2]; exact h2, by rw [o4]; exact h3, yb_rep_fr (fun j hj => ho j (by rw [List.length_cons]; omega)) (fun j hj => hs j (by rw [List.length_cons]; omega)) h5⟩
theorem yb_stk_app {nc : Nat} {st q : Nat → Nat} {sg pr a0 a1 ar kK : Nat → Int32} {C : Nat → Nat → Prop} {pL pP pS : Nat → Int32} {m N N' copy : Nat} {x4 : Int32} {p : List (Nat × Nat)} {R : List ck_G}
    (hpar : ∀ d, N ≤ d → ∀ l, pL d = nI (yb_F nc st sg pr a0 a1 ar q (copy, l)) → pP d = x4 → yb_nd pL pP (yb_F nc st sg pr a0 a1 ar q) p d (copy, l)) (hR : yb_stk nc st sg pr a0 a1 ar q kK C pL pP pS m N' R) :
    ∀ {ls : List Nat}, N + ls.length ≤ N' → (∀ l, l ∈ ls → yb_goal nc st sg pr a0 a1 ar q kK C m (copy, l, p)) → yb_rep pL pP pS (fun l => yb_F nc st sg pr a0 a1 ar q (copy, l)) x4 N R.length ls →
      yb_stk nc st sg pr a0 a1 ar q kK C pL pP pS m N' (ls.map (fun l => (copy, l, p)) ++ R)
  | [], _, _, _ => hR
  | l :: ls, hN, hg, hr => by
    rw [List.length_cons] at hN
    have e : (ls.map (fun l => ((copy, l, p) : ck_G)) ++ R).length = R.length + ls.length := by
      rw [List.length_append, List.length_map]; omega
    obtain ⟨r1, r2, r3, r4⟩ := hr
    refine ⟨⟨N + ls.length, by omega, ?_, hpar _ (by omega) l r1 r2⟩, hg l List.mem_cons_self, yb_stk_app hpar hR (by omega) (fun l' h' => hg l' (List.mem_cons_of_mem l h')) r4⟩
    show pS (ls.map (fun l => ((copy, l, p) : ck_G)) ++ R).length = nI (N + ls.length)
    rw [e]
    exact r3
section
variable {f_clauseCount f_litCount f_kept f_kN f_bN f_sealed f_lastStep f_cNodes f_cSp f_pNodes f_pSp : Int32} {a_lSign a_lPred a_lA0 a_lA1 a_lOwner a_arity a_kKind a_kA a_kB a_kBind a_bKind a_bA a_bB a_bBind a_cCopy a_cLit a_cPar a_cStk a_cl a_gtab a_pLit a_pPar a_pStk : Nat → Int32}
theorem yb_push {post : Int32 → SY → Prop} {nc nl : Nat} {st : Nat → Nat} (hw : cd_wf nc nl st a_lSign a_lPred a_lA0 a_lA1 a_arity) (how : cd_own nc nl st a_lOwner) (hgt : yn_gt nc st a_lSign a_lPred a_lA0 a_lA1 a_arity a_gtab)
    {q N S sk : Nat} {x4 skI : Int32} (hq : q < 4 * nc) (hsk : ∀ j, j < nl → (nI j = skI ↔ j = sk)) (rN : N + (xg_ls sk (st (q / 4 + 1) - st (q / 4)) (st (q / 4))).length ≤ 256) (rS : S + (xg_ls sk (st (q / 4 + 1) - st (q / 4)) (st (q / 4))).length ≤ 256)
    (h : ∀ pL pP pS : Nat → Int32, (∀ j, j < N → pL j = a_pLit j ∧ pP j = a_pPar j) → (∀ j, j < S → pS j = a_pStk j) → yb_rep pL pP pS (fun l => cg_YL nc st a_lSign a_lPred a_lA0 a_lA1 a_arity l q) x4 N S (xg_ls sk (st (q / 4 + 1) - st (q / 4)) (st (q / 4))) →
      post 1 (nI nc, nI nl, f_kept, f_kN, f_bN, f_sealed, f_lastStep, f_cNodes, f_cSp, nI (N + (xg_ls sk (st (q / 4 + 1) - st (q / 4)) (st (q / 4))).length), nI (S + (xg_ls sk (st (q / 4 + 1) - st (q / 4)) (st (q / 4))).length), a_lSign, a_lPred, a_lA0, a_lA1, a_lOwner, a_arity, a_kKind, a_kA, a_kB, a_kBind, a_bKind, a_bA, a_bB, a_bBind, a_cCopy, a_cLit, a_cPar, a_cStk, a_cl, a_gtab, pL, pP, pS)) :
    wpY_pushP post (nI nc, nI nl, f_kept, f_kN, f_bN, f_sealed, f_lastStep, f_cNodes, f_cSp, nI N, nI S, a_lSign, a_lPred, a_lA0, a_lA1, a_lOwner, a_arity, a_kKind, a_kA, a_kB, a_kBind, a_bKind, a_bA, a_bB, a_bBind, a_cCopy, a_cLit, a_cPar, a_cStk, a_cl, a_gtab, a_pLit, a_pPar, a_pStk) (nI (q / 4)) (nI (q % 4)) skI x4 := by
  have hnc := hw.1
  have hM := hw.2.2.2.2.1
  have hnl := hw.2.1
  have hc : q / 4 < nc := by omega
  have een : cd_en nc nl st (q / 4) = st (q / 4 + 1) := cd_en_lt hc
  obtain ⟨b1, b2, b3⟩ := cd_en_bd hw (show q / 4 ≤ nc by omega)
  rw [een] at b1 b2 b3
  have hst := cd_mono' hw (c := q / 4 + 1) (d := nc) (by omega) (Nat.le_refl _)
  have key : ∀ k, k ≤ nl → ∀ (pL pP pS : Nat → Int32), (∀ j, j < N → pL j = a_pLit j ∧ pP j = a_pPar j) → (∀ j, j < S → pS j = a_pStk j) →
      yb_rep pL pP pS (fun l => cg_YL nc st a_lSign a_lPred a_lA0 a_lA1 a_arity l q) x4 N S (yg_l sk (st (q / 4)) (st (q / 4 + 1)) k) →
      wY_pushP_8 post (nI (q / 4)) (nI (q % 4)) skI x4 (nI nc) (nI nl) f_kept f_kN f_bN f_sealed f_lastStep f_cNodes f_cSp (k + 1) (nI k + (-1)) (nI (N + (yg_l sk (st (q / 4)) (st (q / 4 + 1)) k).length)) (nI (S + (yg_l sk (st (q / 4)) (st (q / 4 + 1)) k).length)) a_lSign a_lPred a_lA0 a_lA1 a_lOwner a_arity a_kKind a_kA a_kB a_kBind a_bKind a_bA a_bB a_bBind a_cCopy a_cLit a_cPar a_cStk a_cl a_gtab pL pP pS := by
    intro k
    induction k with
    | zero =>
      intro _ pL pP pS hag hs hrep
      rw [yg_l_0] at hrep ⊢
      exact br_t (by decide) (h pL pP pS hag hs hrep)
    | succ k ih =>
      intro hk pL pP pS hag hs hrep
      rw [pk_m1]
      have ih2 := ih (by omega)
      refine br_f (nI_pos (by omega)) ⟨vp_in_nI (by omega) (by decide), ?_⟩
      rw [nI_clamp (show k < 2 ^ 31 by omega)]
      have oi := cd_own_iff hw how (show k < nl by omega) (show q / 4 ≤ nc by omega)
      rw [een] at oi
      refine ek_if oi (fun z => ?_) (fun z => nm_e ?_)
      · rw [yg_l_in z.1 z.2] at ih2
        refine ek_if (hsk k (by omega)) (fun e => nm_e ?_) (fun e => ?_)
        · rw [if_pos e] at ih2
          exact ih2 pL pP pS hag hs hrep
        · rw [if_neg e] at ih2
          have hsuf := yg_l_suf (sk := sk) b1 k
          rw [yg_l_in z.1 z.2, if_neg e, List.length_cons] at hsuf
          have inN : vp_in (nI (N + (yg_l sk (st (q / 4)) (st (q / 4 + 1)) (k + 1)).length)) 256 := vp_in_nI (by omega) (by decide)
          have inS : vp_in (nI (S + (yg_l sk (st (q / 4)) (st (q / 4 + 1)) (k + 1)).length)) 256 := vp_in_nI (by omega) (by decide)
          have eix : nI k * 4 + nI (q % 4) = nI (k * 4 + q % 4) := by
            rw [show (4 : Int32) = nI 4 from rfl, pk_mul, nI_add]
          refine br_f (nI_ge (b := 256) (by omega) (by decide)) (br_t (nI_lt (b := 256) (by omega) (by decide)) ?_)
          rw [eix, nI_clamp (show k * 4 + q % 4 < 2 ^ 31 by omega), hgt k (q % 4) (by omega) (by omega), cg_YL_mod]
          rw [nI_clamp (show N + (yg_l sk (st (q / 4)) (st (q / 4 + 1)) (k + 1)).length < 2 ^ 31 by omega), nI_clamp (show S + (yg_l sk (st (q / 4)) (st (q / 4 + 1)) (k + 1)).length < 2 ^ 31 by omega)]
          refine ⟨vp_in_nI (by omega) (by decide), inN, nm_e ⟨inN, nm_e ⟨inS, nm_e (nm_r (nI_1 _) (nm_r (nI_1 _) (nm_e ?_)))⟩⟩⟩
          refine ih2 _ _ _ (fun j hj => ?_) (fun j hj => ?_) ⟨pk_us, pk_us, pk_us, yb_rep_fr (fun j hj => ?_) (fun j hj => ?_) hrep⟩
          · rw [pk_un (by omega), pk_un (by omega)]
            exact hag j hj
          · rw [pk_un (by omega)]
            exact hs j hj
          · rw [pk_un (by omega), pk_un (by omega)]
            exact ⟨rfl, rfl⟩
          · rw [pk_un (by omega)]
      · rw [yg_l_out b1 z] at ih2
        exact ih2 pL pP pS hag hs hrep
  have k0 := key nl (Nat.le_refl _) a_pLit a_pPar a_pStk (fun _ _ => ⟨rfl, rfl⟩) (fun _ _ => rfl) (by rw [yg_l_top b1 b3]; trivial)
  rw [yg_l_top b1 b3] at k0
  exact nm_r (Int32.sub_eq_add_neg _ _) ⟨_, k0⟩
theorem yb_path {post : Int32 → Prop} {F : Nat × Nat → Nat} : ∀ (p : List (Nat × Nat)) (g : Nat) (e : Nat × Nat) (acc t : Nat), yb_nd a_pLit a_pPar F p g e → g < 256 → t + p.length ≤ 256 → (∀ x, x ∈ p → F x < 10) → post (nI (acc + yp_s (p.map F))) →
    wY_pathState_12 post f_clauseCount f_litCount f_kept f_kN f_bN f_sealed f_lastStep f_cNodes f_cSp f_pNodes f_pSp a_lSign a_lPred a_lA0 a_lA1 a_lOwner a_arity a_kKind a_kA a_kB a_kBind a_bKind a_bA a_bB a_bBind a_cCopy a_cLit a_cPar a_cStk a_cl a_gtab a_pLit a_pPar a_pStk (p.length + 1) (nI acc) (a_pPar g) (nI t)
  | [], g, e, acc, t, h, hg, ht, _, hp => by
    rw [h.2]
    exact br_c (fun _ => hp) (fun _ => br_t (by decide) hp)
  | e' :: p, g, e, acc, t, h, hg, ht, hF, hp => by
    obtain ⟨_, g', h1, h2, h3⟩ := h
    have hd := yb_nd_hd h3
    have hF' := hF e' List.mem_cons_self
    rw [List.length_cons] at ht
    have hin : vp_in (nI g') 256 := vp_in_nI (by omega) (by decide)
    have ed : nI (F e') / 2 = nI (F e' / 2) := by
      rw [show (2 : Int32) = nI 2 from rfl, pk_div (by omega) (by omega) (by omega)]
    have er : nI (F e') - nI (F e') / 2 * 2 = nI (F e' % 2) := by
      rw [show (2 : Int32) = nI 2 from rfl, pk_rem (by omega) (by omega) (by omega)]
    rw [h2]
    refine br_f (nI_ge (b := 256) (by omega) (by decide)) (br_f (nI_pos (by omega)) ⟨hin, by decide, hin, by decide, ?_⟩)
    rw [nI_clamp (show g' < 2 ^ 31 by omega), hd, er, ed, nI_1]
    refine yu_pow3 (by omega) ?_
    rw [pk_mul, nI_add]
    refine nm_e ⟨hin, nm_e (nm_r (nI_1 t) ?_)⟩
    refine yb_path p g' e' _ (t + 1) h3 (by omega) (by omega) (fun x hx => hF x (List.mem_cons_of_mem e' hx)) ?_
    rw [List.map_cons, yp_s] at hp
    have ee : acc + (F e' % 2 + 1) * 3 ^ (F e' / 2) + yp_s (p.map F) = acc + (yp_s (p.map F) + (F e' % 2 + 1) * 3 ^ (F e' / 2)) := by omega
    rw [ee]
    exact hp
theorem yb_up {post : Int32 → Prop} {F : Nat × Nat → Nat} {T D : Nat} (hT : T < 10) (hD : D ≤ 256) : ∀ (p : List (Nat × Nat)) (g : Nat) (e : Nat × Nat) (up : Nat), yb_nd a_pLit a_pPar F p g e → g < 256 → up + p.length = D + 1 → 1 ≤ up → (∀ x, x ∈ p → F x < 10) →
    (∀ n, n < p.length → F (p.getD n (0, 0)) = T → post (nI (D - up - n))) → (∃ x, x ∈ p ∧ F x = T) → wY_redIndex_55 post (nI T) (nI D) f_clauseCount f_litCount f_kept f_kN f_bN f_sealed f_lastStep f_cNodes f_cSp f_pNodes f_pSp a_lSign a_lPred a_lA0 a_lA1 a_lOwner a_arity a_kKind a_kA a_kB a_kBind a_bKind a_bA a_bB a_bBind a_cCopy a_cLit a_cPar a_cStk a_cl a_gtab a_pLit a_pPar a_pStk (p.length + 1) (a_pPar g) (nI up)
  | [], _, _, _, _, _, _, _, _, _, hex => by
    obtain ⟨x, hx, _⟩ := hex
    cases hx
  | e' :: p, g, e, up, h, hg, hup, h1u, hF, hp, hex => by
    obtain ⟨_, g', h1, h2, h3⟩ := h
    have hd := yb_nd_hd h3
    have hF' := hF e' List.mem_cons_self
    rw [List.length_cons] at hup
    have hin : vp_in (nI g') 256 := vp_in_nI (by omega) (by decide)
    rw [h2]
    refine br_f (nI_nlt (a := 256) (by omega) (by omega)) (br_f (nI_pos (by omega)) ⟨hin, ?_⟩)
    rw [nI_clamp (show g' < 2 ^ 31 by omega), hd]
    refine pk_eq (F e') T (fun z => ?_) (fun z => ⟨hin, nm_e (nm_r (nI_1 up) ?_)⟩)
    · have := hp 0 (by rw [List.length_cons]; omega) z
      rw [pk_sub (by omega)]
      exact this
    · refine yb_up hT hD p g' e' (up + 1) h3 (by omega) (by omega) (by omega) (fun x hx => hF x (List.mem_cons_of_mem e' hx)) (fun n hn hz => ?_) ?_
      · have := hp (n + 1) (by rw [List.length_cons]; omega) (by rw [List.getD_cons_succ]; exact hz)
        have ee : D - up - (n + 1) = D - (up + 1) - n := by omega
        rw [ee] at this
        exact this
      · obtain ⟨x, hx, hxT⟩ := hex
        rcases List.mem_cons.mp hx with y | y
        · rw [y] at hxT
          exact absurd hxT z
        · exact ⟨x, y, hxT⟩
theorem yb_depth {post : Int32 → Prop} {F : Nat × Nat → Nat} {x1 x2 : Int32} : ∀ (p : List (Nat × Nat)) (g : Nat) (e : Nat × Nat) (d t : Nat), yb_nd a_pLit a_pPar F p g e → g < 256 → t + p.length ≤ 256 →
    (vp_in x1 256 ∧ (∀ x4_5 : Int32, x4_5 = a_pPar x1.toNatClampNeg → (∃ n55 : Nat, wY_redIndex_55 post x2 (nI (d + p.length)) f_clauseCount f_litCount f_kept f_kN f_bN f_sealed f_lastStep f_cNodes f_cSp f_pNodes f_pSp a_lSign a_lPred a_lA0 a_lA1 a_lOwner a_arity a_kKind a_kA a_kB a_kBind a_bKind a_bA a_bB a_bBind a_cCopy a_cLit a_cPar a_cStk a_cl a_gtab a_pLit a_pPar a_pStk n55 x4_5 1))) → wY_redIndex_13 post x1 x2 f_clauseCount f_litCount f_kept f_kN f_bN f_sealed f_lastStep f_cNodes f_cSp f_pNodes f_pSp a_lSign a_lPred a_lA0 a_lA1 a_lOwner a_arity a_kKind a_kA a_kB a_kBind a_bKind a_bA a_bB a_bBind a_cCopy a_cLit a_cPar a_cStk a_cl a_gtab a_pLit a_pPar a_pStk (p.length + 1) (nI d) (a_pPar g) (nI t)
  | [], g, e, d, t, h, hg, ht, hp => by
    rw [h.2]
    exact br_c (fun _ => hp) (fun _ => br_t (by decide) hp)
  | e' :: p, g, e, d, t, h, hg, ht, hp => by
    obtain ⟨_, g', h1, h2, h3⟩ := h
    rw [List.length_cons] at ht hp
    rw [h2]
    refine br_f (nI_ge (b := 256) (by omega) (by decide)) (br_f (nI_pos (by omega)) (nm_r (nI_1 d) ⟨vp_in_nI (by omega) (by decide), ?_⟩))
    rw [nI_clamp (show g' < 2 ^ 31 by omega)]
    refine nm_e (nm_r (nI_1 t) ?_)
    refine yb_depth p g' e' (d + 1) (t + 1) h3 (by omega) (by omega) ?_
    have ee : d + 1 + p.length = d + (p.length + 1) := by omega
    rw [ee]
    exact hp
theorem yb_red {post : Int32 → Prop} {F : Nat × Nat → Nat} {T : Nat} (hT : T < 10) {p : List (Nat × Nat)} {g : Nat} {e : Nat × Nat} (h : yb_nd a_pLit a_pPar F p g e) (hg : g < 256) (hF : ∀ x, x ∈ p → F x < 10)
    (hp : ∀ n, n < p.length → F (p.getD n (0, 0)) = T → post (nI (p.length - 1 - n))) (hex : ∃ x, x ∈ p ∧ F x = T) : wpY_redIndex post (f_clauseCount, f_litCount, f_kept, f_kN, f_bN, f_sealed, f_lastStep, f_cNodes, f_cSp, f_pNodes, f_pSp, a_lSign, a_lPred, a_lA0, a_lA1, a_lOwner, a_arity, a_kKind, a_kA, a_kB, a_kBind, a_bKind, a_bA, a_bB, a_bBind, a_cCopy, a_cLit, a_cPar, a_cStk, a_cl, a_gtab, a_pLit, a_pPar, a_pStk) (nI g) (nI T) := by
  have hlen := yb_nd_len h
  refine ⟨vp_in_nI hg (by decide), ?_⟩
  rw [nI_clamp (show g < 2 ^ 31 by omega)]
  refine nm_e ⟨_, yb_depth p g e 0 0 h hg (by omega) ⟨vp_in_nI hg (by decide), ?_⟩⟩
  rw [nI_clamp (show g < 2 ^ 31 by omega), Nat.zero_add]
  refine nm_e ⟨_, yb_up hT (by omega) p g e 1 h hg (by omega) (by omega) hF hp hex⟩
theorem yb_start {post : Int32 → Prop} {nc nl g : Nat} {st : Nat → Nat} (hw : cd_wf nc nl st a_lSign a_lPred a_lA0 a_lA1 a_arity) (how : cd_own nc nl st a_lOwner)
    (eg : cg_base a_lPred a_arity (st nc) (cg_oc a_lA0 a_lA1 0 (st nc) && cg_oc a_lA0 a_lA1 1 (st nc)) 4 = g) (h5 : g ≤ 5) (hgt : yn_gt nc st a_lSign a_lPred a_lA0 a_lA1 a_arity a_gtab) {q : Nat} (hq : q < 4 * nc)
    (h1 : (∀ j, st (q / 4) ≤ j → j < st (q / 4 + 1) → ye_C a_cl (cg_YL nc st a_lSign a_lPred a_lA0 a_lA1 a_arity j q) 0) → post 1) (h0 : ¬ (∀ j, st (q / 4) ≤ j → j < st (q / 4 + 1) → ye_C a_cl (cg_YL nc st a_lSign a_lPred a_lA0 a_lA1 a_arity j q) 0) → post 0) :
    wpY_startOk post (nI nc, nI nl, f_kept, f_kN, f_bN, f_sealed, f_lastStep, f_cNodes, f_cSp, f_pNodes, f_pSp, a_lSign, a_lPred, a_lA0, a_lA1, a_lOwner, a_arity, a_kKind, a_kA, a_kB, a_kBind, a_bKind, a_bA, a_bB, a_bBind, a_cCopy, a_cLit, a_cPar, a_cStk, a_cl, a_gtab, a_pLit, a_pPar, a_pStk) (nI (q / 4)) (nI (q % 4)) := by
  have hnc := hw.1
  have hM := hw.2.2.2.2.1
  have hnl := hw.2.1
  have hc : q / 4 < nc := by omega
  have een : cd_en nc nl st (q / 4) = st (q / 4 + 1) := cd_en_lt hc
  obtain ⟨b1, b2, b3⟩ := cd_en_bd hw (show q / 4 ≤ nc by omega)
  rw [een] at b1 b2 b3
  have hst := cd_mono' hw (c := q / 4 + 1) (d := nc) (by omega) (Nat.le_refl _)
  have key : ∀ d j : Nat, j + d = nl → (∀ j', j' < j → st (q / 4) ≤ j' → j' < st (q / 4 + 1) → ye_C a_cl (cg_YL nc st a_lSign a_lPred a_lA0 a_lA1 a_arity j' q) 0) → wY_startOk_2 post (nI (q / 4)) (nI (q % 4)) (nI nc) (nI nl) f_kept f_kN f_bN f_sealed f_lastStep f_cNodes f_cSp f_pNodes f_pSp a_lSign a_lPred a_lA0 a_lA1 a_lOwner a_arity a_kKind a_kA a_kB a_kBind a_bKind a_bA a_bB a_bBind a_cCopy a_cLit a_cPar a_cStk a_cl a_gtab a_pLit a_pPar a_pStk (d + 1) (nI j) := by
    intro d
    induction d with
    | zero =>
      intro j hj hall
      exact br_t (nI_le (by omega) (by omega)) (h1 (fun j' y1 y2 => hall j' (by omega) y1 y2))
    | succ d ih =>
      intro j hj hall
      refine br_f (nI_ge (show j < nl by omega) (by omega)) ⟨vp_in_nI (by omega) (by decide), ?_⟩
      rw [nI_clamp (show j < 2 ^ 31 by omega)]
      have oi := cd_own_iff hw how (show j < nl by omega) (show q / 4 ≤ nc by omega)
      rw [een] at oi
      refine ek_if oi (fun z => ?_) (fun z => nm_r (nI_1 j) (ih (j + 1) (by omega) (fun j' hj' y1 y2 => ?_)))
      · have eix : nI j * 4 + nI (q % 4) = nI (j * 4 + q % 4) := by
          rw [show (4 : Int32) = nI 4 from rfl, pk_mul, nI_add]
        have hY := cg_YL_lt (q := q) hw (show j < st nc by omega)
        rw [eg] at hY
        rw [eix]
        refine ⟨vp_in_nI (by omega) (by decide), ?_⟩
        rw [nI_clamp (show j * 4 + q % 4 < 2 ^ 31 by omega), hgt j (q % 4) (by omega) (by omega), cg_YL_mod]
        have eK : nI (cg_YL nc st a_lSign a_lPred a_lA0 a_lA1 a_arity j q) * 243 = nI (cg_YL nc st a_lSign a_lPred a_lA0 a_lA1 a_arity j q * 243) := by
          rw [show (243 : Int32) = nI 243 from rfl, pk_mul]
        rw [eK]
        refine ⟨vp_in_nI (by omega) (by decide), ?_⟩
        rw [nI_clamp (show cg_YL nc st a_lSign a_lPred a_lA0 a_lA1 a_arity j q * 243 < 2 ^ 31 by omega)]
        refine br_c (fun y => h0 (fun all => all j z.1 z.2 y)) (fun y => nm_r (nI_1 j) (ih (j + 1) (by omega) (fun j' hj' y1 y2 => ?_)))
        by_cases e : j' = j
        · rw [e]
          exact y
        · exact hall j' (by omega) y1 y2
      · by_cases e : j' = j
        · subst e
          exact absurd ⟨y1, y2⟩ z
        · exact hall j' (by omega) y1 y2
  exact ⟨_, key nl 0 (by omega) (fun j' hj' => absurd hj' (Nat.not_lt_zero j'))⟩
end
end
section
/-- Y's writer before step m, with the goals L and N nodes -/
def yb_v0 (nc : Nat) (st : Nat → Nat) (a0 a1 : Nat → Int32) (q : Nat → Nat) : Nat → Nat := fun j => cg_uc (cg_oc a0 a1 0 (st nc)) (cg_oc a0 a1 1 (st nc)) (q j % 4 % 2)
def yb_v1 (nc : Nat) (st : Nat → Nat) (a0 a1 : Nat → Int32) (q : Nat → Nat) : Nat → Nat := fun j => cg_uc (cg_oc a0 a1 0 (st nc)) (cg_oc a0 a1 1 (st nc)) (q j % 4 / 2)
def yb_inv (nc : Nat) (st : Nat → Nat) (sg pr a0 a1 ar : Nat → Int32) (C : Nat → Nat → Prop) (m : Nat) (L : List ck_G) (q : Nat → Nat) (N : Nat) (kK kA kB kb pL pP pS : Nat → Int32) : Prop :=
  1 ≤ m ∧ m + ck_pot L ≤ 190 ∧ N + 1 = m + L.length ∧ kK 0 = 0 ∧ kA 0 = nI (q 0 / 4) ∧
  (∀ j, j < m → ¬ kK j = 2 → q j < 4 * nc ∧ kb (2 * j) = nI (yb_v0 nc st a0 a1 q j) ∧ kb (2 * j + 1) = nI (yb_v1 nc st a0 a1 q j)) ∧
  (∀ t, t < 512 → kb t = -1 ∨ kb t = 0 ∨ kb t = 1) ∧ yb_stk nc st sg pr a0 a1 ar q kK C pL pP pS m N L ∧
  ck_rch nc st (cd_mk (st nc) sg) (cd_mk (st nc) pr) (cd_mk (st nc) a0) (cd_mk (st nc) a1) kK kA kB (yb_v0 nc st a0 a1 q) (yb_v1 nc st a0 a1 q) (ck_gl 0 16 [] (st (q 0 / 4 + 1) - st (q 0 / 4)) (st (q 0 / 4))) m L
theorem yb_v_U (nc : Nat) (st : Nat → Nat) (a0 a1 : Nat → Int32) (q : Nat → Nat) (j : Nat) : cg_U (cg_oc a0 a1 0 (st nc)) (cg_oc a0 a1 1 (st nc)) (yb_v0 nc st a0 a1 q j) ∧ cg_U (cg_oc a0 a1 0 (st nc)) (cg_oc a0 a1 1 (st nc)) (yb_v1 nc st a0 a1 q j) :=
  ⟨cg_uc_U _ _ (by omega), cg_uc_U _ _ (by omega)⟩
theorem yb_pot_len {nc : Nat} {st q : Nat → Nat} {sg pr a0 a1 ar kK : Nat → Int32} {C : Nat → Nat → Prop} {pL pP pS : Nat → Int32} {m N : Nat} : ∀ {L : List ck_G}, yb_stk nc st sg pr a0 a1 ar q kK C pL pP pS m N L → L.length ≤ ck_pot L
  | [], _ => Nat.le_refl 0
  | g :: R, h => by
    have h1 := yb_pot_len h.2.2
    have ho := h.2.1.2.2.2.2.1
    have l5 := cm_cnt_le (g.2.2.map (yb_F nc st sg pr a0 a1 ar q))
    rw [cm_cnt_ok ho, List.length_map] at l5
    have h2 := cm_w_pos l5
    show (g :: R).length ≤ cm_w g.2.2.length + ck_pot R
    rw [List.length_cons]
    omega
theorem yb_end {nc : Nat} {st q : Nat → Nat} {sg pr a0 a1 ar : Nat → Int32} {C : Nat → Nat → Prop} {m N : Nat} {kK kA kB kb pL pP pS : Nat → Int32} (hnc : nc ≤ 8) (hI : yb_inv nc st sg pr a0 a1 ar C m [] q N kK kA kB kb pL pP pS) :
    cr_ky nc st sg pr a0 a1 m kK kA kB kb := by
  obtain ⟨h1, h2, h3, h4, h5, h6, h7, h8, h9⟩ := hI
  have hq0 := (h6 0 (by omega) (by rw [h4]; decide)).1
  refine ⟨yb_v0 nc st a0 a1 q, yb_v1 nc st a0 a1 q, by omega, fun j hj hK => ?_, h7, ck_rch_end h1 h4 h5 hnc (by omega) h9⟩
  obtain ⟨_, y1, y2⟩ := h6 j hj hK
  exact ⟨cg_U_lt (yb_v_U nc st a0 a1 q j).1, cg_U_lt (yb_v_U nc st a0 a1 q j).2, y1, y2⟩
theorem yb_red_inv {nc nl : Nat} {st : Nat → Nat} {sg pr a0 a1 ar : Nat → Int32} (hw : cd_wf nc nl st sg pr a0 a1 ar) {C : Nat → Nat → Prop} {m c l n N : Nat} {p : List (Nat × Nat)} {R : List ck_G} {q : Nat → Nat} {kK kA kB kb pL pP pS : Nat → Int32}
    (hI : yb_inv nc st sg pr a0 a1 ar C m ((c, l, p) :: R) q N kK kA kB kb pL pP pS) (hn : n < p.length) (hg : yb_F nc st sg pr a0 a1 ar q (p.getD n (0, 0)) = cm_neg (yb_F nc st sg pr a0 a1 ar q (c, l))) {x : Int32} :
    yb_inv nc st sg pr a0 a1 ar C (m + 1) R q N (upd kK m 2) (upd kA m (nI (p.length - 1 - n))) (upd kB m x) kb pL pP pS := by
  obtain ⟨h1, h2, h3, h4, h5, h6, h7, ⟨s1, s3, s4⟩, h8⟩ := hI
  obtain ⟨g1, g2, g3, g4, g5, g6, g7⟩ := s3
  try dsimp only at g1 g2 g3 g4 g5 g6 g7
  have l5 := cm_cnt_le (p.map (yb_F nc st sg pr a0 a1 ar q))
  rw [cm_cnt_ok g5, List.length_map] at l5
  have wp := cm_w_pos l5
  have hpot : ck_pot ((c, l, p) :: R) = cm_w p.length + ck_pot R := rfl
  rw [List.length_cons] at h3
  have hmem : p.getD n (0, 0) ∈ p := xw_gmem p n hn
  obtain ⟨e1, e2, e3⟩ := g4 _ hmem
  have hcX := (h6 c g1 g2).1
  have heX := (h6 _ e1 e2).1
  have kk : ∀ j, j < m → upd kK m 2 j = kK j := fun j hj => pk_un (by omega)
  have agr : ck_agr kK kA kB (yb_v0 nc st a0 a1 q) (yb_v1 nc st a0 a1 q) (upd kK m 2) (upd kA m (nI (p.length - 1 - n))) (upd kB m x) (yb_v0 nc st a0 a1 q) (yb_v1 nc st a0 a1 q) m := by
    intro j hj
    rw [pk_un (by omega), pk_un (by omega), pk_un (by omega)]
    exact ⟨rfl, rfl, rfl, fun _ => ⟨rfl, rfl⟩⟩
  refine ⟨by omega, by omega, by omega, ?_, ?_, fun j hj hK => ?_, h7, ?_, ?_⟩
  · rw [kk 0 (by omega)]
    exact h4
  · rw [pk_un (by omega)]
    exact h5
  · by_cases e : j = m
    · subst e
      rw [pk_us] at hK
      exact absurd rfl hK
    · rw [kk j (by omega)] at hK
      exact h6 j (by omega) hK
  · exact yb_stk_fr (by omega) (Nat.le_refl _) (fun j hj => ⟨rfl, kk j hj⟩) (fun _ _ => ⟨rfl, rfl⟩) (fun _ _ => rfl) s4
  · refine ck_rch_red h8 h1 agr (e := p.length - 1 - n) (c2 := (p.getD n (0, 0)).1) (l2 := (p.getD n (0, 0)).2) pk_us pk_us (by omega) (by omega) ?_ g1 g2 e1 e2 (fun j hj hK => ⟨cg_U_lt (yb_v_U nc st a0 a1 q j).1, cg_U_lt (yb_v_U nc st a0 a1 q j).2⟩) ?_
    · have ee : p.length - 1 - (p.length - 1 - n) = n := by omega
      rw [ee]
    · have l1 : l < st nc := by
        have y := cd_mono' hw (c := q c / 4 + 1) (d := nc) (by omega) (Nat.le_refl _)
        have z := g3.2
        try dsimp only at z
        omega
      have l2 : (p.getD n (0, 0)).2 < st nc := by
        have y := cd_mono' hw (c := q (p.getD n (0, 0)).1 / 4 + 1) (d := nc) (by omega) (Nat.le_refl _)
        have z := e3.2
        omega
      refine cg_conn hw l1 l2 (yb_v_U nc st a0 a1 q c).1 (yb_v_U nc st a0 a1 q c).2 (yb_v_U nc st a0 a1 q _).1 (yb_v_U nc st a0 a1 q _).2 ?_
      show yb_F nc st sg pr a0 a1 ar q (c, l) = cm_neg (yb_F nc st sg pr a0 a1 ar q (p.getD n (0, 0)))
      rw [hg, cm_neg_neg]
theorem yb_ext_inv {nc nl g : Nat} {st : Nat → Nat} {sg pr a0 a1 ar : Nat → Int32} (hw : cd_wf nc nl st sg pr a0 a1 ar) (eg : cg_base pr ar (st nc) (cg_oc a0 a1 0 (st nc) && cg_oc a0 a1 1 (st nc)) 4 = g) (h5 : g ≤ 5) {C : Nat → Nat → Prop}
    {m c l N r j d : Nat} {p : List (Nat × Nat)} {R : List ck_G} {q : Nat → Nat} {kK kA kB kb pL pP pS : Nat → Int32}
    (hI : yb_inv nc st sg pr a0 a1 ar C m ((c, l, p) :: R) q N kK kA kB kb pL pP pS) (hd : d < N) (hnd : yb_nd pL pP (yb_F nc st sg pr a0 a1 ar q) p d (c, l))
    (hno : cm_neg (yb_F nc st sg pr a0 a1 ar q (c, l)) ∉ p.map (yb_F nc st sg pr a0 a1 ar q))
    (hat : ye_at nc st sg pr a0 a1 ar C (yb_F nc st sg pr a0 a1 ar q (c, l)) (yp_s (yb_F nc st sg pr a0 a1 ar q (c, l) :: p.map (yb_F nc st sg pr a0 a1 ar q))) r j)
    {kb' pL' pP' pS' : Nat → Int32} (hkb : ∀ t, t < 2 * m → kb' t = kb t) (hkb0 : kb' (2 * m) = nI (cg_uc (cg_oc a0 a1 0 (st nc)) (cg_oc a0 a1 1 (st nc)) (r % 4 % 2))) (hkb1 : kb' (2 * m + 1) = nI (cg_uc (cg_oc a0 a1 0 (st nc)) (cg_oc a0 a1 1 (st nc)) (r % 4 / 2)))
    (hkb3 : ∀ t, t < 512 → kb' t = -1 ∨ kb' t = 0 ∨ kb' t = 1)
    (hp' : ∀ i, i < N → pL' i = pL i ∧ pP' i = pP i) (hs' : ∀ i, i < R.length → pS' i = pS i) (hrep : yb_rep pL' pP' pS' (fun l' => cg_YL nc st sg pr a0 a1 ar l' r) (nI d) N R.length (xg_ls j (st (r / 4 + 1) - st (r / 4)) (st (r / 4)))) :
    yb_inv nc st sg pr a0 a1 ar C (m + 1) (ck_gl m j ((c, l) :: p) (st (r / 4 + 1) - st (r / 4)) (st (r / 4)) ++ R) (cd_put q m r) (N + (xg_ls j (st (r / 4 + 1) - st (r / 4)) (st (r / 4))).length)
      (upd kK m 1) (upd kA m (nI (r / 4))) (upd kB m (nI (j - st (r / 4)))) kb' pL' pP' pS' := by
  obtain ⟨h1, h2, h3, h4, h5', h6, h7, ⟨s1, s3, s4⟩, h8⟩ := hI
  obtain ⟨g1, g2, g3, g4, g5, g6, g7⟩ := s3
  try dsimp only at g1 g2 g3 g4 g5 g6 g7
  obtain ⟨r4, j1, j2, jK, jok⟩ := hat
  have hnc := hw.1
  have hcX := (h6 c g1 g2).1
  have l1 : l < st nc := by
    have y := cd_mono' hw (c := q c / 4 + 1) (d := nc) (by omega) (Nat.le_refl _)
    have z := g3.2
    try dsimp only at z
    omega
  have hst := cd_mono' hw (c := r / 4 + 1) (d := nc) (by omega) (Nat.le_refl _)
  obtain ⟨b1, b2, b3⟩ := cd_en_bd hw (show r / 4 ≤ nc by omega)
  rw [cd_en_lt (by omega)] at b1 b2 b3
  have hKlt : yb_F nc st sg pr a0 a1 ar q (c, l) < 2 * g := by
    have := cg_YL_lt (q := q c) hw l1
    rw [eg] at this
    exact this
  obtain ⟨len4, ok2⟩ := cm_len4 g5 (by omega) g6 hno
  rw [List.length_map] at len4
  rw [List.length_cons] at h3
  have qlt : ∀ i, i < m → cd_put q m r i = q i := fun i hi => cd_put_n (by omega)
  have kk : ∀ i, i < m → upd kK m 1 i = kK i := fun i hi => pk_un (by omega)
  have fF : ∀ e : Nat × Nat, e.1 < m → yb_F nc st sg pr a0 a1 ar (cd_put q m r) e = yb_F nc st sg pr a0 a1 ar q e := by
    intro e he
    unfold yb_F
    rw [qlt e.1 he]
  have v0lt : ∀ i, i < m → yb_v0 nc st a0 a1 (cd_put q m r) i = yb_v0 nc st a0 a1 q i ∧ yb_v1 nc st a0 a1 (cd_put q m r) i = yb_v1 nc st a0 a1 q i := by
    intro i hi
    unfold yb_v0 yb_v1
    rw [qlt i hi]
    exact ⟨rfl, rfl⟩
  have agr : ck_agr kK kA kB (yb_v0 nc st a0 a1 q) (yb_v1 nc st a0 a1 q) (upd kK m 1) (upd kA m (nI (r / 4))) (upd kB m (nI (j - st (r / 4)))) (yb_v0 nc st a0 a1 (cd_put q m r)) (yb_v1 nc st a0 a1 (cd_put q m r)) m := by
    intro i hi
    rw [pk_un (by omega), pk_un (by omega), pk_un (by omega)]
    exact ⟨rfl, rfl, rfl, fun _ => v0lt i hi⟩
  have q0 : cd_put q m r 0 = q 0 := qlt 0 (by omega)
  have em : ((c, l) :: p).map (yb_F nc st sg pr a0 a1 ar (cd_put q m r)) = yb_F nc st sg pr a0 a1 ar q (c, l) :: p.map (yb_F nc st sg pr a0 a1 ar q) := by
    rw [List.map_cons, fF (c, l) g1]
    have : p.map (yb_F nc st sg pr a0 a1 ar (cd_put q m r)) = p.map (yb_F nc st sg pr a0 a1 ar q) := by
      apply List.map_congr_left
      intro e he
      exact fF e (g4 e he).1
    rw [this]
  have newg : ∀ l', st (r / 4) ≤ l' → l' < st (r / 4 + 1) → ¬ l' = j → yb_goal nc st sg pr a0 a1 ar (cd_put q m r) (upd kK m 1) C (m + 1) (m, l', (c, l) :: p) := by
    intro l' y1 y2 y3
    obtain ⟨k1, k2⟩ := jok l' y1 y2 y3
    have hY := cg_YL_lt (q := r) hw (show l' < st nc by omega)
    rw [eg] at hY
    have eF : yb_F nc st sg pr a0 a1 ar (cd_put q m r) (m, l') = cg_YL nc st sg pr a0 a1 ar l' r := by
      unfold yb_F
      try dsimp only
      rw [cd_put_s]
    unfold yb_goal
    try dsimp only
    rw [em, eF, pk_us]
    refine ⟨by omega, by decide, ?_, fun e he => ?_, ok2, fun z => k1 (((yp_ok ok2).2.2 _ (by omega)).mpr z), fun z => k2 (((yp_ok ok2).2.1 _ (by omega)).mpr (cm_us_false (fun y => k1 (((yp_ok ok2).2.2 _ (by omega)).mpr y)) z))⟩
    · unfold xw_in
      try dsimp only
      rw [cd_put_s]
      exact ⟨y1, y2⟩
    · rcases List.mem_cons.mp he with z | z
      · rw [z]
        refine ⟨by dsimp only; omega, by rw [kk c g1]; exact g2, ?_⟩
        unfold xw_in at g3 ⊢
        try dsimp only at g3 ⊢
        rw [qlt c g1]
        exact g3
      · obtain ⟨w1, w2, w3⟩ := g4 e z
        refine ⟨by omega, by rw [kk e.1 w1]; exact w2, ?_⟩
        unfold xw_in at w3 ⊢
        rw [qlt e.1 w1]
        exact w3
  have glen : (ck_gl m j ((c, l) :: p) (st (r / 4 + 1) - st (r / 4)) (st (r / 4))).length ≤ 2 := by
    have := ck_gl_len' (copy := m) (sk := j) (p := (c, l) :: p) (st (r / 4 + 1) - st (r / 4)) (st (r / 4)) j1 (by omega)
    omega
  have glen2 : (ck_gl m j ((c, l) :: p) (st (r / 4 + 1) - st (r / 4)) (st (r / 4))).length = (xg_ls j (st (r / 4 + 1) - st (r / 4)) (st (r / 4))).length := by
    rw [xg_gl, List.length_map]
  have hpot : ck_pot ((c, l, p) :: R) = cm_w p.length + ck_pot R := rfl
  have hw1 := cm_w_succ len4
  refine ⟨by omega, ?_, ?_, ?_, ?_, fun i hi hK => ?_, hkb3, ?_, ?_⟩
  · rw [ck_pot_app, ck_pot_gl, List.length_cons]
    have : (ck_gl m j ((c, l) :: p) (st (r / 4 + 1) - st (r / 4)) (st (r / 4))).length * cm_w (p.length + 1) ≤ 2 * cm_w (p.length + 1) := Nat.mul_le_mul_right _ glen
    omega
  · rw [List.length_append, glen2]
    omega
  · rw [kk 0 (by omega)]
    exact h4
  · rw [pk_un (by omega), q0]
    exact h5'
  · by_cases e : i = m
    · subst e
      unfold yb_v0 yb_v1
      rw [cd_put_s]
      exact ⟨r4, hkb0, hkb1⟩
    · rw [kk i (by omega)] at hK
      obtain ⟨w1, w2, w3⟩ := h6 i (by omega) hK
      obtain ⟨v1, v2⟩ := v0lt i (by omega)
      rw [qlt i (by omega), v1, v2, hkb (2 * i) (by omega), hkb (2 * i + 1) (by omega)]
      exact ⟨w1, w2, w3⟩
  · rw [xg_gl]
    have hnd' : yb_nd pL' pP' (yb_F nc st sg pr a0 a1 ar (cd_put q m r)) p d (c, l) := yb_nd_fr hp' hd (fF _ g1) (fun x hx => fF x (g4 x hx).1) hnd
    have hpar : ∀ d', N ≤ d' → ∀ l', pL' d' = nI (yb_F nc st sg pr a0 a1 ar (cd_put q m r) (m, l')) → pP' d' = nI d → yb_nd pL' pP' (yb_F nc st sg pr a0 a1 ar (cd_put q m r)) ((c, l) :: p) d' (m, l') := fun d' hd' l' y1 y2 => ⟨y1, d, by omega, y2, hnd'⟩
    refine yb_stk_app (N := N) (x4 := nI d) hpar (yb_stk_fr (by omega) (by omega) (fun i hi => ⟨qlt i hi, kk i hi⟩) hp' hs' s4) (Nat.le_refl _) (fun l' hl' => ?_) ?_
    · have := xg_ls_mem hl'
      exact newg l' (by omega) (by omega) this.2.2
    · have eF : (fun l' => yb_F nc st sg pr a0 a1 ar (cd_put q m r) (m, l')) = (fun l' => cg_YL nc st sg pr a0 a1 ar l' r) := by
        funext l'
        unfold yb_F
        try dsimp only
        rw [cd_put_s]
      rw [eF]
      exact hrep
  · rw [q0]
    have ej : st (r / 4) + (j - st (r / 4)) = j := by omega
    have hg2 : ck_gc (cd_mk (st nc) sg) (cd_mk (st nc) pr) (cd_mk (st nc) a0) (cd_mk (st nc) a1) (yb_v0 nc st a0 a1 (cd_put q m r)) (yb_v1 nc st a0 a1 (cd_put q m r)) c l m (st (r / 4) + (j - st (r / 4))) := by
      rw [ej]
      refine cg_conn hw l1 (show j < st nc by omega) (yb_v_U nc st a0 a1 _ c).1 (yb_v_U nc st a0 a1 _ c).2 (yb_v_U nc st a0 a1 _ m).1 (yb_v_U nc st a0 a1 _ m).2 ?_
      show yb_F nc st sg pr a0 a1 ar (cd_put q m r) (c, l) = cm_neg (yb_F nc st sg pr a0 a1 ar (cd_put q m r) (m, j))
      have x2 : yb_F nc st sg pr a0 a1 ar (cd_put q m r) (m, j) = cm_neg (yb_F nc st sg pr a0 a1 ar q (c, l)) := by
        unfold yb_F
        try dsimp only
        rw [cd_put_s]
        exact jK
      rw [fF (c, l) g1, x2, cm_neg_neg]
    have := ck_rch_ext h8 h1 agr (a := r / 4) (bb := j - st (r / 4)) pk_us pk_us pk_us hnc (by omega) (by omega) (by omega) g1 g2 (fun i hi hK => ⟨cg_U_lt (yb_v_U nc st a0 a1 (cd_put q m r) i).1, cg_U_lt (yb_v_U nc st a0 a1 (cd_put q m r) i).2⟩) hg2
    rw [ej] at this
    exact this
end
section
theorem yb_upd2 {f : Nat → Int32} {k : Nat} {x y : Int32} : upd (upd f k x) k y = upd f k y := by
  funext j
  unfold upd
  by_cases e : j = k
  · rw [if_pos e, if_pos e]
  · rw [if_neg e, if_neg e, if_neg e]
theorem yb_uc01 (o0 o1 : Bool) {i : Nat} (hi : i < 2) : nI (cg_uc o0 o1 i) = -1 ∨ nI (cg_uc o0 o1 i) = 0 ∨ nI (cg_uc o0 o1 i) = 1 := by
  have := cg_U_lt (cg_uc_U o0 o1 hi)
  have c : cg_uc o0 o1 i = 0 ∨ cg_uc o0 o1 i = 1 := by omega
  rcases c with c | c <;> rw [c]
  · exact Or.inr (Or.inl rfl)
  · exact Or.inr (Or.inr rfl)
section
variable {f_clauseCount f_litCount f_kept f_kN f_bN f_sealed f_lastStep f_cNodes f_cSp f_pNodes f_pSp : Int32} {a_lSign a_lPred a_lA0 a_lA1 a_lOwner a_arity a_kKind a_kA a_kB a_kBind a_bKind a_bA a_bB a_bBind a_cCopy a_cLit a_cPar a_cStk a_cl a_gtab a_pLit a_pPar a_pStk : Nat → Int32}
theorem yb_count {post : Int32 → SY → Prop} {J : Int32 → Int32 → Int32 → Int32 → Int32 → Int32 → Int32 → Int32 → Int32 → Int32 → Int32 → Int32 → (Nat → Int32) → (Nat → Int32) → (Nat → Int32) → (Nat → Int32) → (Nat → Int32) → (Nat → Int32) → (Nat → Int32) → (Nat → Int32) → (Nat → Int32) → (Nat → Int32) → (Nat → Int32) → (Nat → Int32) → (Nat → Int32) → (Nat → Int32) → (Nat → Int32) → (Nat → Int32) → (Nat → Int32) → (Nat → Int32) → (Nat → Int32) → (Nat → Int32) → (Nat → Int32) → (Nat → Int32) → (Nat → Int32) → Prop}
    {nc nl : Nat} {st : Nat → Nat} (hw : cd_wf nc nl st a_lSign a_lPred a_lA0 a_lA1 a_arity) (how : cd_own nc nl st a_lOwner) (hgt : yn_gt nc st a_lSign a_lPred a_lA0 a_lA1 a_arity a_gtab)
    {m r j d N S : Nat} (hm : m < 256) (hr : r < 4 * nc) (j1 : st (r / 4) ≤ j) (j2 : j < st (r / 4 + 1))
    (rN : N + (xg_ls j (st (r / 4 + 1) - st (r / 4)) (st (r / 4))).length ≤ 256) (rS : S + (xg_ls j (st (r / 4 + 1) - st (r / 4)) (st (r / 4))).length ≤ 256)
    (h : ∀ pL pP pS : Nat → Int32, (∀ i, i < N → pL i = a_pLit i ∧ pP i = a_pPar i) → (∀ i, i < S → pS i = a_pStk i) → yb_rep pL pP pS (fun l => cg_YL nc st a_lSign a_lPred a_lA0 a_lA1 a_arity l r) (nI d) N S (xg_ls j (st (r / 4 + 1) - st (r / 4)) (st (r / 4))) →
      J (nI (m + 1)) (nI nc) (nI nl) f_kept (nI (m + 1)) f_bN f_sealed f_lastStep f_cNodes f_cSp (nI (N + (xg_ls j (st (r / 4 + 1) - st (r / 4)) (st (r / 4))).length)) (nI (S + (xg_ls j (st (r / 4 + 1) - st (r / 4)) (st (r / 4))).length)) a_lSign a_lPred a_lA0 a_lA1 a_lOwner a_arity a_kKind a_kA (upd a_kB m (nI (j - st (r / 4)))) (upd (upd a_kBind (2 * m) (nI (cg_uc (cg_oc a_lA0 a_lA1 0 (st nc)) (cg_oc a_lA0 a_lA1 1 (st nc)) (r % 4 % 2)))) (2 * m + 1) (nI (cg_uc (cg_oc a_lA0 a_lA1 0 (st nc)) (cg_oc a_lA0 a_lA1 1 (st nc)) (r % 4 / 2)))) a_bKind a_bA a_bB a_bBind a_cCopy a_cLit a_cPar a_cStk a_cl a_gtab pL pP pS) :
    ∃ n339 : Nat, wY_build_339 post J (nI m) (nI d) (nI (r / 4)) (nI (r % 4)) (nI j) (nI nc) (nI nl) f_kept f_kN f_bN f_sealed f_lastStep f_cNodes f_cSp (nI N) (nI S) n339 0 a_lSign a_lPred a_lA0 a_lA1 a_lOwner a_arity a_kKind a_kA (upd a_kB m 0) a_kBind a_bKind a_bA a_bB a_bBind a_cCopy a_cLit a_cPar a_cStk a_cl a_gtab a_pLit a_pPar a_pStk := by
  have hnc := hw.1
  have hM := hw.2.2.2.2.1
  have hnl := hw.2.1
  have hc : r / 4 < nc := by omega
  have een : cd_en nc nl st (r / 4) = st (r / 4 + 1) := cd_en_lt hc
  have hst := cd_mono' hw (c := r / 4 + 1) (d := nc) (by omega) (Nat.le_refl _)
  have inm : vp_in (nI m) 256 := vp_in_nI hm (by decide)
  have clm : (nI m).toNatClampNeg = m := nI_clamp (by omega)
  have key : ∀ e i : Nat, i + e = j → wY_build_339 post J (nI m) (nI d) (nI (r / 4)) (nI (r % 4)) (nI j) (nI nc) (nI nl) f_kept f_kN f_bN f_sealed f_lastStep f_cNodes f_cSp (nI N) (nI S) (e + 1) (nI i) a_lSign a_lPred a_lA0 a_lA1 a_lOwner a_arity a_kKind a_kA (upd a_kB m (nI (i - st (r / 4)))) a_kBind a_bKind a_bA a_bB a_bBind a_cCopy a_cLit a_cPar a_cStk a_cl a_gtab a_pLit a_pPar a_pStk := by
    intro e
    induction e with
    | zero =>
      intro i hi
      have ei : i = j := by omega
      subst ei
      have er : nI (r % 4) - nI (r % 4) / 2 * 2 = nI (r % 4 % 2) := by
        rw [show (2 : Int32) = nI 2 from rfl, pk_rem (by omega) (by omega) (by omega)]
      have ed : nI (r % 4) / 2 = nI (r % 4 / 2) := by
        rw [show (2 : Int32) = nI 2 from rfl, pk_div (by omega) (by omega) (by omega)]
      have e2 : (2 : Int32) * nI m = nI (2 * m) := by
        rw [show (2 : Int32) = nI 2 from rfl, pk_mul]
      refine br_t (nI_le (Nat.le_refl _) (by omega)) ⟨by decide, ?_⟩
      rw [er, ed]
      refine yu_const hw how ?_
      rw [e2, nI_1, nI_clamp (show 2 * m < 2 ^ 31 by omega), nI_clamp (show 2 * m + 1 < 2 ^ 31 by omega)]
      refine ⟨vp_in_nI (by omega) (by decide), nm_e ⟨by decide, ?_⟩⟩
      refine yu_const hw how ?_
      refine ⟨vp_in_nI (by omega) (by decide), nm_e ?_⟩
      refine yb_push hw how hgt (sk := i) hr (fun x hx => nI_eq (by omega) (by omega)) rN rS (fun pL pP pS hag hs hrep => ?_)
      refine br_f (by decide) ?_
      rw [nI_1]
      exact nm_e (nm_e (h pL pP pS hag hs hrep))
    | succ e ih =>
      intro i hi
      refine br_f (nI_ge (by omega) (by omega)) ⟨vp_in_nI (by omega) (by decide), ?_⟩
      rw [nI_clamp (show i < 2 ^ 31 by omega)]
      have ih2 := ih (i + 1) (by omega)
      have oi := cd_own_iff hw how (show i < nl by omega) (show r / 4 ≤ nc by omega)
      rw [een] at oi
      refine ek_if oi (fun z => ⟨inm, inm, ?_⟩) (fun z => nm_r (nI_1 i) ?_)
      · rw [clm, pk_us, nI_1, yb_upd2]
        have ee : i - st (r / 4) + 1 = i + 1 - st (r / 4) := by omega
        rw [ee]
        exact nm_e (nm_r (nI_1 i) ih2)
      · have ee : i + 1 - st (r / 4) = i - st (r / 4) := by omega
        rw [ee] at ih2
        exact ih2
  have e0 : 0 - st (r / 4) = 0 := by omega
  have k0 := key j 0 (by omega)
  rw [e0] at k0
  exact ⟨_, k0⟩
theorem yb_loop {post : Int32 → SY → Prop} {nc nl g : Nat} {st : Nat → Nat} (hw : cd_wf nc nl st a_lSign a_lPred a_lA0 a_lA1 a_arity) (how : cd_own nc nl st a_lOwner)
    (eg : cg_base a_lPred a_arity (st nc) (cg_oc a_lA0 a_lA1 0 (st nc) && cg_oc a_lA0 a_lA1 1 (st nc)) 4 = g) (h5 : g ≤ 5) (hgt : yn_gt nc st a_lSign a_lPred a_lA0 a_lA1 a_arity a_gtab) (hsnd : ye_snd nc g st a_lSign a_lPred a_lA0 a_lA1 a_arity a_cl)
    (h : ∀ (n : Nat) (y2 y3 : Int32) (kK kA kB kb pL pP pS : Nat → Int32), cr_ky nc st a_lSign a_lPred a_lA0 a_lA1 n kK kA kB kb →
      post 1 (nI nc, nI nl, f_kept, nI n, f_bN, f_sealed, f_lastStep, f_cNodes, f_cSp, y2, y3, a_lSign, a_lPred, a_lA0, a_lA1, a_lOwner, a_arity, kK, kA, kB, kb, a_bKind, a_bA, a_bB, a_bBind, a_cCopy, a_cLit, a_cPar, a_cStk, a_cl, a_gtab, pL, pP, pS)) :
    ∀ (t m : Nat) (L : List ck_G) (q : Nat → Nat) (N : Nat) (y3 : Int32) (kK kA kB kb pL pP pS : Nat → Int32), ck_pot L ≤ t → y3 = nI L.length → yb_inv nc st a_lSign a_lPred a_lA0 a_lA1 a_arity (ye_C a_cl) m L q N kK kA kB kb pL pP pS →
      wY_build_154 post (t + 1) (nI m) (nI nc) (nI nl) f_kept (nI m) f_bN f_sealed f_lastStep f_cNodes f_cSp (nI N) y3 a_lSign a_lPred a_lA0 a_lA1 a_lOwner a_arity kK kA kB kb a_bKind a_bA a_bB a_bBind a_cCopy a_cLit a_cPar a_cStk a_cl a_gtab pL pP pS := by
  have hnc := hw.1
  have hM := hw.2.2.2.2.1
  have hnl := hw.2.1
  intro t
  induction t with
  | zero =>
    intro m L q N y3 kK kA kB kb pL pP pS ht ey hI
    have hlen := yb_pot_len hI.2.2.2.2.2.2.2.1
    have hL : L = [] := List.eq_nil_of_length_eq_zero (by omega)
    subst hL ey
    have h190 := hI.2.1
    exact br_f (nI_ge (b := 256) (by omega) (by decide)) (br_t (by decide) (br_t rfl (h m _ _ kK kA kB kb pL pP pS (yb_end hnc hI))))
  | succ t IH =>
    intro m L q N y3 kK kA kB kb pL pP pS ht ey hI
    subst ey
    have hlen := yb_pot_len hI.2.2.2.2.2.2.2.1
    have h190 := hI.2.1
    have hNe := hI.2.2.1
    refine br_f (nI_ge (b := 256) (by omega) (by decide)) ?_
    match L, hI, ht, hlen, h190, hNe with
    | [], hI, _, _, _, _ => exact br_t (by decide) (br_t rfl (h m _ _ kK kA kB kb pL pP pS (yb_end hnc hI)))
    | (c, l, p) :: R, hI, ht, hlen, h190, hNe =>
      obtain ⟨h1, h2, h3, h4, h5', h6, h7, ⟨⟨d, d1, d2, d3⟩, s3, s4⟩, h8⟩ := id hI
      obtain ⟨g1, g2, g3, g4, g5, g6, g7⟩ := s3
      try dsimp only at g1 g2 g3 g4 g5 g6 g7 d3
      rw [List.length_cons] at hlen hNe
      have hpot : ck_pot ((c, l, p) :: R) = cm_w p.length + ck_pot R := rfl
      have l5 := cm_cnt_le (p.map (yb_F nc st a_lSign a_lPred a_lA0 a_lA1 a_arity q))
      rw [cm_cnt_ok g5, List.length_map] at l5
      have wp := cm_w_pos l5
      have lt10 : ∀ e : Nat × Nat, e.1 < m → ¬ kK e.1 = 2 → xw_in st q e → yb_F nc st a_lSign a_lPred a_lA0 a_lA1 a_arity q e < 2 * g := by
        intro e y1 y2 y3
        have hq := (h6 e.1 y1 y2).1
        have hst := cd_mono' hw (c := q e.1 / 4 + 1) (d := nc) (by omega) (Nat.le_refl _)
        have := cg_YL_lt (j := e.2) (q := q e.1) hw (by have := y3.2; omega)
        rw [eg] at this
        exact this
      have hK := lt10 (c, l) g1 g2 g3
      have hp10 : ∀ x, x ∈ p → yb_F nc st a_lSign a_lPred a_lA0 a_lA1 a_arity q x < 10 := by
        intro x hx
        obtain ⟨y1, y2, y3⟩ := g4 x hx
        have := lt10 x y1 y2 y3
        omega
      have hndl := yb_nd_len d3
      have hd := yb_nd_hd d3
      have s243 := (yp_ok g5).1
      have ngK := yp_neg (m := yb_F nc st a_lSign a_lPred a_lA0 a_lA1 a_arity q (c, l)) g5 (by omega)
      have atg := fun q' j' => fun (z : ye_at nc st a_lSign a_lPred a_lA0 a_lA1 a_arity (ye_C a_cl) (yb_F nc st a_lSign a_lPred a_lA0 a_lA1 a_arity q (c, l)) (yp_s (yb_F nc st a_lSign a_lPred a_lA0 a_lA1 a_arity q (c, l) :: p.map (yb_F nc st a_lSign a_lPred a_lA0 a_lA1 a_arity q))) q' j') => z
      have redi := fun n (hn : n < p.length) hg x => yb_red_inv (x := x) hw hI (n := n) hn hg
      have exti := fun r j => yb_ext_inv (r := r) (j := j) hw eg h5 hI d1 d3
      generalize hKK : yb_F nc st a_lSign a_lPred a_lA0 a_lA1 a_arity q (c, l) = K at *
      have inR : vp_in (nI R.length) 256 := vp_in_nI (by omega) (by decide)
      have ind : vp_in (nI d) 256 := vp_in_nI (by omega) (by decide)
      have inm : vp_in (nI m) 256 := vp_in_nI (by omega) (by decide)
      have clm : (nI m).toNatClampNeg = m := nI_clamp (by omega)
      have ed : nI K / 2 = nI (K / 2) := by
        rw [show (2 : Int32) = nI 2 from rfl, pk_div (by omega) (by omega) (by omega)]
      have er : nI K - nI K / 2 * 2 = nI (K % 2) := by
        rw [show (2 : Int32) = nI 2 from rfl, pk_rem (by omega) (by omega) (by omega)]
      have e2 : (2 : Int32) - nI (K % 2) = nI (2 - K % 2) := by
        rw [show (2 : Int32) = nI 2 from rfl, pk_sub (by omega)]
      have t3 : yt_d (yp_s (p.map (yb_F nc st a_lSign a_lPred a_lA0 a_lA1 a_arity q))) (K / 2) < 3 := Nat.mod_lt _ (by omega)
      refine br_f (nI_nle (by rw [List.length_cons]; omega) (by rw [List.length_cons]; omega)) ?_
      refine nm_r (by rw [List.length_cons]; exact nI_pred R.length) ⟨inR, ?_⟩
      rw [nI_clamp (show R.length < 2 ^ 31 by omega), d2]
      refine nm_e ⟨ind, ?_⟩
      rw [nI_clamp (show d < 2 ^ 31 by omega), hd]
      refine nm_e ⟨ind, ?_⟩
      rw [nI_clamp (show d < 2 ^ 31 by omega)]
      refine nm_e ⟨_, yb_path p d (c, l) 0 0 d3 (by omega) (by omega) hp10 ⟨by decide, ?_⟩⟩
      rw [Nat.zero_add, er, ed]
      refine ye_trit (by omega) (by omega) ⟨by decide, ?_⟩
      rw [e2]
      refine pk_eq (yt_d (yp_s (p.map (yb_F nc st a_lSign a_lPred a_lA0 a_lA1 a_arity q))) (K / 2)) (2 - K % 2) (fun tr => ⟨inm, ?_⟩) (fun tr => ⟨by decide, by decide, ?_⟩)
      · -- a reduction
        have hmem := ngK.mp tr
        rw [clm, xw_neg K (by omega)]
        refine nm_e ?_
        refine yb_red (cm_neg_lt (by omega)) d3 (by omega) hp10 (fun n hn hz => ⟨inm, ?_⟩) ?_
        · refine nm_e ⟨inm, nm_e ?_⟩
          rw [nI_1]
          refine nm_e (nm_e ?_)
          exact IH (m + 1) R q N _ _ _ _ _ _ _ _ (by omega) rfl (redi n hn hz 0)
        · obtain ⟨e, he, ee⟩ := List.mem_map.mp hmem
          exact ⟨e, he, ee⟩
      · -- an extension
        have hno : cm_neg K ∉ p.map (yb_F nc st a_lSign a_lPred a_lA0 a_lA1 a_arity q) := fun z => tr (ngK.mpr z)
        have hev := (hsnd K _ (by omega) s243 (g7 hno)).2.2
        rcases hev with hev | ⟨hz0, r0, j0, hat0⟩
        · exact absurd hev tr
        · have es : yp_s (p.map (yb_F nc st a_lSign a_lPred a_lA0 a_lA1 a_arity q)) + (K % 2 + 1) * 3 ^ (K / 2) = yp_s (K :: p.map (yb_F nc st a_lSign a_lPred a_lA0 a_lA1 a_arity q)) := rfl
          have s2lt := (yt_add s243 (show K / 2 < 5 by omega) (b := 0) (by omega) (show K % 2 + 1 ≤ 2 by omega) hz0).1
          rw [es] at hat0 s2lt
          refine yu_pow3 (by omega) ?_
          have esI : nI (yp_s (p.map (yb_F nc st a_lSign a_lPred a_lA0 a_lA1 a_arity q))) + (nI (K % 2) + 1) * nI (3 ^ (K / 2)) = nI (yp_s (K :: p.map (yb_F nc st a_lSign a_lPred a_lA0 a_lA1 a_arity q))) := by
            rw [nI_1, pk_mul, nI_add]
            rfl
          refine nm_r esI ?_
          refine ye_find hw how eg h5 hgt (by omega) s2lt (fun r j hat => ?_) (fun z => absurd ⟨r0, j0, hat0⟩ z)
          have hr4 := hat.1
          have hj1 := hat.2.1
          have hj2 := hat.2.2.1
          have hst := cd_mono' hw (c := r / 4 + 1) (d := nc) (by omega) (Nat.le_refl _)
          have f64 : nI (r * 16 + j) / 64 = nI (r / 4) := by
            rw [show (64 : Int32) = nI 64 from rfl, pk_div (by omega) (by omega) (by omega)]
            exact congrArg nI (by omega)
          have f16 : nI (r * 16 + j) / 16 = nI r := by
            rw [show (16 : Int32) = nI 16 from rfl, pk_div (by omega) (by omega) (by omega)]
            exact congrArg nI (by omega)
          have f4 : nI r - nI r / 4 * 4 = nI (r % 4) := by
            rw [show (4 : Int32) = nI 4 from rfl, pk_rem (by omega) (by omega) (by omega)]
          have fj : nI (r * 16 + j) - nI r * 16 = nI j := by
            rw [show (16 : Int32) = nI 16 from rfl, pk_mul, pk_sub (by omega)]
            exact congrArg nI (by omega)
          refine br_t (nI_pos' (by omega)) ⟨by decide, nm_r f64 ⟨by decide, by decide, ?_⟩⟩
          rw [f16]
          refine nm_r f4 ⟨by decide, nm_r fj ⟨inm, ?_⟩⟩
          rw [clm]
          refine nm_e ⟨inm, nm_e ⟨inm, nm_e ?_⟩⟩
          have lsl : (xg_ls j (st (r / 4 + 1) - st (r / 4)) (st (r / 4))).length ≤ 3 := by
            have := ck_gl_len (copy := 0) (sk := j) (p := []) (st (r / 4 + 1) - st (r / 4)) (st (r / 4))
            rw [xg_gl, List.length_map] at this
            obtain ⟨b1, b2, b3⟩ := cd_en_bd hw (show r / 4 ≤ nc by omega)
            rw [cd_en_lt (by omega)] at b1 b2 b3
            omega
          refine yb_count hw how hgt (show m < 256 by omega) hr4 hj1 hj2 (by omega) (by omega) (fun pL' pP' pS' hag hs hrep => ?_)
          have inv := exti r j hno hat (kb' := upd (upd kb (2 * m) (nI (cg_uc (cg_oc a_lA0 a_lA1 0 (st nc)) (cg_oc a_lA0 a_lA1 1 (st nc)) (r % 4 % 2)))) (2 * m + 1) (nI (cg_uc (cg_oc a_lA0 a_lA1 0 (st nc)) (cg_oc a_lA0 a_lA1 1 (st nc)) (r % 4 / 2))))
            (fun x hx => by rw [pk_un (by omega), pk_un (by omega)]) (by rw [pk_un (by omega), pk_us]) pk_us (fun x hx => by
              by_cases e1 : x = 2 * m + 1
              · rw [e1, pk_us]
                exact yb_uc01 _ _ (by omega)
              · rw [pk_un e1]
                by_cases e2 : x = 2 * m
                · rw [e2, pk_us]
                  exact yb_uc01 _ _ (by omega)
                · rw [pk_un e2]
                  exact h7 x hx) hag hs hrep
          refine IH (m + 1) _ _ _ _ _ _ _ _ _ _ _ ?_ ?_ inv
          · have := inv.2.1
            have len4 := (cm_len4 g5 (show K / 2 < 5 by omega) g6 hno).1
            rw [List.length_map] at len4
            have hw1 := cm_w_succ len4
            have glen : (ck_gl m j ((c, l) :: p) (st (r / 4 + 1) - st (r / 4)) (st (r / 4))).length ≤ 2 := by
              have := ck_gl_len' (copy := m) (sk := j) (p := (c, l) :: p) (st (r / 4 + 1) - st (r / 4)) (st (r / 4)) hj1 (by omega)
              obtain ⟨b1, b2, b3⟩ := cd_en_bd hw (show r / 4 ≤ nc by omega)
              rw [cd_en_lt (by omega)] at b1 b2 b3
              omega
            rw [ck_pot_app, ck_pot_gl, List.length_cons]
            have : (ck_gl m j ((c, l) :: p) (st (r / 4 + 1) - st (r / 4)) (st (r / 4))).length * cm_w (p.length + 1) ≤ 2 * cm_w (p.length + 1) := Nat.mul_le_mul_right _ glen
            omega
          · rw [List.length_append, xg_gl, List.length_map, Nat.add_comm]
end
end
section
section
variable {f_clauseCount f_litCount f_kept f_kN f_bN f_sealed f_lastStep f_cNodes f_cSp f_pNodes f_pSp : Int32} {a_lSign a_lPred a_lA0 a_lA1 a_lOwner a_arity a_kKind a_kA a_kB a_kBind a_bKind a_bA a_bB a_bBind a_cCopy a_cLit a_cPar a_cStk a_cl a_gtab a_pLit a_pPar a_pStk : Nat → Int32}
theorem yb_61 {post : Int32 → SY → Prop} {nc nl g : Nat} {st : Nat → Nat} (hw : cd_wf nc nl st a_lSign a_lPred a_lA0 a_lA1 a_arity) (how : cd_own nc nl st a_lOwner)
    (eg : cg_base a_lPred a_arity (st nc) (cg_oc a_lA0 a_lA1 0 (st nc) && cg_oc a_lA0 a_lA1 1 (st nc)) 4 = g) (h5 : g ≤ 5) (hgt : yn_gt nc st a_lSign a_lPred a_lA0 a_lA1 a_arity a_gtab) (hsnd : ye_snd nc g st a_lSign a_lPred a_lA0 a_lA1 a_arity a_cl)
    (hkb : ∀ t, t < 512 → a_kBind t = -1) {r : Nat} (hr : r < 4 * nc) (hall : ∀ j, st (r / 4) ≤ j → j < st (r / 4 + 1) → ye_C a_cl (cg_YL nc st a_lSign a_lPred a_lA0 a_lA1 a_arity j r) 0)
    (h : ∀ (n : Nat) (y2 y3 : Int32) (kK kA kB kb pL pP pS : Nat → Int32), cr_ky nc st a_lSign a_lPred a_lA0 a_lA1 n kK kA kB kb →
      post 1 (nI nc, nI nl, f_kept, nI n, f_bN, f_sealed, f_lastStep, f_cNodes, f_cSp, y2, y3, a_lSign, a_lPred, a_lA0, a_lA1, a_lOwner, a_arity, kK, kA, kB, kb, a_bKind, a_bA, a_bB, a_bBind, a_cCopy, a_cLit, a_cPar, a_cStk, a_cl, a_gtab, pL, pP, pS)) :
    wY_build_61 post (nI r) (nI nc) (nI nl) f_kept f_kN f_bN f_sealed f_lastStep f_cNodes f_cSp f_pNodes f_pSp a_lSign a_lPred a_lA0 a_lA1 a_lOwner a_arity a_kKind a_kA a_kB a_kBind a_bKind a_bA a_bB a_bBind a_cCopy a_cLit a_cPar a_cStk a_cl a_gtab a_pLit a_pPar a_pStk := by
  have hnc := hw.1
  have hM := hw.2.2.2.2.1
  have hnl := hw.2.1
  obtain ⟨b1, b2, b3⟩ := cd_en_bd hw (show r / 4 ≤ nc by omega)
  rw [cd_en_lt (by omega)] at b1 b2 b3
  have hst := cd_mono' hw (c := r / 4 + 1) (d := nc) (by omega) (Nat.le_refl _)
  have ed : nI r / 4 = nI (r / 4) := by
    rw [show (4 : Int32) = nI 4 from rfl, pk_div (by omega) (by omega) (by omega)]
  have er : nI r - nI (r / 4) * 4 = nI (r % 4) := by
    rw [show (4 : Int32) = nI 4 from rfl, pk_mul, pk_sub (by omega)]
    exact congrArg nI (by omega)
  have ed2 : nI (r % 4) / 2 = nI (r % 4 / 2) := by
    rw [show (2 : Int32) = nI 2 from rfl, pk_div (by omega) (by omega) (by omega)]
  have er2 : nI (r % 4) - nI (r % 4 / 2) * 2 = nI (r % 4 % 2) := by
    rw [show (2 : Int32) = nI 2 from rfl, pk_mul, pk_sub (by omega)]
    exact congrArg nI (by omega)
  unfold wY_build_61
  rw [ed, er, ed2, er2]
  refine br_t (nI_pos' (by omega)) (nm_e ⟨by decide, nm_e (nm_e ⟨by decide, by decide, ?_⟩)⟩)
  refine yu_const hw how (nm_e ⟨by decide, by decide, ?_⟩)
  refine yu_const hw how (nm_e ⟨by decide, by decide, ?_⟩)
  have lsl : (xg_ls 16 (st (r / 4 + 1) - st (r / 4)) (st (r / 4))).length ≤ 3 := by
    have := ck_gl_len (copy := 0) (sk := 16) (p := []) (st (r / 4 + 1) - st (r / 4)) (st (r / 4))
    rw [xg_gl, List.length_map] at this
    omega
  refine yb_push hw how hgt (N := 0) (S := 0) (sk := 16) hr (fun j hj => ?_) (by omega) (by omega) (fun pL pP pS hag hs hrep => br_f (by decide) ⟨190, ?_⟩)
  · constructor
    · intro z
      have := congrArg Int32.toInt z
      rw [nI_toInt (by omega), show (-1 : Int32).toInt = -1 from by decide] at this
      omega
    · intro z
      omega
  · rw [Nat.zero_add]
    have inv : yb_inv nc st a_lSign a_lPred a_lA0 a_lA1 a_arity (ye_C a_cl) 1 (ck_gl 0 16 [] (st (r / 4 + 1) - st (r / 4)) (st (r / 4))) (fun _ => r) (xg_ls 16 (st (r / 4 + 1) - st (r / 4)) (st (r / 4))).length
        (upd a_kKind 0 0) (upd a_kA 0 (nI (r / 4))) (upd a_kB 0 0) (upd (upd a_kBind 0 (nI (cg_uc (cg_oc a_lA0 a_lA1 0 (st nc)) (cg_oc a_lA0 a_lA1 1 (st nc)) (r % 4 % 2)))) 1 (nI (cg_uc (cg_oc a_lA0 a_lA1 0 (st nc)) (cg_oc a_lA0 a_lA1 1 (st nc)) (r % 4 / 2)))) pL pP pS := by
      refine ⟨by omega, ?_, ?_, pk_us, pk_us, fun j hj hK => ?_, fun t ht => ?_, ?_, ck_rch_1⟩
      · rw [ck_pot_gl, xg_gl, List.length_map]
        have e63 : cm_w ([] : List (Nat × Nat)).length = 63 := by decide
        rw [e63]
        omega
      · rw [xg_gl, List.length_map]
        omega
      · have : j = 0 := by omega
        subst this
        exact ⟨hr, by rw [pk_un (by decide)]; exact pk_us, pk_us⟩
      · by_cases e1 : t = 1
        · rw [e1, pk_us]
          exact yb_uc01 _ _ (by omega)
        · rw [pk_un e1]
          by_cases e2 : t = 0
          · rw [e2, pk_us]
            exact yb_uc01 _ _ (by omega)
          · rw [pk_un e2]
            exact Or.inl (hkb t ht)
      · rw [xg_gl, ← List.append_nil ((xg_ls 16 (st (r / 4 + 1) - st (r / 4)) (st (r / 4))).map (fun l => ((0, l, []) : ck_G)))]
        have hpar : ∀ d', 0 ≤ d' → ∀ l', pL d' = nI (yb_F nc st a_lSign a_lPred a_lA0 a_lA1 a_arity (fun _ => r) (0, l')) → pP d' = -1 → yb_nd pL pP (yb_F nc st a_lSign a_lPred a_lA0 a_lA1 a_arity (fun _ => r)) [] d' (0, l') := fun d' _ l' y1 y2 => ⟨y1, y2⟩
        refine yb_stk_app (R := []) (N := 0) (x4 := -1) hpar trivial (by omega) (fun l' hl' => ?_) hrep
        have hl2 := xg_ls_mem hl'
        refine ⟨by dsimp only; omega, by dsimp only; rw [pk_us]; decide, ⟨by dsimp only; omega, by dsimp only; omega⟩, (fun e he => by cases he), trivial, (fun z => by cases z), fun _ => ?_⟩
        exact hall l' (by omega) (by omega)
    refine yb_loop hw how eg h5 hgt hsnd h 189 1 _ _ _ _ _ _ _ _ _ _ _ ?_ ?_ inv
    · have := inv.2.1
      omega
    · rw [xg_gl, List.length_map]
theorem yb_build {post : Int32 → SY → Prop} {nc nl g : Nat} {st : Nat → Nat} (hw : cd_wf nc nl st a_lSign a_lPred a_lA0 a_lA1 a_arity) (how : cd_own nc nl st a_lOwner)
    (eg : cg_base a_lPred a_arity (st nc) (cg_oc a_lA0 a_lA1 0 (st nc) && cg_oc a_lA0 a_lA1 1 (st nc)) 4 = g) (h5 : g ≤ 5) (hgt : yn_gt nc st a_lSign a_lPred a_lA0 a_lA1 a_arity a_gtab) (hsnd : ye_snd nc g st a_lSign a_lPred a_lA0 a_lA1 a_arity a_cl)
    {r0 : Nat} (hr0 : r0 < 4 * nc) (hall0 : ∀ j, st (r0 / 4) ≤ j → j < st (r0 / 4 + 1) → ye_C a_cl (cg_YL nc st a_lSign a_lPred a_lA0 a_lA1 a_arity j r0) 0)
    (h : ∀ (n : Nat) (y2 y3 : Int32) (kK kA kB kb pL pP pS : Nat → Int32), cr_ky nc st a_lSign a_lPred a_lA0 a_lA1 n kK kA kB kb →
      post 1 (nI nc, nI nl, f_kept, nI n, f_bN, f_sealed, f_lastStep, f_cNodes, f_cSp, y2, y3, a_lSign, a_lPred, a_lA0, a_lA1, a_lOwner, a_arity, kK, kA, kB, kb, a_bKind, a_bA, a_bB, a_bBind, a_cCopy, a_cLit, a_cPar, a_cStk, a_cl, a_gtab, pL, pP, pS)) :
    wpY_build post (nI nc, nI nl, f_kept, f_kN, f_bN, f_sealed, f_lastStep, f_cNodes, f_cSp, f_pNodes, f_pSp, a_lSign, a_lPred, a_lA0, a_lA1, a_lOwner, a_arity, a_kKind, a_kA, a_kB, a_kBind, a_bKind, a_bA, a_bB, a_bBind, a_cCopy, a_cLit, a_cPar, a_cStk, a_cl, a_gtab, a_pLit, a_pPar, a_pStk) := by
  have hnc := hw.1
  have e4 : nI nc * 4 = nI (4 * nc) := by
    rw [show (4 : Int32) = nI 4 from rfl, pk_mul, Nat.mul_comm]
  refine loop_0 (fun n i s => wY_build_2 post (nI nc) (nI nl) f_kept f_kN f_bN f_sealed f_lastStep f_cNodes f_cSp f_pNodes f_pSp n (nI i) a_lSign a_lPred a_lA0 a_lA1 a_lOwner a_arity a_kKind a_kA a_kB s a_bKind a_bA a_bB a_bBind a_cCopy a_cLit a_cPar a_cStk a_cl a_gtab a_pLit a_pPar a_pStk) (fun i s => ∀ j, j < i → s j = -1) 512 a_kBind (fun j hj => absurd hj (Nat.not_lt_zero j)) ?_ ?_
  · intro n s hs
    refine br_t (nI_le (a := 512) (b := 512) (Nat.le_refl _) (by decide)) ?_
    have key : ∀ d q : Nat, q + d = r0 → wY_build_26 post (nI nc) (nI nl) f_kept f_kN f_bN f_sealed f_lastStep f_cNodes f_cSp f_pNodes f_pSp a_lSign a_lPred a_lA0 a_lA1 a_lOwner a_arity a_kKind a_kA a_kB s a_bKind a_bA a_bB a_bBind a_cCopy a_cLit a_cPar a_cStk a_cl a_gtab a_pLit a_pPar a_pStk (d + 2) (-1) (nI q) := by
      intro d
      induction d with
      | zero =>
        intro q hq
        have eq : q = r0 := by omega
        subst eq
        have ed : nI q / 4 = nI (q / 4) := by
          rw [show (4 : Int32) = nI 4 from rfl, pk_div (by omega) (by omega) (by omega)]
        have er : nI q - nI q / 4 * 4 = nI (q % 4) := by
          rw [show (4 : Int32) = nI 4 from rfl, pk_rem (by omega) (by omega) (by omega)]
        have fin := yb_61 (f_kN := f_kN) (f_pNodes := f_pNodes) (f_pSp := f_pSp) (a_kKind := a_kKind) (a_kA := a_kA) (a_kB := a_kB) (a_kBind := s) (a_pLit := a_pLit) (a_pPar := a_pPar) (a_pStk := a_pStk) hw how eg h5 hgt hsnd hs hr0 hall0 h
        refine br_f (by rw [e4]; exact nI_ge (by omega) (by omega)) (br_f (by decide) ⟨by decide, by decide, ?_⟩)
        rw [er, ed]
        refine yb_start hw how eg h5 hgt hr0 (fun _ => br_f (by decide) (nm_e (br_c (fun _ => fin) (fun _ => br_t (nI_pos' (by omega)) fin)))) (fun z => absurd hall0 z)
      | succ d ih =>
        intro q hq
        have ed : nI q / 4 = nI (q / 4) := by
          rw [show (4 : Int32) = nI 4 from rfl, pk_div (by omega) (by omega) (by omega)]
        have er : nI q - nI q / 4 * 4 = nI (q % 4) := by
          rw [show (4 : Int32) = nI 4 from rfl, pk_rem (by omega) (by omega) (by omega)]
        refine br_f (by rw [e4]; exact nI_ge (by omega) (by omega)) (br_f (by decide) ⟨by decide, by decide, ?_⟩)
        rw [er, ed]
        refine yb_start hw how eg h5 hgt (show q < 4 * nc by omega) (fun z => ?_) (fun z => br_t rfl (nm_r (nI_1 q) (ih (q + 1) (by omega))))
        have fin := yb_61 (f_kN := f_kN) (f_pNodes := f_pNodes) (f_pSp := f_pSp) (a_kKind := a_kKind) (a_kA := a_kA) (a_kB := a_kB) (a_kBind := s) (a_pLit := a_pLit) (a_pPar := a_pPar) (a_pStk := a_pStk) hw how eg h5 hgt hsnd hs (show q < 4 * nc by omega) z h
        exact br_f (by decide) (nm_e (br_c (fun _ => fin) (fun _ => br_t (nI_pos' (by omega)) fin)))
    exact ⟨_, key r0 0 (by omega)⟩
  · intro n i s hi hs ih
    refine br_f (nI_ge (b := 512) hi (by decide)) ⟨vp_in_nI hi (by decide), ?_⟩
    rw [nI_clamp (show i < 2 ^ 31 by omega)]
    refine nm_e (nm_r (nI_1 i) (ih _ (fun j hj => ?_)))
    by_cases e : j = i
    · rw [e, pk_us]
    · rw [pk_un e]
      exact hs j (by omega)
theorem ye_passes {post : Int32 → SY → Prop} {nc nl g : Nat} {st : Nat → Nat} (hw : cd_wf nc nl st a_lSign a_lPred a_lA0 a_lA1 a_arity) (how : cd_own nc nl st a_lOwner)
    (eg : cg_base a_lPred a_arity (st nc) (cg_oc a_lA0 a_lA1 0 (st nc) && cg_oc a_lA0 a_lA1 1 (st nc)) 4 = g) (h5 : g ≤ 5) (hgt : yn_gt nc st a_lSign a_lPred a_lA0 a_lA1 a_arity a_gtab)
    (hun : ¬ cm_sat (cg_HY nc st a_lSign a_lPred a_lA0 a_lA1 a_arity) (fun q => q < 4 * nc) (fun _ => False))
    (h : ∀ (n : Nat) (y2 y3 : Int32) (kK kA kB kb a pL pP pS : Nat → Int32), cr_ky nc st a_lSign a_lPred a_lA0 a_lA1 n kK kA kB kb →
      post 1 (nI nc, nI nl, 1, nI n, f_bN, f_sealed, f_lastStep, f_cNodes, f_cSp, y2, y3, a_lSign, a_lPred, a_lA0, a_lA1, a_lOwner, a_arity, kK, kA, kB, kb, a_bKind, a_bA, a_bB, a_bBind, a_cCopy, a_cLit, a_cPar, a_cStk, a, a_gtab, pL, pP, pS)) :
    ∀ d p : Nat, p + d = 7 → ∀ a : Nat → Int32, ye_snd nc g st a_lSign a_lPred a_lA0 a_lA1 a_arity a → ye_lv nc g st a_lSign a_lPred a_lA0 a_lA1 a_arity (ye_C a) p →
      wY_prove_125 post (nI (2 * g)) (nI (3 ^ g)) (nI nc) (nI nl) f_kept f_kN f_bN f_sealed f_lastStep f_cNodes f_cSp f_pNodes f_pSp (d + 1) (nI p) a_lSign a_lPred a_lA0 a_lA1 a_lOwner a_arity a_kKind a_kA a_kB a_kBind a_bKind a_bA a_bB a_bBind a_cCopy a_cLit a_cPar a_cStk a a_gtab a_pLit a_pPar a_pStk := by
  have hnc := hw.1
  have hM := hw.2.2.2.2.1
  intro d
  induction d with
  | zero =>
    intro p hp a hs hl
    have : p = 7 := by omega
    subst this
    refine br_t (nI_le (a := 7) (b := 7) (Nat.le_refl _) (by decide)) ?_
    -- a start
    obtain ⟨R', r1, r2, r3⟩ := cm_thin (cg_HY nc st a_lSign a_lPred a_lA0 a_lA1 a_arity) (fun q => q < 4 * nc) (fun _ => False) hun (4 * nc)
    have hex : ∃ q, R' q := by
      apply Classical.byContradiction
      intro hno
      exact r2 ⟨fun _ => true, fun q hq => absurd ⟨q, hq⟩ hno, fun _ z => z.elim⟩
    obtain ⟨q0, hq0⟩ := hex
    have hq4 := r1 q0 hq0
    have hst := cd_mono' hw (c := q0 / 4 + 1) (d := nc) (by omega) (Nat.le_refl _)
    refine yb_build hw how eg h5 hgt hs hq4 (fun j j1 j2 => ?_) (fun n y2 y3 kK kA kB kb pL pP pS hk => ⟨rfl, rfl, br_f (by decide) (h n y2 y3 kK kA kB kb a pL pP pS hk)⟩)
    have hY := cg_YL_lt (q := q0) hw (show j < st nc by omega)
    rw [eg] at hY
    refine hl [] _ (cm_del R' q0) trivial (fun k hk => by cases hk) (by omega) (fun r hr => r1 r hr.1) ?_ (by decide)
    refine cm_goal_congr (fun _ => Iff.rfl) (fun k => ⟨fun z => z.elim, fun z => by cases z⟩) (cm_goal_next r2 (r3 q0 hq4 hq0) ⟨j, j1, j2, rfl⟩)
  | succ d ih =>
    intro p hp a hs hl
    refine br_f (nI_ge (b := 7) (by omega) (by decide)) ⟨_, ye_pass hw how eg h5 hgt (a0 := a) (fun a' _ hs' hp' => ?_) 2430 0 (by omega) a (fun _ y => y) hs (fun m s _ _ hlt => absurd hlt (Nat.not_lt_zero _))⟩
    rw [nI_1]
    exact ih (p + 1) (by omega) a' hs' (ye_lv_s hw eg h5 hl hp')
theorem ye_table {post : Int32 → SY → Prop} {nc nl g : Nat} {st : Nat → Nat} (hw : cd_wf nc nl st a_lSign a_lPred a_lA0 a_lA1 a_arity) (how : cd_own nc nl st a_lOwner)
    (eg : cg_base a_lPred a_arity (st nc) (cg_oc a_lA0 a_lA1 0 (st nc) && cg_oc a_lA0 a_lA1 1 (st nc)) 4 = g) (h5 : g ≤ 5) (hgt : yn_gt nc st a_lSign a_lPred a_lA0 a_lA1 a_arity a_gtab)
    (hun : ¬ cm_sat (cg_HY nc st a_lSign a_lPred a_lA0 a_lA1 a_arity) (fun q => q < 4 * nc) (fun _ => False))
    (h : ∀ (n : Nat) (y2 y3 : Int32) (kK kA kB kb a pL pP pS : Nat → Int32), cr_ky nc st a_lSign a_lPred a_lA0 a_lA1 n kK kA kB kb →
      post 1 (nI nc, nI nl, 1, nI n, f_bN, f_sealed, f_lastStep, f_cNodes, f_cSp, y2, y3, a_lSign, a_lPred, a_lA0, a_lA1, a_lOwner, a_arity, kK, kA, kB, kb, a_bKind, a_bA, a_bB, a_bBind, a_cCopy, a_cLit, a_cPar, a_cStk, a, a_gtab, pL, pP, pS)) :
    ∃ n92 : Nat, wY_prove_92 post (nI g) (nI nc) (nI nl) f_kept f_kN f_bN f_sealed f_lastStep f_cNodes f_cSp f_pNodes f_pSp n92 0 a_lSign a_lPred a_lA0 a_lA1 a_lOwner a_arity a_kKind a_kA a_kB a_kBind a_bKind a_bA a_bB a_bBind a_cCopy a_cLit a_cPar a_cStk a_cl a_gtab a_pLit a_pPar a_pStk := by
  refine loop_0 (fun n i s => wY_prove_92 post (nI g) (nI nc) (nI nl) f_kept f_kN f_bN f_sealed f_lastStep f_cNodes f_cSp f_pNodes f_pSp n (nI i) a_lSign a_lPred a_lA0 a_lA1 a_lOwner a_arity a_kKind a_kA a_kB a_kBind a_bKind a_bA a_bB a_bBind a_cCopy a_cLit a_cPar a_cStk s a_gtab a_pLit a_pPar a_pStk) (fun i s => ∀ j, j < i → s j = 0) 2430 a_cl (fun j hj => absurd hj (Nat.not_lt_zero j)) ?_ ?_
  · intro n s hs
    have e2 : 2 * nI g = nI (2 * g) := by rw [show (2 : Int32) = nI 2 from rfl, pk_mul]
    refine br_t (nI_le (a := 2430) (b := 2430) (Nat.le_refl _) (by decide)) (nm_r e2 ?_)
    refine yu_pow3 (by omega) ⟨8, ?_⟩
    exact ye_passes hw how eg h5 hgt hun h 7 0 (by omega) s (fun m t hm ht hC => absurd (hs (m * 243 + t) (by omega)) hC) ye_lv_0
  · intro n i s hi hs ih
    refine br_f (nI_ge (b := 2430) hi (by decide)) ⟨vp_in_nI hi (by decide), ?_⟩
    rw [ye_n0, nI_clamp (show i < 2 ^ 31 by omega)]
    refine nm_e (nm_r (nI_1 i) (ih _ (fun j hj => ?_)))
    by_cases e : j = i
    · rw [e, pk_us]
    · rw [pk_un e]
      exact hs j (by omega)
theorem yb_prove {post : Int32 → SY → Prop} {nc nl : Nat} {st : Nat → Nat} (hw : cd_wf nc nl st a_lSign a_lPred a_lA0 a_lA1 a_arity) (how : cd_own nc nl st a_lOwner)
    (hbig : ¬ cg_base a_lPred a_arity (st nc) (cg_oc a_lA0 a_lA1 0 (st nc) && cg_oc a_lA0 a_lA1 1 (st nc)) 4 ≤ 5 → post (-4) (nI nc, nI nl, f_kept, f_kN, f_bN, f_sealed, f_lastStep, f_cNodes, f_cSp, f_pNodes, f_pSp, a_lSign, a_lPred, a_lA0, a_lA1, a_lOwner, a_arity, a_kKind, a_kA, a_kB, a_kBind, a_bKind, a_bA, a_bB, a_bBind, a_cCopy, a_cLit, a_cPar, a_cStk, a_cl, a_gtab, a_pLit, a_pPar, a_pStk))
    (hno : cg_base a_lPred a_arity (st nc) (cg_oc a_lA0 a_lA1 0 (st nc) && cg_oc a_lA0 a_lA1 1 (st nc)) 4 ≤ 5 → cm_sat (cg_HY nc st a_lSign a_lPred a_lA0 a_lA1 a_arity) (fun q => q < 4 * nc) (fun _ => False) → ∀ gt : Nat → Int32,
      post 2 (nI nc, nI nl, 0, f_kN, f_bN, f_sealed, f_lastStep, f_cNodes, f_cSp, f_pNodes, f_pSp, a_lSign, a_lPred, a_lA0, a_lA1, a_lOwner, a_arity, a_kKind, a_kA, a_kB, a_kBind, a_bKind, a_bA, a_bB, a_bBind, a_cCopy, a_cLit, a_cPar, a_cStk, a_cl, gt, a_pLit, a_pPar, a_pStk))
    (hyes : cg_base a_lPred a_arity (st nc) (cg_oc a_lA0 a_lA1 0 (st nc) && cg_oc a_lA0 a_lA1 1 (st nc)) 4 ≤ 5 → ¬ cm_sat (cg_HY nc st a_lSign a_lPred a_lA0 a_lA1 a_arity) (fun q => q < 4 * nc) (fun _ => False) → ∀ (n : Nat) (y2 y3 : Int32) (kK kA kB kb a gt pL pP pS : Nat → Int32), cr_ky nc st a_lSign a_lPred a_lA0 a_lA1 n kK kA kB kb →
      post 1 (nI nc, nI nl, 1, nI n, f_bN, f_sealed, f_lastStep, f_cNodes, f_cSp, y2, y3, a_lSign, a_lPred, a_lA0, a_lA1, a_lOwner, a_arity, kK, kA, kB, kb, a_bKind, a_bA, a_bB, a_bBind, a_cCopy, a_cLit, a_cPar, a_cStk, a, gt, pL, pP, pS)) :
    wpY_prove post (nI nc, nI nl, f_kept, f_kN, f_bN, f_sealed, f_lastStep, f_cNodes, f_cSp, f_pNodes, f_pSp, a_lSign, a_lPred, a_lA0, a_lA1, a_lOwner, a_arity, a_kKind, a_kA, a_kB, a_kBind, a_bKind, a_bA, a_bB, a_bBind, a_cCopy, a_cLit, a_cPar, a_cStk, a_cl, a_gtab, a_pLit, a_pPar, a_pStk) := by
  have hnc := hw.1
  have hM := hw.2.2.2.2.1
  have hnl := hw.2.1
  refine yu_count hw how ?_
  have b16 := cg_base_16 (two := (cg_oc a_lA0 a_lA1 0 (st nc) && cg_oc a_lA0 a_lA1 1 (st nc))) hw
  refine pk_le _ 5 (fun h5 => ?_) (fun h5 => hbig (by omega)) rfl rfl b16 (by omega)
  generalize eg : cg_base a_lPred a_arity (st nc) (cg_oc a_lA0 a_lA1 0 (st nc) && cg_oc a_lA0 a_lA1 1 (st nc)) 4 = g at *
  have rows : ∀ d j : Nat, j + d = nl → ∀ gt : Nat → Int32, (∀ j' k, j' < j → j' < st nc → k < 4 → gt (j' * 4 + k) = nI (cg_YL nc st a_lSign a_lPred a_lA0 a_lA1 a_arity j' k)) →
      wY_prove_15 post (nI g) (nI nc) (nI nl) f_kept f_kN f_bN f_sealed f_lastStep f_cNodes f_cSp f_pNodes f_pSp (d + 1) (nI j) a_lSign a_lPred a_lA0 a_lA1 a_lOwner a_arity a_kKind a_kA a_kB a_kBind a_bKind a_bA a_bB a_bBind a_cCopy a_cLit a_cPar a_cStk a_cl gt a_pLit a_pPar a_pStk := by
    intro d
    induction d with
    | zero =>
      intro j hj gt hgt
      have hgt' : yn_gt nc st a_lSign a_lPred a_lA0 a_lA1 a_arity gt := fun j' k h1 h2 => hgt j' k (by omega) h1 h2
      refine br_t (nI_le (by omega) (by omega)) ?_
      refine yn_unsat hw how eg h5 hgt' (fun z => br_f (by decide) ?_) (fun z => br_t rfl (hno h5 z gt))
      exact ye_table hw how eg h5 hgt' z (fun n y2 y3 kK kA kB kb a pL pP pS hk => hyes h5 z n y2 y3 kK kA kB kb a gt pL pP pS hk)
    | succ d ih =>
      intro j hj gt hgt
      refine br_f (nI_ge (show j < nl by omega) (by omega)) ?_
      have hin : vp_in (nI j) 16 := vp_in_nI (by omega) (by decide)
      have inner : ∀ d2 k : Nat, k + d2 = 4 → ∀ gt : Nat → Int32, (∀ j' k, j' < j → j' < st nc → k < 4 → gt (j' * 4 + k) = nI (cg_YL nc st a_lSign a_lPred a_lA0 a_lA1 a_arity j' k)) → (∀ k', k' < k → j < st nc → gt (j * 4 + k') = nI (cg_YL nc st a_lSign a_lPred a_lA0 a_lA1 a_arity j k')) →
          wY_prove_25 post (wY_prove_15 post (nI g) (nI nc) (nI nl) f_kept f_kN f_bN f_sealed f_lastStep f_cNodes f_cSp f_pNodes f_pSp (d + 1)) (nI g) (nI j) (nI nc) (nI nl) f_kept f_kN f_bN f_sealed f_lastStep f_cNodes f_cSp f_pNodes f_pSp (d2 + 1) (nI k) a_lSign a_lPred a_lA0 a_lA1 a_lOwner a_arity a_kKind a_kA a_kB a_kBind a_bKind a_bA a_bB a_bBind a_cCopy a_cLit a_cPar a_cStk a_cl gt a_pLit a_pPar a_pStk := by
        intro d2
        induction d2 with
        | zero =>
          intro k hk gt hg1 hg2
          have : k = 4 := by omega
          subst this
          refine br_t (nI_le (a := 4) (b := 4) (Nat.le_refl _) (by decide)) (nm_r (nI_1 j) (ih (j + 1) (by omega) gt (fun j' k' h1 h2 h3 => ?_)))
          by_cases e : j' = j
          · subst e
            exact hg2 k' h3 h2
          · exact hg1 j' k' (by omega) h2 h3
        | succ d2 ih2 =>
          intro k hk gt hg1 hg2
          have eix : nI j * 4 + nI k = nI (j * 4 + k) := by
            rw [show (4 : Int32) = nI 4 from rfl, pk_mul, nI_add]
          have inI : vp_in (nI (j * 4 + k)) 64 := vp_in_nI (by omega) (by decide)
          have clI : (nI (j * 4 + k)).toNatClampNeg = j * 4 + k := nI_clamp (by omega)
          have next : ∀ x : Int32, (j < st nc → x = nI (cg_YL nc st a_lSign a_lPred a_lA0 a_lA1 a_arity j k)) → wY_prove_25 post (wY_prove_15 post (nI g) (nI nc) (nI nl) f_kept f_kN f_bN f_sealed f_lastStep f_cNodes f_cSp f_pNodes f_pSp (d + 1)) (nI g) (nI j) (nI nc) (nI nl) f_kept f_kN f_bN f_sealed f_lastStep f_cNodes f_cSp f_pNodes f_pSp (d2 + 1) (nI (k + 1)) a_lSign a_lPred a_lA0 a_lA1 a_lOwner a_arity a_kKind a_kA a_kB a_kBind a_bKind a_bA a_bB a_bBind a_cCopy a_cLit a_cPar a_cStk a_cl (upd gt (j * 4 + k) x) a_pLit a_pPar a_pStk := by
            intro x hx
            refine ih2 (k + 1) (by omega) _ (fun j' k' h1 h2 h3 => ?_) (fun k' h1 h2 => ?_)
            · rw [pk_un (by omega)]
              exact hg1 j' k' h1 h2 h3
            · by_cases e : k' = k
              · subst e
                rw [pk_us]
                exact hx h2
              · rw [pk_un (by omega)]
                exact hg2 k' (by omega) h2
          refine br_f (nI_ge (b := 4) (by omega) (by decide)) ⟨hin, ?_⟩
          rw [nI_clamp (show j < 2 ^ 31 by omega)]
          obtain ⟨c, hc, eo, b1, b2⟩ := how j (by omega)
          rw [eo]
          refine pk_le nc c (fun z => ?_) (fun z => ?_)
          · rw [eix, clI]
            refine ⟨inI, nm_e (nm_r (nI_1 k) (next 0 (fun hlt => ?_)))⟩
            have : c = nc := by omega
            subst this
            omega
          · rw [cd_en_lt z] at b2
            have hst := cd_mono' hw (c := c + 1) (d := nc) (by omega) (Nat.le_refl _)
            refine yu_lit hw how (show j < st nc by omega) (show k < 4 by omega) (q := k) (by omega) ?_
            rw [eix, clI]
            exact ⟨inI, nm_e (nm_r (nI_1 k) (next _ (fun _ => rfl)))⟩
      exact ⟨_, inner 4 0 (by omega) gt hgt (fun k' hk' => absurd hk' (Nat.not_lt_zero k'))⟩
  exact ⟨_, rows nl 0 (by omega) a_gtab (fun j' k hj' => absurd hj' (Nat.not_lt_zero j'))⟩
end
theorem i_vc_prove {k : Nat} {u : SX} {v : SY} (I : i_Rel k u v) (hk : k + 5 ≤ 2560) : wpX_prove (fun r u' => wpY_prove (fun r' v' => r' = r ∧ i_Rel (k + 5) u' v') v) u := by
  obtain ⟨nc, nl, st, sl, kp, ls, ns, bn, kc, kn, sg, pr, a0, a1, ar, cs, ow, xK, xA, xB, bd, yK, yA, yB, yb, kK, kA, kB, kI, zK, zA, zB, zb, lh, ph, x0, x1, x2, x3, y0, y1, y2, y3, X0, X1, X2, X3, X4, X5, X6, X7, X8, Y0, Y1, Y2, Y3, Y4, Y5, Y6, Y7, Y8, rfl, rfl, h⟩ := I
  obtain ⟨⟨hw, hcs, how⟩, hfx, h3, h4⟩ := id h
  refine xw_prove hw hcs hfx (fun hb => ?_) (fun h5 hs x1' x2' x3' ab il ih => ?_) (fun h5 hs n x0' x1' x2' x3' kK' kA' kB' kI' oc ol pc pl ph' ab il ih ri ql hp0 hkx => ?_)
  · exact yb_prove hw how (fun _ => ⟨rfl, i_mk h⟩) (fun h5 => absurd h5 hb) (fun h5 => absurd h5 hb)
  · exact yb_prove hw how (fun hb => absurd h5 hb) (fun _ _ gt => ⟨rfl, i_mk ⟨h.1, hfx, h3, Or.inl rfl⟩⟩) (fun _ hu => absurd (cg_XY.mp hs) hu)
  · exact yb_prove hw how (fun hb => absurd h5 hb) (fun _ hs' => absurd (cg_XY.mpr hs') hs) (fun _ _ n' y2' y3' zK' zA' zB' zb' a gt pL pP pS hky => ⟨rfl, i_mk ⟨h.1, ⟨hfx.1, hp0⟩, h3, Or.inr ⟨rfl, hkx, hky⟩⟩⟩)
end
section
section
variable {f_litCount f_clauseCount f_stepCount f_bufferSealed f_lastCheckStep f_keptCount f_proofKept f_openCount f_universeSize f_neededInstances f_givenLiterals : Int32} {a_litSign a_litPred a_litArg0 a_litArg1 a_clauseStart a_predArity a_stepKind a_stepA a_stepB a_binding a_keptKind a_keptA a_keptB a_keptInstance a_openCopy a_openLit a_parentCopy a_parentLit a_pathLength a_atomBase a_instanceLits a_instanceHolds a_literalHolds a_restInstances a_pathLiterals : Nat → Int32}
theorem xt_tab {post : SX → Prop} (h : ∀ lh : Nat → Int32, (∀ a, a < 5 → lh (2 * a) = xt_in a 32 ∧ lh (2 * a + 1) = xt_in a 32 ^^^ (-1)) → post (f_litCount, f_clauseCount, f_stepCount, f_bufferSealed, f_lastCheckStep, f_keptCount, f_proofKept, f_openCount, f_universeSize, f_neededInstances, f_givenLiterals, a_litSign, a_litPred, a_litArg0, a_litArg1, a_clauseStart, a_predArity, a_stepKind, a_stepA, a_stepB, a_binding, a_keptKind, a_keptA, a_keptB, a_keptInstance, a_openCopy, a_openLit, a_parentCopy, a_parentLit, a_pathLength, a_atomBase, a_instanceLits, a_instanceHolds, lh, a_restInstances, a_pathLiterals)) : wpX_tabulateLiterals post (f_litCount, f_clauseCount, f_stepCount, f_bufferSealed, f_lastCheckStep, f_keptCount, f_proofKept, f_openCount, f_universeSize, f_neededInstances, f_givenLiterals, a_litSign, a_litPred, a_litArg0, a_litArg1, a_clauseStart, a_predArity, a_stepKind, a_stepA, a_stepB, a_binding, a_keptKind, a_keptA, a_keptB, a_keptInstance, a_openCopy, a_openLit, a_parentCopy, a_parentLit, a_pathLength, a_atomBase, a_instanceLits, a_instanceHolds, a_literalHolds, a_restInstances, a_pathLiterals) := by
  refine loop_0 (fun n i s => wX_tabulateLiterals_2 post f_litCount f_clauseCount f_stepCount f_bufferSealed f_lastCheckStep f_keptCount f_proofKept f_openCount f_universeSize f_neededInstances f_givenLiterals n (nI i) a_litSign a_litPred a_litArg0 a_litArg1 a_clauseStart a_predArity a_stepKind a_stepA a_stepB a_binding a_keptKind a_keptA a_keptB a_keptInstance a_openCopy a_openLit a_parentCopy a_parentLit a_pathLength a_atomBase a_instanceLits a_instanceHolds s a_restInstances a_pathLiterals) (fun i s => ∀ a, a < i → s (2 * a) = xt_in a 32 ∧ s (2 * a + 1) = xt_in a 32 ^^^ (-1)) 5 a_literalHolds (fun a ha => absurd ha (Nat.not_lt_zero a)) ?_ ?_
  · intro n s hs
    exact br_t (nI_le (a := 5) (b := 5) (Nat.le_refl _) (by decide)) (h s hs)
  · intro n i s hi hs ih
    refine br_f (nI_ge (b := 5) hi (by decide)) ?_
    have key : ∀ d k : Nat, k + d = 32 → wX_tabulateLiterals_11 post (wX_tabulateLiterals_2 post f_litCount f_clauseCount f_stepCount f_bufferSealed f_lastCheckStep f_keptCount f_proofKept f_openCount f_universeSize f_neededInstances f_givenLiterals n) (nI i) f_litCount f_clauseCount f_stepCount f_bufferSealed f_lastCheckStep f_keptCount f_proofKept f_openCount f_universeSize f_neededInstances f_givenLiterals a_litSign a_litPred a_litArg0 a_litArg1 a_clauseStart a_predArity a_stepKind a_stepA a_stepB a_binding a_keptKind a_keptA a_keptB a_keptInstance a_openCopy a_openLit a_parentCopy a_parentLit a_pathLength a_atomBase a_instanceLits a_instanceHolds s a_restInstances a_pathLiterals (d + 1) (xt_in i k) (nI k) := by
      intro d
      induction d with
      | zero =>
        intro k hk
        have : k = 32 := by omega
        subst this
        have e2 : (2 : Int32) * nI i = nI (2 * i) := by
          rw [show (2 : Int32) = nI 2 from rfl, pk_mul]
        refine br_t (nI_le (a := 32) (b := 32) (Nat.le_refl _) (by decide)) ?_
        rw [e2, nI_1, nI_clamp (show 2 * i < 2 ^ 31 by omega), nI_clamp (show 2 * i + 1 < 2 ^ 31 by omega)]
        refine ⟨vp_in_nI (by omega) (by decide), nm_e ⟨vp_in_nI (by omega) (by decide), nm_e (nm_r (nI_1 i) (ih _ (fun a ha => ?_)))⟩⟩
        by_cases e : a = i
        · subst e
          rw [pk_us, pk_un (by omega), pk_us]
          exact ⟨rfl, rfl⟩
        · rw [pk_un (by omega), pk_un (by omega), pk_un (by omega), pk_un (by omega)]
          exact hs a (by omega)
      | succ d IH =>
        intro k hk
        exact br_f (nI_ge (b := 32) (by omega) (by decide)) (nm_e (nm_r (nI_1 k) (IH (k + 1) (by omega))))
    exact ⟨_, key 32 0 (by omega)⟩
end
section
variable {f_clauseCount f_litCount f_kept f_kN f_bN f_sealed f_lastStep f_cNodes f_cSp f_pNodes f_pSp : Int32} {a_lSign a_lPred a_lA0 a_lA1 a_lOwner a_arity a_kKind a_kA a_kB a_kBind a_bKind a_bA a_bB a_bBind a_cCopy a_cLit a_cPar a_cStk a_cl a_gtab a_pLit a_pPar a_pStk : Nat → Int32}
theorem yt_init {post : SY → Prop} (h : ∀ ar kb bb : Nat → Int32, (∀ p, p < 4 → ar p = -1) → (∀ p, 4 ≤ p → ar p = a_arity p) → (∀ t, t < 512 → bb t = -1) → post (f_clauseCount, f_litCount, f_kept, f_kN, f_bN, f_sealed, -1, f_cNodes, f_cSp, f_pNodes, f_pSp, a_lSign, a_lPred, a_lA0, a_lA1, a_lOwner, ar, a_kKind, a_kA, a_kB, kb, a_bKind, a_bA, a_bB, bb, a_cCopy, a_cLit, a_cPar, a_cStk, a_cl, a_gtab, a_pLit, a_pPar, a_pStk)) :
    ∃ n205 : Nat, wY_init_205 post f_clauseCount f_litCount f_kept f_kN f_bN f_sealed f_lastStep f_cNodes f_cSp f_pNodes f_pSp n205 0 a_lSign a_lPred a_lA0 a_lA1 a_lOwner a_arity a_kKind a_kA a_kB a_kBind a_bKind a_bA a_bB a_bBind a_cCopy a_cLit a_cPar a_cStk a_cl a_gtab a_pLit a_pPar a_pStk := by
  refine loop_0 (fun n i s => wY_init_205 post f_clauseCount f_litCount f_kept f_kN f_bN f_sealed f_lastStep f_cNodes f_cSp f_pNodes f_pSp n (nI i) a_lSign a_lPred a_lA0 a_lA1 a_lOwner s a_kKind a_kA a_kB a_kBind a_bKind a_bA a_bB a_bBind a_cCopy a_cLit a_cPar a_cStk a_cl a_gtab a_pLit a_pPar a_pStk) (fun i s => s = xe_m1 i a_arity) 4 a_arity (xe_m1_0 _) ?_ ?_
  · intro n s hs
    subst hs
    refine br_t (nI_le (a := 4) (b := 4) (Nat.le_refl _) (by decide)) ?_
    refine loop_0 (fun n i (t : (Nat → Int32) × (Nat → Int32)) => wY_init_225 post f_clauseCount f_litCount f_kept f_kN f_bN f_sealed f_lastStep f_cNodes f_cSp f_pNodes f_pSp n (nI i) a_lSign a_lPred a_lA0 a_lA1 a_lOwner (xe_m1 4 a_arity) a_kKind a_kA a_kB t.1 a_bKind a_bA a_bB t.2 a_cCopy a_cLit a_cPar a_cStk a_cl a_gtab a_pLit a_pPar a_pStk) (fun i t => ∀ j, j < i → t.2 j = -1) 512 (a_kBind, a_bBind) (fun j hj => absurd hj (Nat.not_lt_zero j)) ?_ ?_
    · intro n t ht
      exact br_t (nI_le (a := 512) (b := 512) (Nat.le_refl _) (by decide)) (h _ _ _ (fun p hp => if_pos hp) (fun p hp => if_neg (by omega)) ht)
    · intro n i t hi ht ih
      have hin : vp_in (nI i) 512 := vp_in_nI hi (by decide)
      refine br_f (nI_ge (b := 512) hi (by decide)) ⟨hin, ?_⟩
      rw [nI_clamp (show i < 2 ^ 31 by omega)]
      refine nm_e ⟨hin, nm_e (nm_r (nI_1 i) (ih (upd t.1 i (-1), upd t.2 i (-1)) (fun j hj => ?_)))⟩
      try dsimp only
      by_cases e : j = i
      · rw [e, pk_us]
      · rw [pk_un e]
        exact ht j (by omega)
  · intro n i s hi hs ih
    subst hs
    exact br_f (nI_ge (b := 4) hi (by decide)) ⟨vp_in_nI hi (by decide), nm_r (xe_m1_s (by omega)) (nm_r (nI_1 i) (ih _ rfl))⟩
end
theorem i_vc0 : wpX_init (fun u => wpY_init (fun v => i_Rel 0 u v)) := by
  refine xt_tab (fun lh hlh => ?_)
  refine xe_empty (xe_remove ?_)
  refine yt_init (fun ar kb bb har har2 hbb => ?_)
  have ear : ar = xe_m1 4 (fun _ => 0) := by
    funext p
    by_cases hp : p < 4
    · rw [har p hp]
      exact (if_pos hp).symm
    · rw [har2 p (by omega)]
      exact (if_neg hp).symm
  subst ear
  refine i_mk (nc := 0) (nl := 0) (st := fun _ => 0) (ns := 0) (bn := 0) (kc := 0) (kn := 0) ⟨⟨⟨Nat.zero_le _, Nat.zero_le _, rfl, fun c hc => absurd hc (Nat.not_lt_zero c), Nat.zero_le _, Nat.zero_le _, fun j hj => absurd hj (Nat.not_lt_zero j), fun p hp => Or.inl (if_pos hp)⟩, fun c hc => rfl, fun j hj => absurd hj (Nat.not_lt_zero j)⟩, ⟨hlh, rfl⟩, ⟨by omega, by omega, Or.inl ⟨rfl, rfl, fun i hi => absurd hi (Nat.not_lt_zero i), fun t => t, cr_bx_id _, ?_⟩⟩, Or.inl rfl⟩
  refine ⟨rfl, rfl, fun t ht => ⟨ht, fun h2 => ?_⟩⟩
  show bb (t - 2) = if t = t then -1 else nI t
  rw [if_pos rfl]
  exact hbb (t - 2) (by omega)
end
