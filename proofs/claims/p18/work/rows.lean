section
def bt (x : Int32) (i : Nat) : Bool := x.toBitVec.getLsbD i
theorem b_ext {x y : Int32} (h : ∀ i, i < 32 → bt x i = bt y i) : x = y := Int32.toBitVec_inj.mp (BitVec.eq_of_getLsbD_eq (fun i hi => h i hi))
theorem b_or (x y : Int32) (i : Nat) : bt (x ||| y) i = (bt x i || bt y i) := by unfold bt; rw [Int32.toBitVec_or, BitVec.getLsbD_or]
theorem b_and (x y : Int32) (i : Nat) : bt (x &&& y) i = (bt x i && bt y i) := by unfold bt; rw [Int32.toBitVec_and, BitVec.getLsbD_and]
theorem b_xor (x y : Int32) (i : Nat) : bt (x ^^^ y) i = (bt x i ^^ bt y i) := by unfold bt; rw [Int32.toBitVec_xor, BitVec.getLsbD_xor]
theorem b_m1 : ∀ i, i < 32 → bt (-1) i = true := by decide +kernel
theorem b_0 (i : Nat) : bt 0 i = false := BitVec.getLsbD_zero
theorem s_l : ∀ n, n < 32 → ((nI n &&& 31).toBitVec.smod 32).toNat = n := by decide +kernel
theorem b_shl (n : Nat) (hn : n < 32) (x : Int32) {i : Nat} (hi : i < 32) : bt (x <<< (nI n &&& 31)) i = (decide (n ≤ i) && bt x (i - n)) := by
  unfold bt
  rw [Int32.toBitVec_shiftLeft]
  show (x.toBitVec <<< ((nI n &&& 31).toBitVec.smod 32).toNat).getLsbD i = _
  rw [s_l n hn, BitVec.getLsbD_shiftLeft]
  rcases Nat.lt_or_ge i n with h | h
  · simp [h, Nat.not_le.mpr h]
  · simp [hi, h, Nat.not_lt.mpr h]
theorem b_sshr (n : Nat) (hn : n < 32) (x : Int32) {i : Nat} (hi : i < 32) : bt (x >>> (nI n &&& 31)) i = if n + i < 32 then bt x (n + i) else bt x 31 := by
  unfold bt
  rw [Int32.toBitVec_shiftRight]
  show (x.toBitVec.sshiftRight ((nI n &&& 31).toBitVec.smod 32).toNat).getLsbD i = _
  rw [s_l n hn, BitVec.getLsbD_sshiftRight, BitVec.msb_eq_getLsbD_last]
  simp [hi]
end
section
/-! the mathematics of both provers: literals are 2 * atom + sign, H q m says that the ground clause q holds the literal m -/
def cq_tr (f : Nat → Bool) (m : Nat) : Prop := f (m / 2) = decide (m % 2 = 0)
def cq_neg (m : Nat) : Nat := if m % 2 = 0 then m + 1 else m - 1
def cq_sat (H : Nat → Nat → Prop) (R G : Nat → Prop) : Prop :=
  ∃ f : Nat → Bool, (∀ q, R q → ∃ m, H q m ∧ cq_tr f m) ∧ (∀ m, G m → cq_tr f m)
def cq_add (G : Nat → Prop) (m : Nat) : Nat → Prop := fun k => G k ∨ k = m
def cq_del (R : Nat → Prop) (q : Nat) : Nat → Prop := fun k => R k ∧ k ≠ q
theorem cq_neg_div (m : Nat) : cq_neg m / 2 = m / 2 := by
  unfold cq_neg; split <;> omega
theorem cq_neg_mod (m : Nat) : cq_neg m % 2 = 1 - m % 2 := by
  unfold cq_neg; split <;> omega
theorem cq_neg_of {k m : Nat} (e : k / 2 = m / 2) (n : k ≠ m) : k = cq_neg m := by
  unfold cq_neg; split <;> omega
theorem cq_neg_neg (m : Nat) : cq_neg (cq_neg m) = m := by
  have h1 := cq_neg_div m
  have h2 := cq_neg_mod m
  have h3 := cq_neg_div (cq_neg m)
  have h4 := cq_neg_mod (cq_neg m)
  omega
theorem cq_neg_ne (m : Nat) : cq_neg m ≠ m := by
  unfold cq_neg; split <;> omega
theorem cq_sat_mono {H : Nat → Nat → Prop} {R R' G G' : Nat → Prop} (hR : ∀ q, R' q → R q) (hG : ∀ m, G' m → G m)
    (h : cq_sat H R G) : cq_sat H R' G' := by
  obtain ⟨f, h1, h2⟩ := h
  exact ⟨f, fun q hq => h1 q (hR q hq), fun m hm => h2 m (hG m hm)⟩
/-- turning K true breaks something: its complement stands in a needed ground clause -/
theorem cq_partner {H : Nat → Nat → Prop} {R R' G : Nat → Prop} {m : Nat} (hs : cq_sat H R G)
    (hu : ¬ cq_sat H R' (cq_add G m)) (hR : ∀ q, R' q → R q) (hn : ¬ G (cq_neg m)) : ∃ q, R' q ∧ H q (cq_neg m) := by
  obtain ⟨f, h1, h2⟩ := hs
  apply Classical.byContradiction
  intro hne
  apply hu
  refine ⟨fun a => if a = m / 2 then decide (m % 2 = 0) else f a, ?_, ?_⟩
  · intro q hq
    obtain ⟨k, hk, tk⟩ := h1 q (hR q hq)
    by_cases e : k / 2 = m / 2
    · by_cases e2 : k = m
      · refine ⟨k, hk, ?_⟩
        unfold cq_tr
        dsimp only
        rw [if_pos e, e2]
      · have e3 := cq_neg_of e e2
        exact absurd ⟨q, hq, e3 ▸ hk⟩ hne
    · refine ⟨k, hk, ?_⟩
      unfold cq_tr at tk ⊢
      dsimp only
      rw [if_neg e]
      exact tk
  · intro k hk
    by_cases e : k / 2 = m / 2
    · by_cases e2 : k = m
      · unfold cq_tr
        dsimp only
        rw [if_pos e, e2]
      · have e3 := cq_neg_of e e2
        rcases hk with hk | hk
        · exact absurd (e3 ▸ hk) hn
        · exact absurd hk e2
    · rcases hk with hk | hk
      · have t := h2 k hk
        unfold cq_tr at t ⊢
        dsimp only
        rw [if_neg e]
        exact t
      · exact absurd (by rw [hk]) e
theorem cq_thin (H : Nat → Nat → Prop) (R G : Nat → Prop) (hu : ¬ cq_sat H R G) : ∀ n : Nat, ∃ R' : Nat → Prop,
    (∀ q, R' q → R q) ∧ ¬ cq_sat H R' G ∧ ∀ q, q < n → R' q → cq_sat H (cq_del R' q) G := by
  intro n
  induction n with
  | zero => exact ⟨R, fun _ h => h, hu, fun q h => absurd h (Nat.not_lt_zero q)⟩
  | succ n ih =>
    obtain ⟨R', a, b, c⟩ := ih
    by_cases h : cq_sat H (cq_del R' n) G
    · refine ⟨R', a, b, fun q hq r => ?_⟩
      by_cases e : q = n
      · rw [e]; exact h
      · exact c q (by omega) r
    · refine ⟨cq_del R' n, fun q r => a q r.1, h, fun q hq r => ?_⟩
      have hne := r.2
      exact cq_sat_mono (fun k hk => ⟨hk.1.1, hk.2⟩) (fun _ h => h) (c q (by omega) r.1)
theorem cq_rest {H : Nat → Nat → Prop} {R G : Nat → Prop} {q K : Nat} (hu : ¬ cq_sat H R G) (hK : H q K) :
    ¬ cq_sat H (cq_del R q) (cq_add G K) := by
  intro hs
  obtain ⟨f, h1, h2⟩ := hs
  apply hu
  refine ⟨f, fun k hk => ?_, fun m hm => h2 m (Or.inl hm)⟩
  by_cases e : k = q
  · exact ⟨K, by rw [e]; exact hK, h2 K (Or.inr rfl)⟩
  · exact h1 k ⟨hk, e⟩
/-- what is known of a goal K: the rest R and the path G hold somewhere, but nowhere with K -/
def cq_goal (H : Nat → Nat → Prop) (R G : Nat → Prop) (K : Nat) : Prop := cq_sat H R G ∧ ¬ cq_sat H R (cq_add G K)
theorem cq_goal_new {H : Nat → Nat → Prop} {R G : Nat → Prop} {K : Nat} (h : cq_goal H R G K) : ¬ G K := by
  intro hG
  exact h.2 (cq_sat_mono (fun _ h => h) (fun m hm => hm.elim (fun h => h) (fun e => e ▸ hG)) h.1)
theorem cq_goal_next {H : Nat → Nat → Prop} {R G : Nat → Prop} {q K : Nat} (hu : ¬ cq_sat H R G)
    (hm : cq_sat H (cq_del R q) G) (hK : H q K) : cq_goal H (cq_del R q) G K := ⟨hm, cq_rest hu hK⟩
theorem cq_goal_congr {H : Nat → Nat → Prop} {R R' G G' : Nat → Prop} {K : Nat} (hR : ∀ q, R q ↔ R' q) (hG : ∀ q, G q ↔ G' q)
    (h : cq_goal H R G K) : cq_goal H R' G' K := by
  refine ⟨cq_sat_mono (fun q hq => (hR q).mpr hq) (fun q hq => (hG q).mpr hq) h.1, fun hs => h.2 ?_⟩
  exact cq_sat_mono (fun q hq => (hR q).mp hq) (fun q hq => hq.elim (fun z => Or.inl ((hG q).mp z)) Or.inr) hs
/-- the paths: literals of distinct atoms, five atoms at most -/
def cq_us (ms : List Nat) (a : Nat) : Bool := ms.any (fun k => k / 2 == a)
def cq_cnt (ms : List Nat) : Nat := (cq_us ms 0).toNat + (cq_us ms 1).toNat + (cq_us ms 2).toNat + (cq_us ms 3).toNat + (cq_us ms 4).toNat
def cq_ok : List Nat → Prop
  | [] => True
  | m :: ms => m / 2 < 5 ∧ cq_us ms (m / 2) = false ∧ cq_ok ms
theorem cq_us_cons (m : Nat) (ms : List Nat) (a : Nat) : cq_us (m :: ms) a = ((m / 2 == a) || cq_us ms a) := rfl
theorem cq_us_iff (ms : List Nat) (a : Nat) : cq_us ms a = true ↔ ∃ k, k ∈ ms ∧ k / 2 = a := by
  unfold cq_us
  rw [List.any_eq_true]
  constructor
  · intro ⟨k, h1, h2⟩
    exact ⟨k, h1, by simpa using h2⟩
  · intro ⟨k, h1, h2⟩
    exact ⟨k, h1, by simpa using h2⟩
theorem cq_us_false {ms : List Nat} {m : Nat} (h1 : m ∉ ms) (h2 : cq_neg m ∉ ms) : cq_us ms (m / 2) = false := by
  cases h : cq_us ms (m / 2) with
  | false => rfl
  | true =>
    obtain ⟨k, hk, e⟩ := (cq_us_iff ms (m / 2)).mp h
    by_cases e2 : k = m
    · exact absurd (e2 ▸ hk) h1
    · exact absurd (cq_neg_of e e2 ▸ hk) h2
theorem cq_cnt_cons {m : Nat} {ms : List Nat} (h : m / 2 < 5) (hn : cq_us ms (m / 2) = false) : cq_cnt (m :: ms) = cq_cnt ms + 1 := by
  unfold cq_cnt
  simp only [cq_us_cons]
  generalize m / 2 = a at h hn ⊢
  have : a = 0 ∨ a = 1 ∨ a = 2 ∨ a = 3 ∨ a = 4 := by omega
  rcases this with e | e | e | e | e <;> subst e <;> rw [hn] <;> simp <;> omega
theorem cq_cnt_ok : ∀ {ms : List Nat}, cq_ok ms → cq_cnt ms = ms.length
  | [], _ => rfl
  | m :: ms, h => by rw [cq_cnt_cons h.1 h.2.1, cq_cnt_ok h.2.2, List.length_cons]
theorem cq_cnt_le (ms : List Nat) : cq_cnt ms ≤ 5 := by
  unfold cq_cnt
  have h0 := Bool.toNat_le (cq_us ms 0)
  have h1 := Bool.toNat_le (cq_us ms 1)
  have h2 := Bool.toNat_le (cq_us ms 2)
  have h3 := Bool.toNat_le (cq_us ms 3)
  have h4 := Bool.toNat_le (cq_us ms 4)
  omega
/-- a goal that can't be reduced has at most four literals above it -/
theorem cq_len4 {ms : List Nat} {m : Nat} (h : cq_ok ms) (hm : m / 2 < 5) (h1 : m ∉ ms) (h2 : cq_neg m ∉ ms) : ms.length ≤ 4 ∧ cq_ok (m :: ms) := by
  have hu := cq_us_false h1 h2
  have e := cq_cnt_cons hm hu
  have l := cq_cnt_le (m :: ms)
  rw [cq_cnt_ok h] at e
  exact ⟨by omega, hm, hu, h⟩
/-- the steps that a goal below d literals may cost -/
def cq_w (d : Nat) : Nat := 2 ^ (6 - d) - 1
theorem cq_w_pos {d : Nat} (h : d ≤ 5) : 1 ≤ cq_w d := by
  have : d = 0 ∨ d = 1 ∨ d = 2 ∨ d = 3 ∨ d = 4 ∨ d = 5 := by omega
  rcases this with e | e | e | e | e | e <;> subst e <;> decide
theorem cq_w_succ {d : Nat} (h : d ≤ 4) : cq_w d = 2 * cq_w (d + 1) + 1 := by
  have : d = 0 ∨ d = 1 ∨ d = 2 ∨ d = 3 ∨ d = 4 := by omega
  rcases this with e | e | e | e | e <;> subst e <;> decide
end
section
/-! the check, pure: goals are (copy, literal, path), the path's last entry first; b is the binding by term numbers -/
abbrev ck_G : Type := Nat × Nat × List (Nat × Nat)
def ck_res (b : Nat → Nat) : Nat → Nat → Option Nat
  | 0, _ => none
  | n + 1, t => if b t = t then some t else ck_res b n (b t)
def ck_tm (copy t : Nat) : Nat := if t < 2 then t else 2 * copy + t
def ck_ar (x y : Int32) : Nat := if x = -1 then 0 else if y = -1 then 1 else 2
def ck_ag (a0 a1 : Nat → Int32) (l p : Nat) : Nat := if p = 0 then (a0 l).toNatClampNeg else (a1 l).toNatClampNeg
def ck_ps (b : Nat → Nat) (A1 A2 : Nat → Nat) : Nat → Nat → Int32
  | 0, _ => 0
  | r + 1, p => match ck_res b 513 (A1 p), ck_res b 513 (A2 p) with
    | some x, some y => if x = y then ck_ps b A1 A2 r (p + 1) else -16
    | some _, none => -17
    | none, _ => -17
def ck_conn (sg pr a0 a1 : Nat → Int32) (b : Nat → Nat) (c1 l1 c2 l2 : Nat) : Int32 :=
  if sg l1 = sg l2 ∨ ¬ pr l1 = pr l2 then -15
  else ck_ps b (fun p => ck_tm c1 (ck_ag a0 a1 l1 p)) (fun p => ck_tm c2 (ck_ag a0 a1 l2 p)) (ck_ar (a0 l1) (a1 l1)) 0
/-- the goals of a copy: literals j .. j + n - 1 but sk, the smallest on top -/
def ck_gl (copy sk : Nat) (p : List (Nat × Nat)) : Nat → Nat → List ck_G
  | 0, _ => []
  | n + 1, j => if j = sk then ck_gl copy sk p n (j + 1) else (copy, j, p) :: ck_gl copy sk p n (j + 1)
def ck_out (x : Int32) (n : Nat) : Prop := x < 0 ∨ nI n ≤ x
theorem ck_out_or (x : Int32) {n : Nat} (hn : n < 2 ^ 31) : ck_out x n ∨ (¬ ck_out x n ∧ ∃ j, j < n ∧ x = nI j) := by
  by_cases h : x < 0
  · exact Or.inl (Or.inl h)
  · obtain ⟨j, hj, e⟩ := nI_of h
    by_cases h2 : nI n ≤ x
    · exact Or.inl (Or.inr h2)
    · refine Or.inr ⟨fun z => z.elim h h2, j, ?_, e⟩
      rw [e, nI_leI hn hj] at h2
      omega
theorem ck_out_nI {j n : Nat} (h : j < n) (hn : n < 2 ^ 31) : ¬ ck_out (nI j) n := by
  intro z
  rcases z with z | z
  · exact nI_pos (by omega) z
  · rw [nI_leI hn (by omega)] at z
    omega
theorem ck_out_nI' {j n : Nat} (h : n ≤ j) (hj : j < 2 ^ 31) : ck_out (nI j) n := Or.inr (nI_le h hj)
noncomputable def ck_if {α : Type} (p : Prop) (x y : α) : α := @ite α p (Classical.propDecidable p) x y
theorem ck_if_t {α : Type} {p : Prop} {x y : α} (h : p) : ck_if p x y = x := if_pos h
theorem ck_if_f {α : Type} {p : Prop} {x y : α} (h : ¬ p) : ck_if p x y = y := if_neg h
noncomputable def ck_step (nc : Nat) (st : Nat → Nat) (sg pr a0 a1 : Nat → Int32) (K A B : Nat → Int32) (b : Nat → Nat) (i : Nat) (L : List ck_G) : Int32 × List ck_G :=
  match L with
  | [] => (-18, [])
  | (c, l, p) :: R =>
    ck_if (K i = 0) (-11, R)
    (ck_if (K i = 1)
      (ck_if (ck_out (A i) nc) (-12, R)
        (ck_if (ck_out (B i) (st ((A i).toNatClampNeg + 1) - st (A i).toNatClampNeg)) (-13, R)
          (ck_if (ck_conn sg pr a0 a1 b c l i (st (A i).toNatClampNeg + (B i).toNatClampNeg) = 0)
            (0, ck_gl i (st (A i).toNatClampNeg + (B i).toNatClampNeg) ((c, l) :: p) (st ((A i).toNatClampNeg + 1) - st (A i).toNatClampNeg) (st (A i).toNatClampNeg) ++ R)
            (ck_conn sg pr a0 a1 b c l i (st (A i).toNatClampNeg + (B i).toNatClampNeg), R))))
      (ck_if (ck_out (A i) p.length) (-14, R)
        (ck_conn sg pr a0 a1 b c l (p.getD (p.length - 1 - (A i).toNatClampNeg) (0, 0)).1 (p.getD (p.length - 1 - (A i).toNatClampNeg) (0, 0)).2, R)))
noncomputable def ck_go (nc : Nat) (st : Nat → Nat) (sg pr a0 a1 : Nat → Int32) (K A B : Nat → Int32) (b : Nat → Nat) : Nat → Nat → List ck_G → Int32 × Int32
  | 0, i, L => if L.isEmpty then (0, -1) else (-19, nI i)
  | r + 1, i, L => if (ck_step nc st sg pr a0 a1 K A B b i L).1 = 0 then ck_go nc st sg pr a0 a1 K A B b r (i + 1) (ck_step nc st sg pr a0 a1 K A B b i L).2
    else ((ck_step nc st sg pr a0 a1 K A B b i L).1, nI i)
noncomputable def ck_all (nc : Nat) (st : Nat → Nat) (sg pr a0 a1 : Nat → Int32) (K A B : Nat → Int32) (b : Nat → Nat) (n : Nat) : Int32 × Int32 :=
  if n = 0 then (-10, 0) else
  if K 0 = 0 then
    ck_if (ck_out (A 0) nc) (-12, 0)
      (ck_go nc st sg pr a0 a1 K A B b (n - 1) 1 (ck_gl 0 16 [] (st ((A 0).toNatClampNeg + 1) - st (A 0).toNatClampNeg) (st (A 0).toNatClampNeg)))
  else (-11, 0)
/-! a proof under way: V0, V1 are the constants of a copy's two variables -/
def ck_bok (K : Nat → Int32) (V0 V1 : Nat → Nat) (m : Nat) (b : Nat → Nat) : Prop :=
  b 0 = 0 ∧ b 1 = 1 ∧ ∀ j, j < m → ¬ K j = 2 → b (2 * j + 2) = V0 j ∧ b (2 * j + 3) = V1 j
def ck_rch (nc : Nat) (st : Nat → Nat) (sg pr a0 a1 : Nat → Int32) (K A B : Nat → Int32) (V0 V1 : Nat → Nat) (L1 : List ck_G) (m : Nat) (L : List ck_G) : Prop :=
  ∀ (K' A' B' : Nat → Int32) (b : Nat → Nat), (∀ j, j < m → K' j = K j ∧ A' j = A j ∧ B' j = B j) → ck_bok K V0 V1 m b →
    ∀ r, ck_go nc st sg pr a0 a1 K' A' B' b (r + (m - 1)) 1 L1 = ck_go nc st sg pr a0 a1 K' A' B' b r m L
/-- the constant of an argument in copy j -/
def ck_gv (V0 V1 : Nat → Nat) (j t : Nat) : Nat := if t = 2 then V0 j else if t = 3 then V1 j else t
theorem ck_res0 {b : Nat → Nat} {n t : Nat} (h : b t = t) : ck_res b (n + 1) t = some t := by
  unfold ck_res; rw [if_pos h]
theorem ck_res_gv {K : Nat → Int32} {V0 V1 : Nat → Nat} {m : Nat} {b : Nat → Nat} (hb : ck_bok K V0 V1 m b) {j t : Nat} (hj : j < m) (hK : ¬ K j = 2)
    (ht : t < 4) (h0 : V0 j < 2) (h1 : V1 j < 2) : ck_res b 513 (ck_tm j t) = some (ck_gv V0 V1 j t) := by
  obtain ⟨b0, b1, bv⟩ := hb
  have bc : ∀ v, v < 2 → b v = v := by
    intro v hv
    have : v = 0 ∨ v = 1 := by omega
    rcases this with e | e <;> rw [e] <;> assumption
  obtain ⟨bv0, bv1⟩ := bv j hj hK
  have cases4 : t < 2 ∨ t = 2 ∨ t = 3 := by omega
  rcases cases4 with e | e | e
  · have e2 : ck_gv V0 V1 j t = t := by
      unfold ck_gv; rw [if_neg (by omega), if_neg (by omega)]
    have e3 : ck_tm j t = t := by unfold ck_tm; rw [if_pos e]
    rw [e2, e3]
    exact ck_res0 (bc t e)
  · subst e
    have e2 : ck_gv V0 V1 j 2 = V0 j := by unfold ck_gv; rw [if_pos rfl]
    have e3 : ck_tm j 2 = 2 * j + 2 := by unfold ck_tm; rw [if_neg (by omega)]
    rw [e2, e3]
    show ck_res b (512 + 1) (2 * j + 2) = _
    unfold ck_res
    rw [if_neg (by rw [bv0]; omega), bv0]
    exact ck_res0 (n := 511) (bc _ h0)
  · subst e
    have e2 : ck_gv V0 V1 j 3 = V1 j := by unfold ck_gv; rw [if_neg (by omega), if_pos rfl]
    have e3 : ck_tm j 3 = 2 * j + 3 := by unfold ck_tm; rw [if_neg (by omega)]
    rw [e2, e3]
    show ck_res b (512 + 1) (2 * j + 3) = _
    unfold ck_res
    rw [if_neg (by rw [bv1]; omega), bv1]
    exact ck_res0 (n := 511) (bc _ h1)
/-- a ground connection between the literal l1 of copy c1 and l2 of copy c2 -/
def ck_gc (sg pr a0 a1 : Nat → Int32) (V0 V1 : Nat → Nat) (c1 l1 c2 l2 : Nat) : Prop :=
  ¬ sg l1 = sg l2 ∧ pr l1 = pr l2 ∧
    ∀ p, p < ck_ar (a0 l1) (a1 l1) → ck_ag a0 a1 l1 p < 4 ∧ ck_ag a0 a1 l2 p < 4 ∧ ck_gv V0 V1 c1 (ck_ag a0 a1 l1 p) = ck_gv V0 V1 c2 (ck_ag a0 a1 l2 p)
theorem ck_ps_ok {b A1 A2 : Nat → Nat} : ∀ (r p : Nat), (∀ q, p ≤ q → q < p + r → ∃ v, ck_res b 513 (A1 q) = some v ∧ ck_res b 513 (A2 q) = some v) → ck_ps b A1 A2 r p = 0
  | 0, _, _ => rfl
  | r + 1, p, h => by
    obtain ⟨v, e1, e2⟩ := h p (Nat.le_refl p) (by omega)
    unfold ck_ps
    rw [e1, e2]
    show (if v = v then ck_ps b A1 A2 r (p + 1) else -16) = 0
    rw [if_pos rfl]
    exact ck_ps_ok r (p + 1) (fun q h1 h2 => h q (by omega) (by omega))
theorem ck_conn_ok {sg pr a0 a1 : Nat → Int32} {K : Nat → Int32} {V0 V1 : Nat → Nat} {m : Nat} {b : Nat → Nat} (hb : ck_bok K V0 V1 m b)
    {c1 l1 c2 l2 : Nat} (h1 : c1 < m) (k1 : ¬ K c1 = 2) (h2 : c2 < m) (k2 : ¬ K c2 = 2) (hv : ∀ j, j < m → ¬ K j = 2 → V0 j < 2 ∧ V1 j < 2)
    (h : ck_gc sg pr a0 a1 V0 V1 c1 l1 c2 l2) : ck_conn sg pr a0 a1 b c1 l1 c2 l2 = 0 := by
  obtain ⟨hs, hp, ha⟩ := h
  unfold ck_conn
  rw [if_neg (fun z => z.elim hs (fun y => y hp))]
  apply ck_ps_ok
  intro q _ hq
  obtain ⟨t1, t2, e⟩ := ha q (by omega)
  refine ⟨ck_gv V0 V1 c1 (ck_ag a0 a1 l1 q), ?_, ?_⟩
  · exact ck_res_gv hb h1 k1 t1 (hv c1 h1 k1).1 (hv c1 h1 k1).2
  · rw [e]
    exact ck_res_gv hb h2 k2 t2 (hv c2 h2 k2).1 (hv c2 h2 k2).2
theorem ck_rch_1 {nc : Nat} {st : Nat → Nat} {sg pr a0 a1 : Nat → Int32} {K A B : Nat → Int32} {V0 V1 : Nat → Nat} {L1 : List ck_G} :
    ck_rch nc st sg pr a0 a1 K A B V0 V1 L1 1 L1 := fun _ _ _ _ _ _ _ => rfl
/-- arrays that agree below m -/
def ck_agr (K A B : Nat → Int32) (V0 V1 : Nat → Nat) (K1 A1 B1 : Nat → Int32) (W0 W1 : Nat → Nat) (m : Nat) : Prop :=
  ∀ j, j < m → K1 j = K j ∧ A1 j = A j ∧ B1 j = B j ∧ (¬ K j = 2 → W0 j = V0 j ∧ W1 j = V1 j)
theorem ck_agr_bok {K A B : Nat → Int32} {V0 V1 : Nat → Nat} {K1 A1 B1 : Nat → Int32} {W0 W1 : Nat → Nat} {m : Nat} {b : Nat → Nat}
    (h : ck_agr K A B V0 V1 K1 A1 B1 W0 W1 m) (hb : ck_bok K1 W0 W1 (m + 1) b) : ck_bok K V0 V1 m b := by
  obtain ⟨b0, b1, bv⟩ := hb
  refine ⟨b0, b1, fun j hj hK => ?_⟩
  obtain ⟨e, _, _, e2⟩ := h j hj
  obtain ⟨w0, w1⟩ := bv j (by omega) (by rw [e]; exact hK)
  obtain ⟨v0, v1⟩ := e2 hK
  exact ⟨w0.trans v0, w1.trans v1⟩
theorem ck_rch_ext {nc : Nat} {st : Nat → Nat} {sg pr a0 a1 : Nat → Int32} {K A B : Nat → Int32} {V0 V1 : Nat → Nat} {L1 : List ck_G} {m : Nat}
    {c l : Nat} {p : List (Nat × Nat)} {R : List ck_G} (h : ck_rch nc st sg pr a0 a1 K A B V0 V1 L1 m ((c, l, p) :: R)) (hm : 1 ≤ m)
    {K1 A1 B1 : Nat → Int32} {W0 W1 : Nat → Nat} (ha : ck_agr K A B V0 V1 K1 A1 B1 W0 W1 m) {a bb : Nat} (eK : K1 m = 1) (eA : A1 m = nI a) (eB : B1 m = nI bb)
    (hnc : nc ≤ 8) (hac : a < nc) (hbb : bb < st (a + 1) - st a) (hst : st (a + 1) - st a < 2 ^ 31) (hc : c < m) (hKc : ¬ K c = 2)
    (hv : ∀ j, j < m + 1 → ¬ K1 j = 2 → W0 j < 2 ∧ W1 j < 2) (hg : ck_gc sg pr a0 a1 W0 W1 c l m (st a + bb)) :
    ck_rch nc st sg pr a0 a1 K1 A1 B1 W0 W1 L1 (m + 1) (ck_gl m (st a + bb) ((c, l) :: p) (st (a + 1) - st a) (st a) ++ R) := by
  intro K' A' B' b hag hb r
  have h2 := h K' A' B' b (fun j hj => by
    obtain ⟨x, y, z⟩ := hag j (by omega)
    obtain ⟨x', y', z', _⟩ := ha j hj
    exact ⟨x.trans x', y.trans y', z.trans z'⟩) (ck_agr_bok ha hb) (r + 1)
  have e1 : r + (m + 1 - 1) = r + 1 + (m - 1) := by omega
  rw [e1, h2]
  obtain ⟨kK, kA, kB⟩ := hag m (by omega)
  have ca : (nI a).toNatClampNeg = a := nI_clamp (by omega)
  have cb : (nI bb).toNatClampNeg = bb := nI_clamp (by omega)
  have hcn : ck_conn sg pr a0 a1 b c l m (st a + bb) = 0 :=
    ck_conn_ok hb (by omega) (by rw [(ha c hc).1]; exact hKc) (by omega) (by rw [eK]; decide) hv hg
  have hs : ck_step nc st sg pr a0 a1 K' A' B' b m ((c, l, p) :: R) = (0, ck_gl m (st a + bb) ((c, l) :: p) (st (a + 1) - st a) (st a) ++ R) := by
    unfold ck_step
    dsimp only
    rw [kK, kA, kB, eK, eA, eB, ca, cb]
    rw [ck_if_f (by decide), ck_if_t rfl, ck_if_f (ck_out_nI hac (by omega)), ck_if_f (ck_out_nI hbb hst), ck_if_t hcn]
  show ck_go nc st sg pr a0 a1 K' A' B' b (r + 1) m ((c, l, p) :: R) = _
  rw [ck_go, hs, if_pos rfl]
theorem ck_rch_red {nc : Nat} {st : Nat → Nat} {sg pr a0 a1 : Nat → Int32} {K A B : Nat → Int32} {V0 V1 : Nat → Nat} {L1 : List ck_G} {m : Nat}
    {c l : Nat} {p : List (Nat × Nat)} {R : List ck_G} (h : ck_rch nc st sg pr a0 a1 K A B V0 V1 L1 m ((c, l, p) :: R)) (hm : 1 ≤ m)
    {K1 A1 B1 : Nat → Int32} {W0 W1 : Nat → Nat} (ha : ck_agr K A B V0 V1 K1 A1 B1 W0 W1 m) {e c2 l2 : Nat} (eK : K1 m = 2) (eA : A1 m = nI e)
    (he : e < p.length) (hp : p.length < 2 ^ 31) (hx : p.getD (p.length - 1 - e) (0, 0) = (c2, l2)) (hc : c < m) (hKc : ¬ K c = 2) (hc2 : c2 < m) (hKc2 : ¬ K c2 = 2)
    (hv : ∀ j, j < m + 1 → ¬ K1 j = 2 → W0 j < 2 ∧ W1 j < 2) (hg : ck_gc sg pr a0 a1 W0 W1 c l c2 l2) :
    ck_rch nc st sg pr a0 a1 K1 A1 B1 W0 W1 L1 (m + 1) R := by
  intro K' A' B' b hag hb r
  have h2 := h K' A' B' b (fun j hj => by
    obtain ⟨x, y, z⟩ := hag j (by omega)
    obtain ⟨x', y', z', _⟩ := ha j hj
    exact ⟨x.trans x', y.trans y', z.trans z'⟩) (ck_agr_bok ha hb) (r + 1)
  have e1 : r + (m + 1 - 1) = r + 1 + (m - 1) := by omega
  rw [e1, h2]
  obtain ⟨kK, kA, _⟩ := hag m (by omega)
  have ca : (nI e).toNatClampNeg = e := nI_clamp (by omega)
  have hcn : ck_conn sg pr a0 a1 b c l c2 l2 = 0 :=
    ck_conn_ok hb (by omega) (by rw [(ha c hc).1]; exact hKc) (by omega) (by rw [(ha c2 hc2).1]; exact hKc2) hv hg
  have hs : ck_step nc st sg pr a0 a1 K' A' B' b m ((c, l, p) :: R) = (0, R) := by
    unfold ck_step
    dsimp only
    rw [kK, kA, eK, eA, ca, hx]
    rw [ck_if_f (by decide), ck_if_f (by decide), ck_if_f (ck_out_nI he hp), hcn]
  show ck_go nc st sg pr a0 a1 K' A' B' b (r + 1) m ((c, l, p) :: R) = _
  rw [ck_go, hs, if_pos rfl]
/-- a finished proof: every buffer that holds it checks as valid -/
def ck_val (nc : Nat) (st : Nat → Nat) (sg pr a0 a1 : Nat → Int32) (K A B : Nat → Int32) (V0 V1 : Nat → Nat) (n : Nat) : Prop :=
  ∀ (K' A' B' : Nat → Int32) (b : Nat → Nat), (∀ j, j < n → K' j = K j ∧ A' j = A j ∧ B' j = B j) → ck_bok K V0 V1 n b →
    ck_all nc st sg pr a0 a1 K' A' B' b n = (0, -1)
theorem ck_rch_end {nc : Nat} {st : Nat → Nat} {sg pr a0 a1 : Nat → Int32} {K A B : Nat → Int32} {V0 V1 : Nat → Nat} {m a : Nat} (hm : 1 ≤ m)
    (eK : K 0 = 0) (eA : A 0 = nI a) (hnc : nc ≤ 8) (hac : a < nc)
    (h : ck_rch nc st sg pr a0 a1 K A B V0 V1 (ck_gl 0 16 [] (st (a + 1) - st a) (st a)) m []) : ck_val nc st sg pr a0 a1 K A B V0 V1 m := by
  intro K' A' B' b hag hb
  obtain ⟨k0, k1, _⟩ := hag 0 (by omega)
  have ca : (nI a).toNatClampNeg = a := nI_clamp (by omega)
  unfold ck_all
  rw [if_neg (by omega), k0, eK, if_pos rfl, k1, eA, ca, ck_if_f (ck_out_nI hac (by omega))]
  have h2 := h K' A' B' b hag hb 0
  rw [Nat.zero_add] at h2
  rw [h2]
  rfl
/-! the goals' lists -/
theorem ck_gl_mem {copy sk : Nat} {p : List (Nat × Nat)} : ∀ {n j : Nat} {g : ck_G}, g ∈ ck_gl copy sk p n j → g.1 = copy ∧ j ≤ g.2.1 ∧ g.2.1 < j + n ∧ ¬ g.2.1 = sk ∧ g.2.2 = p
  | 0, _, _, h => by cases h
  | n + 1, j, g, h => by
    unfold ck_gl at h
    by_cases e : j = sk
    · rw [if_pos e] at h
      obtain ⟨x, y, z, w, v⟩ := ck_gl_mem h
      exact ⟨x, by omega, by omega, w, v⟩
    · rw [if_neg e] at h
      rcases List.mem_cons.mp h with h | h
      · rw [h]
        exact ⟨rfl, Nat.le_refl j, by show j < j + (n + 1); omega, e, rfl⟩
      · obtain ⟨x, y, z, w, v⟩ := ck_gl_mem h
        exact ⟨x, by omega, by omega, w, v⟩
theorem ck_gl_len {copy sk : Nat} {p : List (Nat × Nat)} : ∀ (n j : Nat), (ck_gl copy sk p n j).length ≤ n
  | 0, _ => Nat.le_refl 0
  | n + 1, j => by
    unfold ck_gl
    have := ck_gl_len (copy := copy) (sk := sk) (p := p) n (j + 1)
    by_cases e : j = sk
    · rw [if_pos e]; omega
    · rw [if_neg e, List.length_cons]; omega
theorem ck_gl_len' {copy sk : Nat} {p : List (Nat × Nat)} : ∀ (n j : Nat), j ≤ sk → sk < j + n → (ck_gl copy sk p n j).length ≤ n - 1
  | 0, _, h1, h2 => by omega
  | n + 1, j, h1, h2 => by
    unfold ck_gl
    by_cases e : j = sk
    · rw [if_pos e]
      exact ck_gl_len n (j + 1)
    · rw [if_neg e, List.length_cons]
      have := ck_gl_len' (copy := copy) (sk := sk) (p := p) n (j + 1) (by omega) (by omega)
      omega
/-- what the goals of a list may still cost -/
def ck_pot : List ck_G → Nat
  | [] => 0
  | g :: L => cq_w g.2.2.length + ck_pot L
theorem ck_pot_app : ∀ (L M : List ck_G), ck_pot (L ++ M) = ck_pot L + ck_pot M
  | [], M => by simp [ck_pot]
  | g :: L, M => by
    show cq_w g.2.2.length + ck_pot (L ++ M) = cq_w g.2.2.length + ck_pot L + ck_pot M
    rw [ck_pot_app L M]; omega
theorem ck_pot_gl {copy sk : Nat} {p : List (Nat × Nat)} : ∀ (n j : Nat), ck_pot (ck_gl copy sk p n j) = (ck_gl copy sk p n j).length * cq_w p.length
  | 0, _ => by simp [ck_gl, ck_pot]
  | n + 1, j => by
    unfold ck_gl
    by_cases e : j = sk
    · rw [if_pos e]; exact ck_pot_gl n (j + 1)
    · rw [if_neg e]
      show cq_w p.length + ck_pot (ck_gl copy sk p n (j + 1)) = _
      rw [ck_pot_gl n (j + 1), List.length_cons, Nat.add_mul, Nat.one_mul]; omega
theorem ck_pot_len : ∀ (L : List ck_G), (∀ g, g ∈ L → g.2.2.length ≤ 5) → L.length ≤ ck_pot L
  | [], _ => Nat.le_refl 0
  | g :: L, h => by
    have h1 := cq_w_pos (h g (List.mem_cons_self))
    have h2 := ck_pot_len L (fun g' hg => h g' (List.mem_cons_of_mem g hg))
    show (g :: L).length ≤ cq_w g.2.2.length + ck_pot L
    rw [List.length_cons]; omega
end
section
/-! the clauses: nc finished ones, nl literals in all, clause c begins at st c -/
def cd_at (x : Int32) : Prop := x = -1 ∨ ∃ t, t < 4 ∧ x = nI t
def cd_mk (M : Nat) (f : Nat → Int32) : Nat → Int32 := fun j => if j < M then f j else 0
theorem cd_mk_lt {M j : Nat} {f : Nat → Int32} (h : j < M) : cd_mk M f j = f j := if_pos h
theorem cd_mk_upd {M k : Nat} {f : Nat → Int32} {x : Int32} (h : M ≤ k) : cd_mk M (upd f k x) = cd_mk M f := by
  funext j
  by_cases hj : j < M
  · rw [cd_mk_lt hj, cd_mk_lt hj]
    exact pk_un (by omega)
  · unfold cd_mk
    rw [if_neg hj, if_neg hj]
def cd_lit (sg pr a0 a1 ar : Nat → Int32) (j : Nat) : Prop :=
  (sg j = 0 ∨ sg j = 1) ∧ (∃ p, p < 4 ∧ pr j = nI p ∧ ar p = nI (ck_ar (a0 j) (a1 j))) ∧ cd_at (a0 j) ∧ cd_at (a1 j) ∧ (a0 j = -1 → a1 j = -1)
def cd_wf (nc nl : Nat) (st : Nat → Nat) (sg pr a0 a1 ar : Nat → Int32) : Prop :=
  nc ≤ 8 ∧ nl ≤ 16 ∧ st 0 = 0 ∧ (∀ c, c < nc → st c ≤ st (c + 1) ∧ st (c + 1) ≤ st c + 3) ∧ st nc ≤ nl ∧ nl ≤ st nc + 3 ∧
  (∀ j, j < nl → cd_lit sg pr a0 a1 ar j) ∧ (∀ p, p < 4 → ar p = -1 ∨ ar p = 0 ∨ ar p = 1 ∨ ar p = 2)
theorem cd_mono {nc nl : Nat} {st : Nat → Nat} {sg pr a0 a1 ar : Nat → Int32} (h : cd_wf nc nl st sg pr a0 a1 ar) {c : Nat} : ∀ (d : Nat), c + d ≤ nc → st c ≤ st (c + d)
  | 0, _ => Nat.le_refl _
  | d + 1, hd => by
    have h1 := cd_mono h (c := c) d (by omega)
    have h2 := (h.2.2.2.1 (c + d) (by omega)).1
    show st c ≤ st (c + d + 1)
    omega
theorem cd_mono' {nc nl : Nat} {st : Nat → Nat} {sg pr a0 a1 ar : Nat → Int32} (h : cd_wf nc nl st sg pr a0 a1 ar) {c d : Nat} (hcd : c ≤ d) (hd : d ≤ nc) : st c ≤ st d := by
  obtain ⟨e, rfl⟩ : ∃ e, d = c + e := ⟨d - c, by omega⟩
  exact cd_mono h e hd
def cd_en (nc nl : Nat) (st : Nat → Nat) (c : Nat) : Nat := if c = nc then nl else st (c + 1)
theorem cd_en_nc {nc nl : Nat} {st : Nat → Nat} : cd_en nc nl st nc = nl := if_pos rfl
theorem cd_en_lt {nc nl : Nat} {st : Nat → Nat} {c : Nat} (h : c < nc) : cd_en nc nl st c = st (c + 1) := if_neg (by omega)
theorem cd_en_bd {nc nl : Nat} {st : Nat → Nat} {sg pr a0 a1 ar : Nat → Int32} (h : cd_wf nc nl st sg pr a0 a1 ar) {c : Nat} (hc : c ≤ nc) :
    st c ≤ cd_en nc nl st c ∧ cd_en nc nl st c ≤ st c + 3 ∧ cd_en nc nl st c ≤ nl := by
  obtain ⟨h1, h2, h3, h4, h5, h6, _⟩ := id h
  by_cases e : c = nc
  · rw [e, cd_en_nc]
    exact ⟨h5, h6, Nat.le_refl _⟩
  · rw [cd_en_lt (by omega)]
    obtain ⟨x, y⟩ := h4 c (by omega)
    have := cd_mono' h (c := c + 1) (d := nc) (by omega) (Nat.le_refl _)
    exact ⟨x, y, by omega⟩
def cd_own (nc nl : Nat) (st : Nat → Nat) (ow : Nat → Int32) : Prop :=
  ∀ j, j < nl → ∃ c, c ≤ nc ∧ ow j = nI c ∧ st c ≤ j ∧ j < cd_en nc nl st c
theorem cd_own_iff {nc nl : Nat} {st : Nat → Nat} {sg pr a0 a1 ar ow : Nat → Int32} (h : cd_wf nc nl st sg pr a0 a1 ar) (ho : cd_own nc nl st ow)
    {j c : Nat} (hj : j < nl) (hc : c ≤ nc) : ow j = nI c ↔ (st c ≤ j ∧ j < cd_en nc nl st c) := by
  obtain ⟨d, hd, e, h1, h2⟩ := ho j hj
  have hnc := h.1
  rw [e, nI_eq (by omega) (by omega)]
  constructor
  · intro x
    rw [← x]
    exact ⟨h1, h2⟩
  · intro ⟨x1, x2⟩
    apply Classical.byContradiction
    intro hne
    by_cases hlt : d < c
    · rw [cd_en_lt (by omega)] at h2
      have := cd_mono' h (c := d + 1) (d := c) (by omega) hc
      omega
    · rw [cd_en_lt (show c < nc by omega)] at x2
      have := cd_mono' h (c := c + 1) (d := d) (by omega) hd
      omega
/-! the relation -/
def xt_in (a : Nat) : Nat → Int32
  | 0 => 0
  | k + 1 => xt_in a k ||| (((nI k >>> (nI a &&& 31)) &&& 1) <<< (nI k &&& 31))
def cr_bx (b : Nat → Nat) (bd : Nat → Int32) : Prop := b 0 = 0 ∧ b 1 = 1 ∧ ∀ t, t < 514 → b t < 514 ∧ bd t = nI (b t)
def cr_by (b : Nat → Nat) (yb : Nat → Int32) : Prop := b 0 = 0 ∧ b 1 = 1 ∧ ∀ t, t < 514 → b t < 514 ∧ (2 ≤ t → yb (t - 2) = if b t = t then -1 else nI (b t))
def cr_cls (nc nl : Nat) (st : Nat → Nat) (cs ow sg pr a0 a1 ar : Nat → Int32) : Prop :=
  cd_wf nc nl st sg pr a0 a1 ar ∧ (∀ c, c ≤ nc → cs c = nI (st c)) ∧ cd_own nc nl st ow
def cr_fix (lh ph : Nat → Int32) : Prop :=
  (∀ a, a < 5 → lh (2 * a) = xt_in a 32 ∧ lh (2 * a + 1) = xt_in a 32 ^^^ (-1)) ∧ ph 0 = 0
/-- a buffer of n steps, with the binding b, checks as valid -/
def cr_ok (nc : Nat) (st : Nat → Nat) (sg pr a0 a1 K A B : Nat → Int32) (b : Nat → Nat) (n : Nat) : Prop :=
  ck_all nc st (cd_mk (st nc) sg) (cd_mk (st nc) pr) (cd_mk (st nc) a0) (cd_mk (st nc) a1) K A B b n = (0, -1)
def cr_buf (nc : Nat) (st : Nat → Nat) (sg pr a0 a1 : Nat → Int32) (sl : Int32) (ns bn : Nat) (xK xA xB bd yK yA yB yb : Nat → Int32) : Prop :=
  ns ≤ 256 ∧ bn ≤ 256 ∧
  ((sl = 0 ∧ bn = ns ∧ (∀ i, i < ns → yK i = xK i ∧ yA i = xA i ∧ yB i = xB i) ∧ ∃ b, cr_bx b bd ∧ cr_by b yb) ∨
   (sl = 1 ∧ (∃ b, cr_bx b bd ∧ cr_ok nc st sg pr a0 a1 xK xA xB b ns) ∧ (∃ b, cr_by b yb ∧ cr_ok nc st sg pr a0 a1 yK yA yB b bn)))
def cr_kx (nc : Nat) (st : Nat → Nat) (sg pr a0 a1 : Nat → Int32) (kc : Nat) (kK kA kB kI : Nat → Int32) : Prop :=
  ∃ q : Nat → Nat, kc ≤ 256 ∧ (∀ j, j < kc → ¬ kK j = 2 → q j < 32 ∧ kI j = nI (q j)) ∧
    ck_val nc st (cd_mk (st nc) sg) (cd_mk (st nc) pr) (cd_mk (st nc) a0) (cd_mk (st nc) a1) kK kA kB (fun j => q j / 2 % 2) (fun j => q j % 2) kc
def cr_ky (nc : Nat) (st : Nat → Nat) (sg pr a0 a1 : Nat → Int32) (kn : Nat) (kK kA kB kb : Nat → Int32) : Prop :=
  ∃ W0 W1 : Nat → Nat, kn ≤ 256 ∧ (∀ j, j < kn → ¬ kK j = 2 → W0 j < 2 ∧ W1 j < 2 ∧ kb (2 * j) = nI (W0 j) ∧ kb (2 * j + 1) = nI (W1 j)) ∧
    (∀ t, t < 512 → kb t = -1 ∨ kb t = 0 ∨ kb t = 1) ∧
    ck_val nc st (cd_mk (st nc) sg) (cd_mk (st nc) pr) (cd_mk (st nc) a0) (cd_mk (st nc) a1) kK kA kB W0 W1 kn
def cr_kept (nc : Nat) (st : Nat → Nat) (sg pr a0 a1 : Nat → Int32) (kp : Int32) (kc : Nat) (kK kA kB kI : Nat → Int32) (kn : Nat) (yK yA yB yb : Nat → Int32) : Prop :=
  kp = 0 ∨ (kp = 1 ∧ cr_kx nc st sg pr a0 a1 kc kK kA kB kI ∧ cr_ky nc st sg pr a0 a1 kn yK yA yB yb)
def cr_Q (nc nl : Nat) (st : Nat → Nat) (sl kp : Int32) (ns bn kc kn : Nat) (sg pr a0 a1 ar cs ow : Nat → Int32)
    (xK xA xB bd yK yA yB yb kK kA kB kI zK zA zB zb lh ph : Nat → Int32) : Prop :=
  cr_cls nc nl st cs ow sg pr a0 a1 ar ∧ cr_fix lh ph ∧ cr_buf nc st sg pr a0 a1 sl ns bn xK xA xB bd yK yA yB yb ∧
  cr_kept nc st sg pr a0 a1 kp kc kK kA kB kI kn zK zA zB zb
end
section
/-! fills -/
def xe_fill (i : Nat) (a : Nat → Int32) : Nat → Int32 := fun j => if j < i then nI j else a j
def xe_m1 (i : Nat) (a : Nat → Int32) : Nat → Int32 := fun j => if j < i then -1 else a j
theorem xe_fill_0 (a : Nat → Int32) : a = xe_fill 0 a := by
  funext j; unfold xe_fill; rw [if_neg (Nat.not_lt_zero j)]
theorem xe_m1_0 (a : Nat → Int32) : a = xe_m1 0 a := by
  funext j; unfold xe_m1; rw [if_neg (Nat.not_lt_zero j)]
theorem xe_fill_s {i : Nat} {a : Nat → Int32} (h : i < 2 ^ 31) : upd (xe_fill i a) (nI i).toNatClampNeg (nI i) = xe_fill (i + 1) a := by
  rw [nI_clamp h]
  funext j
  unfold xe_fill upd
  dsimp only
  by_cases e : j = i
  · rw [if_pos e, if_pos (by omega), e]
  · rw [if_neg e]
    by_cases l : j < i
    · rw [if_pos l, if_pos (by omega)]
    · rw [if_neg l, if_neg (by omega)]
theorem xe_m1_s {i : Nat} {a : Nat → Int32} (h : i < 2 ^ 31) : upd (xe_m1 i a) (nI i).toNatClampNeg (-1) = xe_m1 (i + 1) a := by
  rw [nI_clamp h]
  funext j
  unfold xe_m1 upd
  dsimp only
  by_cases e : j = i
  · rw [if_pos e, if_pos (by omega)]
  · rw [if_neg e]
    by_cases l : j < i
    · rw [if_pos l, if_pos (by omega)]
    · rw [if_neg l, if_neg (by omega)]
section
variable {f_litCount f_clauseCount f_stepCount f_bufferSealed f_lastCheckStep f_keptCount f_proofKept f_openCount f_universeSize f_neededInstances f_givenLiterals : Int32} {a_litSign a_litPred a_litArg0 a_litArg1 a_clauseStart a_predArity a_stepKind a_stepA a_stepB a_binding a_keptKind a_keptA a_keptB a_keptInstance a_openCopy a_openLit a_parentCopy a_parentLit a_pathLength a_atomBase a_instanceLits a_instanceHolds a_literalHolds a_restInstances a_pathLiterals : Nat → Int32}
theorem xe_empty {post : St1 → Prop} (h : post (f_litCount, f_clauseCount, 0, 0, f_lastCheckStep, f_keptCount, f_proofKept, f_openCount, f_universeSize, f_neededInstances, f_givenLiterals, a_litSign, a_litPred, a_litArg0, a_litArg1, a_clauseStart, a_predArity, a_stepKind, a_stepA, a_stepB, xe_fill 514 a_binding, a_keptKind, a_keptA, a_keptB, a_keptInstance, a_openCopy, a_openLit, a_parentCopy, a_parentLit, a_pathLength, a_atomBase, a_instanceLits, a_instanceHolds, a_literalHolds, a_restInstances, a_pathLiterals)) : wpX_emptyBuffer post (f_litCount, f_clauseCount, f_stepCount, f_bufferSealed, f_lastCheckStep, f_keptCount, f_proofKept, f_openCount, f_universeSize, f_neededInstances, f_givenLiterals, a_litSign, a_litPred, a_litArg0, a_litArg1, a_clauseStart, a_predArity, a_stepKind, a_stepA, a_stepB, a_binding, a_keptKind, a_keptA, a_keptB, a_keptInstance, a_openCopy, a_openLit, a_parentCopy, a_parentLit, a_pathLength, a_atomBase, a_instanceLits, a_instanceHolds, a_literalHolds, a_restInstances, a_pathLiterals) := by
  refine loop_0 (fun n i s => wX_emptyBuffer_12 post f_litCount f_clauseCount 0 0 f_lastCheckStep f_keptCount f_proofKept f_openCount f_universeSize f_neededInstances f_givenLiterals n (nI i) a_litSign a_litPred a_litArg0 a_litArg1 a_clauseStart a_predArity a_stepKind a_stepA a_stepB s a_keptKind a_keptA a_keptB a_keptInstance a_openCopy a_openLit a_parentCopy a_parentLit a_pathLength a_atomBase a_instanceLits a_instanceHolds a_literalHolds a_restInstances a_pathLiterals) (fun i s => s = xe_fill i a_binding) 514 a_binding (xe_fill_0 _) ?_ ?_
  · intro n s e
    subst e
    exact br_t (nI_le (a := 514) (b := 514) (Nat.le_refl _) (by decide)) h
  · intro n i s hi e ih
    subst e
    exact br_f (nI_ge (b := 514) hi (by decide)) ⟨vp_in_nI hi (by decide), nm_r (xe_fill_s (by omega)) (nm_r (nI_1 i) (ih _ rfl))⟩
theorem xe_remove {post : St1 → Prop} (h : post (0, 0, f_stepCount, f_bufferSealed, f_lastCheckStep, f_keptCount, f_proofKept, f_openCount, f_universeSize, f_neededInstances, f_givenLiterals, a_litSign, a_litPred, a_litArg0, a_litArg1, a_clauseStart, xe_m1 4 a_predArity, a_stepKind, a_stepA, a_stepB, a_binding, a_keptKind, a_keptA, a_keptB, a_keptInstance, a_openCopy, a_openLit, a_parentCopy, a_parentLit, a_pathLength, a_atomBase, a_instanceLits, a_instanceHolds, a_literalHolds, a_restInstances, a_pathLiterals)) : wpX_removeClauses post (f_litCount, f_clauseCount, f_stepCount, f_bufferSealed, f_lastCheckStep, f_keptCount, f_proofKept, f_openCount, f_universeSize, f_neededInstances, f_givenLiterals, a_litSign, a_litPred, a_litArg0, a_litArg1, a_clauseStart, a_predArity, a_stepKind, a_stepA, a_stepB, a_binding, a_keptKind, a_keptA, a_keptB, a_keptInstance, a_openCopy, a_openLit, a_parentCopy, a_parentLit, a_pathLength, a_atomBase, a_instanceLits, a_instanceHolds, a_literalHolds, a_restInstances, a_pathLiterals) := by
  refine loop_0 (fun n i s => wX_removeClauses_12 post 0 0 f_stepCount f_bufferSealed f_lastCheckStep f_keptCount f_proofKept f_openCount f_universeSize f_neededInstances f_givenLiterals n (nI i) a_litSign a_litPred a_litArg0 a_litArg1 a_clauseStart s a_stepKind a_stepA a_stepB a_binding a_keptKind a_keptA a_keptB a_keptInstance a_openCopy a_openLit a_parentCopy a_parentLit a_pathLength a_atomBase a_instanceLits a_instanceHolds a_literalHolds a_restInstances a_pathLiterals) (fun i s => s = xe_m1 i a_predArity) 4 a_predArity (xe_m1_0 _) ?_ ?_
  · intro n s e
    subst e
    exact br_t (nI_le (a := 4) (b := 4) (Nat.le_refl _) (by decide)) h
  · intro n i s hi e ih
    subst e
    exact br_f (nI_ge (b := 4) hi (by decide)) ⟨vp_in_nI hi (by decide), nm_r (xe_m1_s (by omega)) (nm_r (nI_1 i) (ih _ rfl))⟩
theorem xe_forget {post : St1 → Prop} (h0 : f_bufferSealed = 0 → post (f_litCount, f_clauseCount, f_stepCount, f_bufferSealed, f_lastCheckStep, f_keptCount, 0, f_openCount, f_universeSize, f_neededInstances, f_givenLiterals, a_litSign, a_litPred, a_litArg0, a_litArg1, a_clauseStart, a_predArity, a_stepKind, a_stepA, a_stepB, a_binding, a_keptKind, a_keptA, a_keptB, a_keptInstance, a_openCopy, a_openLit, a_parentCopy, a_parentLit, a_pathLength, a_atomBase, a_instanceLits, a_instanceHolds, a_literalHolds, a_restInstances, a_pathLiterals))
    (h1 : ¬ f_bufferSealed = 0 → post (f_litCount, f_clauseCount, 0, 0, f_lastCheckStep, f_keptCount, 0, f_openCount, f_universeSize, f_neededInstances, f_givenLiterals, a_litSign, a_litPred, a_litArg0, a_litArg1, a_clauseStart, a_predArity, a_stepKind, a_stepA, a_stepB, xe_fill 514 a_binding, a_keptKind, a_keptA, a_keptB, a_keptInstance, a_openCopy, a_openLit, a_parentCopy, a_parentLit, a_pathLength, a_atomBase, a_instanceLits, a_instanceHolds, a_literalHolds, a_restInstances, a_pathLiterals)) : wpX_forgetProofs post (f_litCount, f_clauseCount, f_stepCount, f_bufferSealed, f_lastCheckStep, f_keptCount, f_proofKept, f_openCount, f_universeSize, f_neededInstances, f_givenLiterals, a_litSign, a_litPred, a_litArg0, a_litArg1, a_clauseStart, a_predArity, a_stepKind, a_stepA, a_stepB, a_binding, a_keptKind, a_keptA, a_keptB, a_keptInstance, a_openCopy, a_openLit, a_parentCopy, a_parentLit, a_pathLength, a_atomBase, a_instanceLits, a_instanceHolds, a_literalHolds, a_restInstances, a_pathLiterals) := by
  refine br_c h0 (fun h => ?_)
  exact xe_empty (post := fun u => post u) (h1 h)
end
/-! the emptied buffer -/
theorem cr_bx_id (a : Nat → Int32) : cr_bx (fun t => t) (xe_fill 514 a) :=
  ⟨rfl, rfl, fun t ht => ⟨ht, if_pos ht⟩⟩
theorem cr_by_id (a : Nat → Int32) : cr_by (fun t => t) (xe_m1 512 a) := by
  refine ⟨rfl, rfl, fun t ht => ⟨ht, fun h2 => ?_⟩⟩
  show xe_m1 512 a (t - 2) = if t = t then -1 else nI t
  rw [if_pos rfl]
  exact if_pos (by omega)
theorem cr_buf_0 {nc : Nat} {st : Nat → Nat} {sg pr a0 a1 xK xA xB bd yK yA yB yb : Nat → Int32} :
    cr_buf nc st sg pr a0 a1 0 0 0 xK xA xB (xe_fill 514 bd) yK yA yB (xe_m1 512 yb) :=
  ⟨by omega, by omega, Or.inl ⟨rfl, rfl, fun i hi => absurd hi (Nat.not_lt_zero i), _, cr_bx_id bd, cr_by_id yb⟩⟩
/-- an unsealed buffer doesn't depend on the clauses -/
theorem cr_buf_u {nc nc' : Nat} {st st' : Nat → Nat} {sg pr a0 a1 sg' pr' a0' a1' xK xA xB bd yK yA yB yb : Nat → Int32} {ns bn : Nat}
    (h : cr_buf nc st sg pr a0 a1 0 ns bn xK xA xB bd yK yA yB yb) : cr_buf nc' st' sg' pr' a0' a1' 0 ns bn xK xA xB bd yK yA yB yb := by
  obtain ⟨h1, h2, h3 | h3⟩ := h
  · exact ⟨h1, h2, Or.inl h3⟩
  · exact absurd h3.1 (by decide)
theorem cr_sl {nc : Nat} {st : Nat → Nat} {sg pr a0 a1 : Nat → Int32} {sl : Int32} {ns bn : Nat} {xK xA xB bd yK yA yB yb : Nat → Int32}
    (h : cr_buf nc st sg pr a0 a1 sl ns bn xK xA xB bd yK yA yB yb) : sl = 0 ∨ sl = 1 := by
  obtain ⟨_, _, h | h⟩ := h
  · exact Or.inl h.1
  · exact Or.inr h.1
theorem cr_kp {nc : Nat} {st : Nat → Nat} {sg pr a0 a1 : Nat → Int32} {kp : Int32} {kc kn : Nat} {kK kA kB kI yK yA yB yb : Nat → Int32}
    (h : cr_kept nc st sg pr a0 a1 kp kc kK kA kB kI kn yK yA yB yb) : kp = 0 ∨ kp = 1 := by
  rcases h with h | h
  · exact Or.inl h
  · exact Or.inr h.1
theorem cr_bool {x : Int32} (h : x = 0 ∨ x = 1) : narrow .boolean (.int x) = .int x := by
  rcases h with e | e <;> rw [e] <;> rfl
/-! calls that read a field -/
end
section
/-! Y's two scans of the owners -/
/-! X's length -/
section
variable {f_litCount f_clauseCount f_stepCount f_bufferSealed f_lastCheckStep f_keptCount f_proofKept f_openCount f_universeSize f_neededInstances f_givenLiterals : Int32} {a_litSign a_litPred a_litArg0 a_litArg1 a_clauseStart a_predArity a_stepKind a_stepA a_stepB a_binding a_keptKind a_keptA a_keptB a_keptInstance a_openCopy a_openLit a_parentCopy a_parentLit a_pathLength a_atomBase a_instanceLits a_instanceHolds a_literalHolds a_restInstances a_pathLiterals : Nat → Int32}
theorem xl_len {post : Int32 → Prop} {nc nl : Nat} {st : Nat → Nat} {sg pr a0 a1 ar : Nat → Int32} (hw : cd_wf nc nl st sg pr a0 a1 ar) (hcs : ∀ c, c ≤ nc → a_clauseStart c = nI (st c))
    {c : Nat} (hc : c ≤ nc) (h : post (nI (cd_en nc nl st c - st c))) : wpX_getClauseLength post (nI nl, nI nc, f_stepCount, f_bufferSealed, f_lastCheckStep, f_keptCount, f_proofKept, f_openCount, f_universeSize, f_neededInstances, f_givenLiterals, a_litSign, a_litPred, a_litArg0, a_litArg1, a_clauseStart, a_predArity, a_stepKind, a_stepA, a_stepB, a_binding, a_keptKind, a_keptA, a_keptB, a_keptInstance, a_openCopy, a_openLit, a_parentCopy, a_parentLit, a_pathLength, a_atomBase, a_instanceLits, a_instanceHolds, a_literalHolds, a_restInstances, a_pathLiterals) (nI c) := by
  obtain ⟨b1, b2, b3⟩ := cd_en_bd hw hc
  have hnc := hw.1
  have hnl := hw.2.1
  refine br_f (nI_pos (by omega)) (br_t (nI_le hc (by omega)) ?_)
  refine pk_eq c nc (fun e => ?_) (fun e => ?_)
  · refine ⟨vp_in_nI (by omega) (by decide), ?_⟩
    rw [nI_clamp (show c < 2 ^ 31 by omega), hcs c hc]
    rw [e, cd_en_nc] at h
    rw [e] at b1 ⊢
    rw [cd_en_nc] at b1
    rw [pk_sub b1]
    exact h
  · have hlt : c < nc := by omega
    refine ⟨?_, vp_in_nI (by omega) (by decide), ?_⟩
    · rw [nI_1]
      exact vp_in_nI (by omega) (by decide)
    · rw [nI_1, nI_clamp (show c + 1 < 2 ^ 31 by omega), nI_clamp (show c < 2 ^ 31 by omega), hcs c hc, hcs (c + 1) hlt]
      rw [cd_en_lt hlt] at b1 h
      rw [pk_sub b1]
      exact h
theorem xl_len_no {post : Int32 → Prop} {nc : Nat} (hnc : nc ≤ 8) {x : Int32} (hx : x < 0 ∨ ¬ x ≤ nI nc) (h : post (-1)) : wpX_getClauseLength post (f_litCount, nI nc, f_stepCount, f_bufferSealed, f_lastCheckStep, f_keptCount, f_proofKept, f_openCount, f_universeSize, f_neededInstances, f_givenLiterals, a_litSign, a_litPred, a_litArg0, a_litArg1, a_clauseStart, a_predArity, a_stepKind, a_stepA, a_stepB, a_binding, a_keptKind, a_keptA, a_keptB, a_keptInstance, a_openCopy, a_openLit, a_parentCopy, a_parentLit, a_pathLength, a_atomBase, a_instanceLits, a_instanceHolds, a_literalHolds, a_restInstances, a_pathLiterals) x := by
  by_cases h0 : x < 0
  · exact br_t h0 h
  · exact br_f h0 (br_f (hx.elim (fun z => absurd z h0) (fun z => z)) h)
end
theorem cd_cases (x : Int32) (nc : Nat) (hnc : nc ≤ 8) : (x < 0 ∨ ¬ x ≤ nI nc) ∨ ∃ c, c ≤ nc ∧ x = nI c := by
  rcases pk_ix x (n := nc + 1) (by omega) with h | h | ⟨j, hj, e⟩
  · exact Or.inl (Or.inl h)
  · by_cases h0 : x < 0
    · exact Or.inl (Or.inl h0)
    · obtain ⟨j, hj, e⟩ := nI_of h0
      refine Or.inl (Or.inr ?_)
      rw [e, nI_leI (by omega) hj] at h
      rw [e, nI_leI hj (by omega)]
      omega
  · exact Or.inr ⟨j, by omega, e⟩
end
section
/-! endClause -/
def cd_put (st : Nat → Nat) (k v : Nat) : Nat → Nat := fun c => if c = k then v else st c
theorem cd_put_s {st : Nat → Nat} {k v : Nat} : cd_put st k v k = v := if_pos rfl
theorem cd_put_n {st : Nat → Nat} {k v c : Nat} (h : c ≠ k) : cd_put st k v c = st c := if_neg h
theorem cr_cls_end {nc nl : Nat} {st : Nat → Nat} {cs ow sg pr a0 a1 ar : Nat → Int32} (h : cr_cls nc nl st cs ow sg pr a0 a1 ar) (hc : nc < 8) :
    cr_cls (nc + 1) nl (cd_put st (nc + 1) nl) (upd cs (nc + 1) (nI nl)) ow sg pr a0 a1 ar := by
  obtain ⟨hw, hcs, how⟩ := h
  obtain ⟨h1, h2, h3, h4, h5, h6, h7, h8⟩ := id hw
  have en_eq : ∀ c, c ≤ nc → cd_en (nc + 1) nl (cd_put st (nc + 1) nl) c = cd_en nc nl st c := by
    intro c hcc
    rw [cd_en_lt (by omega)]
    by_cases e : c = nc
    · rw [e, cd_put_s, cd_en_nc]
    · rw [cd_put_n (by omega), cd_en_lt (by omega)]
  refine ⟨⟨by omega, h2, ?_, fun c hcc => ?_, ?_, ?_, h7, h8⟩, fun c hcc => ?_, fun j hj => ?_⟩
  · rw [cd_put_n (by omega)]
    exact h3
  · by_cases e : c = nc
    · rw [e, cd_put_s, cd_put_n (by omega)]
      exact ⟨h5, h6⟩
    · rw [cd_put_n (by omega), cd_put_n (by omega)]
      exact h4 c (by omega)
  · rw [cd_put_s]
    exact Nat.le_refl _
  · rw [cd_put_s]
    omega
  · by_cases e : c = nc + 1
    · rw [e, cd_put_s]
      exact pk_us
    · rw [cd_put_n e, pk_un e]
      exact hcs c (by omega)
  · obtain ⟨c, hcn, eo, e1, e2⟩ := how j hj
    refine ⟨c, by omega, eo, ?_, ?_⟩
    · rw [cd_put_n (by omega)]
      exact e1
    · rw [en_eq c hcn]
      exact e2
/-! addLiteral -/
def cd_args (v1 v2 v3 v4 : Int32) : Prop := (v1 = 0 ∨ v1 = 1) ∧ (∃ p, p < 4 ∧ v2 = nI p) ∧ cd_at v3 ∧ cd_at v4 ∧ (v3 = -1 → v4 = -1)
theorem cd_at_of {x : Int32} (h1 : ¬ x < -1) (h2 : ¬ 3 < x) : cd_at x := by
  by_cases e : x = -1
  · exact Or.inl e
  · rw [Int32.lt_iff_toInt_lt, show (-1 : Int32).toInt = -1 from by decide] at h1
    rw [Int32.lt_iff_toInt_lt, show (3 : Int32).toInt = 3 from by decide] at h2
    have hne : ¬ x.toInt = -1 := fun z => e (Int32.toInt_inj.mp (z.trans (by decide)))
    have h0 : ¬ x < 0 := by
      rw [Int32.lt_iff_toInt_lt, show (0 : Int32).toInt = 0 from by decide]
      omega
    obtain ⟨j, hj, ej⟩ := nI_of h0
    rw [ej, nI_toInt hj] at h2
    exact Or.inr ⟨j, by omega, ej⟩
theorem cd_01 {x : Int32} (h1 : ¬ x < 0) (h2 : ¬ 1 < x) : x = 0 ∨ x = 1 := by
  obtain ⟨j, hj, e⟩ := nI_of h1
  rw [Int32.lt_iff_toInt_lt, show (1 : Int32).toInt = 1 from by decide, e, nI_toInt hj] at h2
  have : j = 0 ∨ j = 1 := by omega
  rcases this with z | z <;> rw [e, z]
  · exact Or.inl rfl
  · exact Or.inr rfl
theorem cd_04 {x : Int32} (h1 : ¬ x < 0) (h2 : x < 4) : ∃ p, p < 4 ∧ x = nI p := by
  obtain ⟨j, hj, e⟩ := nI_of h1
  rw [Int32.lt_iff_toInt_lt, show (4 : Int32).toInt = 4 from by decide, e, nI_toInt hj] at h2
  exact ⟨j, by omega, e⟩
section
variable {f_litCount f_clauseCount f_stepCount f_bufferSealed f_lastCheckStep f_keptCount f_proofKept f_openCount f_universeSize f_neededInstances f_givenLiterals : Int32} {a_litSign a_litPred a_litArg0 a_litArg1 a_clauseStart a_predArity a_stepKind a_stepA a_stepB a_binding a_keptKind a_keptA a_keptB a_keptInstance a_openCopy a_openLit a_parentCopy a_parentLit a_pathLength a_atomBase a_instanceLits a_instanceHolds a_literalHolds a_restInstances a_pathLiterals : Nat → Int32}
theorem xa_add {post : Int32 → St1 → Prop} {v1 v2 v3 v4 : Int32} (hb : ¬ cd_args v1 v2 v3 v4 → post (-1) (f_litCount, f_clauseCount, f_stepCount, f_bufferSealed, f_lastCheckStep, f_keptCount, f_proofKept, f_openCount, f_universeSize, f_neededInstances, f_givenLiterals, a_litSign, a_litPred, a_litArg0, a_litArg1, a_clauseStart, a_predArity, a_stepKind, a_stepA, a_stepB, a_binding, a_keptKind, a_keptA, a_keptB, a_keptInstance, a_openCopy, a_openLit, a_parentCopy, a_parentLit, a_pathLength, a_atomBase, a_instanceLits, a_instanceHolds, a_literalHolds, a_restInstances, a_pathLiterals)) (hg : cd_args v1 v2 v3 v4 → wX_addLiteral_57 post v1 v2 v3 v4 f_litCount f_clauseCount f_stepCount f_bufferSealed f_lastCheckStep f_keptCount f_proofKept f_openCount f_universeSize f_neededInstances f_givenLiterals a_litSign a_litPred a_litArg0 a_litArg1 a_clauseStart a_predArity a_stepKind a_stepA a_stepB a_binding a_keptKind a_keptA a_keptB a_keptInstance a_openCopy a_openLit a_parentCopy a_parentLit a_pathLength a_atomBase a_instanceLits a_instanceHolds a_literalHolds a_restInstances a_pathLiterals) :
    wpX_addLiteral post (f_litCount, f_clauseCount, f_stepCount, f_bufferSealed, f_lastCheckStep, f_keptCount, f_proofKept, f_openCount, f_universeSize, f_neededInstances, f_givenLiterals, a_litSign, a_litPred, a_litArg0, a_litArg1, a_clauseStart, a_predArity, a_stepKind, a_stepA, a_stepB, a_binding, a_keptKind, a_keptA, a_keptB, a_keptInstance, a_openCopy, a_openLit, a_parentCopy, a_parentLit, a_pathLength, a_atomBase, a_instanceLits, a_instanceHolds, a_literalHolds, a_restInstances, a_pathLiterals) v1 v2 v3 v4 := by
  refine br_c (fun h => hb (fun z => ?_)) (fun h1 => br_c (fun h => hb (fun z => ?_)) (fun h2 => br_c (fun h => hb (fun z => ?_)) (fun h3 => br_c (fun h4 => br_c (fun h => hb (fun z => ?_)) (fun h5 => br_c (fun h => hb (fun z => ?_)) (fun h6 =>
    br_c (fun h => hb (fun z => ?_)) (fun h7 => br_c (fun h8 => br_c (fun h9 => br_c (fun h10 => hg ?_) (fun h => hb (fun z => ?_))) (fun h9 => hg ?_)) (fun h => hb (fun z => ?_)))))) (fun h => hb (fun z => ?_)))))
  · rcases z.1 with e | e <;> rw [e] at h <;> exact absurd h (by decide)
  · rcases z.1 with e | e <;> rw [e] at h <;> exact absurd h (by decide)
  · obtain ⟨p, hp, e⟩ := z.2.1
    rw [e] at h
    exact nI_pos (by omega) h
  · rcases z.2.2.1 with e | ⟨t, ht, e⟩ <;> rw [e] at h
    · exact absurd h (by decide)
    · rw [Int32.lt_iff_toInt_lt, show (-1 : Int32).toInt = -1 from by decide, nI_toInt (by omega)] at h
      omega
  · rcases z.2.2.1 with e | ⟨t, ht, e⟩ <;> rw [e] at h
    · exact absurd h (by decide)
    · rw [Int32.lt_iff_toInt_lt, show (3 : Int32).toInt = 3 from by decide, nI_toInt (by omega)] at h
      omega
  · rcases z.2.2.2.1 with e | ⟨t, ht, e⟩ <;> rw [e] at h
    · exact absurd h (by decide)
    · rw [Int32.lt_iff_toInt_lt, show (-1 : Int32).toInt = -1 from by decide, nI_toInt (by omega)] at h
      omega
  · exact ⟨cd_01 h1 h2, cd_04 h3 h4, cd_at_of h5 h6, Or.inl h10, fun _ => h10⟩
  · exact h (z.2.2.2.2 h9)
  · exact ⟨cd_01 h1 h2, cd_04 h3 h4, cd_at_of h5 h6, cd_at_of h7 (Int32.not_lt.mpr h8), fun e => absurd e h9⟩
  · rcases z.2.2.2.1 with e | ⟨t, ht, e⟩ <;> rw [e] at h
    · exact absurd (by decide) h
    · exact h (nI_le (b := 3) (by omega) (by decide))
  · obtain ⟨p, hp, e⟩ := z.2.1
    rw [e] at h
    exact h (nI_lt (b := 4) hp (by decide))
theorem xa_arity {post : Int32 → Prop} {x y : Int32} (h : post (nI (ck_ar x y))) : wpX_arityOf post (f_litCount, f_clauseCount, f_stepCount, f_bufferSealed, f_lastCheckStep, f_keptCount, f_proofKept, f_openCount, f_universeSize, f_neededInstances, f_givenLiterals, a_litSign, a_litPred, a_litArg0, a_litArg1, a_clauseStart, a_predArity, a_stepKind, a_stepA, a_stepB, a_binding, a_keptKind, a_keptA, a_keptB, a_keptInstance, a_openCopy, a_openLit, a_parentCopy, a_parentLit, a_pathLength, a_atomBase, a_instanceLits, a_instanceHolds, a_literalHolds, a_restInstances, a_pathLiterals) x y := by
  unfold ck_ar at h
  refine br_c (fun e => ?_) (fun e => br_c (fun e2 => ?_) (fun e2 => ?_))
  · rw [if_pos e] at h
    exact h
  · rw [if_neg e, if_pos e2] at h
    exact h
  · rw [if_neg e, if_neg e2] at h
    exact h
end
theorem cr_cls_add {nc nl : Nat} {st : Nat → Nat} {cs ow sg pr a0 a1 ar : Nat → Int32} (h : cr_cls nc nl st cs ow sg pr a0 a1 ar) {v1 v3 v4 : Int32} {p : Nat}
    (hz : cd_args v1 (nI p) v3 v4) (hp : p < 4) (hc : nc < 8) (h3 : nl < st nc + 3) (h16 : nl < 16) (har : ar p = -1 ∨ ar p = nI (ck_ar v3 v4)) :
    cr_cls nc (nl + 1) st cs (upd ow nl (nI nc)) (upd sg nl v1) (upd pr nl (nI p)) (upd a0 nl v3) (upd a1 nl v4) (upd ar p (nI (ck_ar v3 v4))) := by
  obtain ⟨hw, hcs, how⟩ := h
  obtain ⟨w1, w2, w3, w4, w5, w6, w7, w8⟩ := id hw
  obtain ⟨z1, _, z3, z4, z5⟩ := hz
  have hk : ∀ x y : Int32, nI (ck_ar x y) = 0 ∨ nI (ck_ar x y) = 1 ∨ nI (ck_ar x y) = 2 := by
    intro x y
    unfold ck_ar
    by_cases e : x = -1
    · rw [if_pos e]; exact Or.inl rfl
    · rw [if_neg e]
      by_cases e2 : y = -1
      · rw [if_pos e2]; exact Or.inr (Or.inl rfl)
      · rw [if_neg e2]; exact Or.inr (Or.inr rfl)
  refine ⟨⟨w1, by omega, w3, w4, by omega, by omega, fun j hj => ?_, fun q hq => ?_⟩, hcs, fun j hj => ?_⟩
  · by_cases e : j = nl
    · subst e
      unfold cd_lit
      rw [pk_us, pk_us, pk_us, pk_us]
      exact ⟨z1, ⟨p, hp, rfl, pk_us⟩, z3, z4, z5⟩
    · obtain ⟨l1, ⟨q, hq, eq, eq2⟩, l3, l4, l5⟩ := w7 j (by omega)
      unfold cd_lit
      rw [pk_un e, pk_un e, pk_un e, pk_un e]
      refine ⟨l1, ⟨q, hq, eq, ?_⟩, l3, l4, l5⟩
      by_cases eqp : q = p
      · subst eqp
        rw [pk_us]
        rcases har with har | har
        · exfalso
          rw [har] at eq2
          rcases hk (a0 j) (a1 j) with z | z | z <;> rw [z] at eq2 <;> exact absurd eq2 (by decide)
        · rw [← har]
          exact eq2
      · rw [pk_un eqp]
        exact eq2
  · by_cases e : q = p
    · subst e
      rw [pk_us]
      exact Or.inr (hk v3 v4)
    · rw [pk_un e]
      exact w8 q hq
  · by_cases e : j = nl
    · subst e
      refine ⟨nc, Nat.le_refl _, pk_us, w5, ?_⟩
      rw [cd_en_nc]
      omega
    · obtain ⟨c, hcn, eo, e1, e2⟩ := how j (by omega)
      refine ⟨c, hcn, ?_, e1, ?_⟩
      · rw [pk_un e]
        exact eo
      · by_cases ec : c = nc
        · rw [ec, cd_en_nc]
          omega
        · rw [cd_en_lt (by omega)] at e2 ⊢
          exact e2
theorem cr_buf_add {nc nl : Nat} {st : Nat → Nat} {sg pr a0 a1 : Nat → Int32} {v1 v2 v3 v4 : Int32} {sl : Int32} {ns bn : Nat} {xK xA xB bd yK yA yB yb : Nat → Int32} (hM : st nc ≤ nl)
    (h : cr_buf nc st sg pr a0 a1 sl ns bn xK xA xB bd yK yA yB yb) : cr_buf nc st (upd sg nl v1) (upd pr nl v2) (upd a0 nl v3) (upd a1 nl v4) sl ns bn xK xA xB bd yK yA yB yb := by
  unfold cr_buf cr_ok at h ⊢
  rw [cd_mk_upd hM, cd_mk_upd hM, cd_mk_upd hM, cd_mk_upd hM]
  exact h
theorem cr_kept_add {nc nl : Nat} {st : Nat → Nat} {sg pr a0 a1 : Nat → Int32} {v1 v2 v3 v4 : Int32} {kp : Int32} {kc kn : Nat} {kK kA kB kI yK yA yB yb : Nat → Int32} (hM : st nc ≤ nl)
    (h : cr_kept nc st sg pr a0 a1 kp kc kK kA kB kI kn yK yA yB yb) : cr_kept nc st (upd sg nl v1) (upd pr nl v2) (upd a0 nl v3) (upd a1 nl v4) kp kc kK kA kB kI kn yK yA yB yb := by
  unfold cr_kept cr_kx cr_ky at h ⊢
  rw [cd_mk_upd hM, cd_mk_upd hM, cd_mk_upd hM, cd_mk_upd hM]
  exact h
end
section
/-! addStep -/
theorem cr_buf_step {nc : Nat} {st : Nat → Nat} {sg pr a0 a1 : Nat → Int32} {ns bn : Nat} {xK xA xB bd yK yA yB yb : Nat → Int32} {p0 p1 p2 : Int32} (hn : ns < 256)
    (h : cr_buf nc st sg pr a0 a1 0 ns bn xK xA xB bd yK yA yB yb) :
    bn = ns ∧ cr_buf nc st sg pr a0 a1 0 (ns + 1) (ns + 1) (upd xK ns p0) (upd xA ns p1) (upd xB ns p2) bd (upd yK ns p0) (upd yA ns p1) (upd yB ns p2) yb := by
  obtain ⟨h1, h2, ⟨_, e, hs, hb⟩ | h3⟩ := h
  · refine ⟨e, by omega, by omega, Or.inl ⟨rfl, rfl, fun i hi => ?_, hb⟩⟩
    by_cases ei : i = ns
    · subst ei
      rw [pk_us, pk_us, pk_us, pk_us, pk_us, pk_us]
      exact ⟨rfl, rfl, rfl⟩
    · rw [pk_un ei, pk_un ei, pk_un ei, pk_un ei, pk_un ei, pk_un ei]
      exact hs i (by omega)
  · exact absurd h3.1 (by decide)
/-! bind -/
def cb_ok (v1 v2 v3 v4 : Int32) : Prop := (∃ c, c < 256 ∧ v1 = nI c) ∧ (v2 = 2 ∨ v2 = 3) ∧ (∃ t, t < 4 ∧ v4 = nI t) ∧ (¬ v4 < 2 → ∃ d, d < 256 ∧ v3 = nI d)
theorem cb_lt {x N : Int32} {n : Nat} (hN : N.toInt = n) (h1 : ¬ x < 0) (h2 : x < N) : ∃ c, c < n ∧ x = nI c := by
  obtain ⟨j, hj, e⟩ := nI_of h1
  rw [Int32.lt_iff_toInt_lt, hN, e, nI_toInt hj] at h2
  exact ⟨j, by omega, e⟩
theorem cb_23 {x : Int32} (h1 : ¬ x < 2) (h2 : x ≤ 3) : x = 2 ∨ x = 3 := by
  have h0 : ¬ x < 0 := fun z => h1 (Int32.lt_trans z (by decide))
  obtain ⟨j, hj, e⟩ := nI_of h0
  rw [Int32.lt_iff_toInt_lt, show (2 : Int32).toInt = 2 from by decide, e, nI_toInt hj] at h1
  rw [Int32.le_iff_toInt_le, show (3 : Int32).toInt = 3 from by decide, e, nI_toInt hj] at h2
  have : j = 2 ∨ j = 3 := by omega
  rcases this with z | z <;> rw [e, z]
  · exact Or.inl rfl
  · exact Or.inr rfl
section
variable {f_litCount f_clauseCount f_stepCount f_bufferSealed f_lastCheckStep f_keptCount f_proofKept f_openCount f_universeSize f_neededInstances f_givenLiterals : Int32} {a_litSign a_litPred a_litArg0 a_litArg1 a_clauseStart a_predArity a_stepKind a_stepA a_stepB a_binding a_keptKind a_keptA a_keptB a_keptInstance a_openCopy a_openLit a_parentCopy a_parentLit a_pathLength a_atomBase a_instanceLits a_instanceHolds a_literalHolds a_restInstances a_pathLiterals : Nat → Int32}
theorem xb_bind {post : Int32 → St1 → Prop} {v1 v2 v3 v4 : Int32} (hb : ¬ cb_ok v1 v2 v3 v4 → post (-1) (f_litCount, f_clauseCount, f_stepCount, 0, f_lastCheckStep, f_keptCount, f_proofKept, f_openCount, f_universeSize, f_neededInstances, f_givenLiterals, a_litSign, a_litPred, a_litArg0, a_litArg1, a_clauseStart, a_predArity, a_stepKind, a_stepA, a_stepB, a_binding, a_keptKind, a_keptA, a_keptB, a_keptInstance, a_openCopy, a_openLit, a_parentCopy, a_parentLit, a_pathLength, a_atomBase, a_instanceLits, a_instanceHolds, a_literalHolds, a_restInstances, a_pathLiterals)) (hg : cb_ok v1 v2 v3 v4 → wX_bind_65 post v1 v2 v3 v4 f_litCount f_clauseCount f_stepCount 0 f_lastCheckStep f_keptCount f_proofKept f_openCount f_universeSize f_neededInstances f_givenLiterals a_litSign a_litPred a_litArg0 a_litArg1 a_clauseStart a_predArity a_stepKind a_stepA a_stepB a_binding a_keptKind a_keptA a_keptB a_keptInstance a_openCopy a_openLit a_parentCopy a_parentLit a_pathLength a_atomBase a_instanceLits a_instanceHolds a_literalHolds a_restInstances a_pathLiterals) :
    wpX_bind post (f_litCount, f_clauseCount, f_stepCount, 0, f_lastCheckStep, f_keptCount, f_proofKept, f_openCount, f_universeSize, f_neededInstances, f_givenLiterals, a_litSign, a_litPred, a_litArg0, a_litArg1, a_clauseStart, a_predArity, a_stepKind, a_stepA, a_stepB, a_binding, a_keptKind, a_keptA, a_keptB, a_keptInstance, a_openCopy, a_openLit, a_parentCopy, a_parentLit, a_pathLength, a_atomBase, a_instanceLits, a_instanceHolds, a_literalHolds, a_restInstances, a_pathLiterals) v1 v2 v3 v4 := by
  refine br_t rfl ?_
  refine br_c (fun h => hb (fun z => ?_)) (fun h1 => br_c (fun h => hb (fun z => ?_)) (fun h2 => br_c (fun h => hb (fun z => ?_)) (fun h3 => br_c (fun h4 => br_c (fun h => hb (fun z => ?_)) (fun h5 => br_c (fun h6 =>
    br_c (fun h7 => hg ?_) (fun h7 => br_c (fun h => hb (fun z => ?_)) (fun h8 => br_c (fun h9 => hg ?_) (fun h => hb (fun z => ?_))))) (fun h => hb (fun z => ?_)))) (fun h => hb (fun z => ?_)))))
  · obtain ⟨c, hc, e⟩ := z.1
    rw [e] at h
    exact nI_pos (by omega) h
  · obtain ⟨c, hc, e⟩ := z.1
    rw [e] at h
    exact nI_ge (b := 256) hc (by decide) h
  · rcases z.2.1 with e | e <;> rw [e] at h <;> exact absurd h (by decide)
  · obtain ⟨c, hc, e⟩ := z.2.2.1
    rw [e] at h
    exact nI_pos (by omega) h
  · exact ⟨cb_lt (n := 256) (N := 256) (by decide) h1 (Int32.not_le.mp h2), cb_23 h3 h4, cb_lt (n := 4) (N := 4) (by decide) h5 (Int32.lt_of_le_of_lt h6 (by decide)), fun z => absurd h7 z⟩
  · obtain ⟨c, hc, e⟩ := z.2.2.2 h7
    rw [e] at h
    exact nI_pos (by omega) h
  · exact ⟨cb_lt (n := 256) (N := 256) (by decide) h1 (Int32.not_le.mp h2), cb_23 h3 h4, cb_lt (n := 4) (N := 4) (by decide) h5 (Int32.lt_of_le_of_lt h6 (by decide)), fun _ => cb_lt (n := 256) (N := 256) (by decide) h8 h9⟩
  · obtain ⟨c, hc, e⟩ := z.2.2.2 h7
    rw [e] at h
    exact h (nI_lt (b := 256) hc (by decide))
  · obtain ⟨c, hc, e⟩ := z.2.2.1
    rw [e] at h
    exact h (nI_le (b := 3) (by omega) (by decide))
  · rcases z.2.1 with e | e <;> rw [e] at h <;> exact absurd (by decide) h
end
theorem cr_bx_put {b : Nat → Nat} {bd : Nat → Int32} (h : cr_bx b bd) {t v : Nat} (h2 : 2 ≤ t) (hv : v < 514) : cr_bx (cd_put b t v) (upd bd t (nI v)) := by
  obtain ⟨b0, b1, hb⟩ := h
  refine ⟨by rw [cd_put_n (by omega)]; exact b0, by rw [cd_put_n (by omega)]; exact b1, fun s hs => ?_⟩
  by_cases e : s = t
  · subst e
    rw [cd_put_s, pk_us]
    exact ⟨hv, rfl⟩
  · rw [cd_put_n e, pk_un e]
    exact hb s hs
theorem cr_by_put {b : Nat → Nat} {yb : Nat → Int32} (h : cr_by b yb) {t v : Nat} {x : Int32} (h2 : 2 ≤ t) (hv : v < 514) (hx : x = if v = t then -1 else nI v) :
    cr_by (cd_put b t v) (upd yb (t - 2) x) := by
  obtain ⟨b0, b1, hb⟩ := h
  refine ⟨by rw [cd_put_n (by omega)]; exact b0, by rw [cd_put_n (by omega)]; exact b1, fun s hs => ?_⟩
  by_cases e : s = t
  · subst e
    rw [cd_put_s]
    exact ⟨hv, fun _ => by rw [pk_us]; exact hx⟩
  · rw [cd_put_n e]
    refine ⟨(hb s hs).1, fun hs2 => ?_⟩
    rw [pk_un (by omega)]
    exact (hb s hs).2 hs2
theorem cr_buf_bind {nc : Nat} {st : Nat → Nat} {sg pr a0 a1 : Nat → Int32} {ns bn : Nat} {xK xA xB bd yK yA yB yb : Nat → Int32} {t v : Nat} {x : Int32} (h2 : 2 ≤ t) (hv : v < 514)
    (hx : x = if v = t then -1 else nI v) (h : cr_buf nc st sg pr a0 a1 0 ns bn xK xA xB bd yK yA yB yb) :
    cr_buf nc st sg pr a0 a1 0 ns bn xK xA xB (upd bd t (nI v)) yK yA yB (upd yb (t - 2) x) := by
  obtain ⟨h1, h2', ⟨_, e, hs, b, hbx, hby⟩ | h3⟩ := h
  · exact ⟨h1, h2', Or.inl ⟨rfl, e, hs, _, cr_bx_put hbx h2 hv, cr_by_put hby h2 hv hx⟩⟩
  · exact absurd h3.1 (by decide)
end
section
/-! adoptProof -/
theorem xd_bits : ∀ q, q < 32 → (nI q >>> ((1 : Int32) &&& 31)) &&& 1 = nI (q / 2 % 2) ∧ nI q &&& 1 = nI (q % 2) := by decide +kernel
theorem xd_ix (i : Nat) : (2 : Int32) * nI i + 2 = nI (2 * i + 2) := by
  rw [show (2 : Int32) = nI 2 from rfl, pk_mul, nI_add]
theorem xd_ix3 (i : Nat) : (2 : Int32) * nI i + 3 = nI (2 * i + 3) := by
  rw [show (2 : Int32) = nI 2 from rfl, show (3 : Int32) = nI 3 from rfl, pk_mul, nI_add]
section
variable {f_litCount f_clauseCount f_stepCount f_bufferSealed f_lastCheckStep f_keptCount f_proofKept f_openCount f_universeSize f_neededInstances f_givenLiterals : Int32} {a_litSign a_litPred a_litArg0 a_litArg1 a_clauseStart a_predArity a_stepKind a_stepA a_stepB a_binding a_keptKind a_keptA a_keptB a_keptInstance a_openCopy a_openLit a_parentCopy a_parentLit a_pathLength a_atomBase a_instanceLits a_instanceHolds a_literalHolds a_restInstances a_pathLiterals : Nat → Int32}
theorem xd_v2 {post : Int32 → Prop} {q : Nat} (hq : q < 32) (h : post (nI (q / 2 % 2))) : wpX_valueIn post (f_litCount, f_clauseCount, f_stepCount, f_bufferSealed, f_lastCheckStep, f_keptCount, f_proofKept, f_openCount, f_universeSize, f_neededInstances, f_givenLiterals, a_litSign, a_litPred, a_litArg0, a_litArg1, a_clauseStart, a_predArity, a_stepKind, a_stepA, a_stepB, a_binding, a_keptKind, a_keptA, a_keptB, a_keptInstance, a_openCopy, a_openLit, a_parentCopy, a_parentLit, a_pathLength, a_atomBase, a_instanceLits, a_instanceHolds, a_literalHolds, a_restInstances, a_pathLiterals) (nI q) 2 := by
  refine br_t rfl ?_
  rw [(xd_bits q hq).1]
  exact h
theorem xd_v3 {post : Int32 → Prop} {q : Nat} (hq : q < 32) (h : post (nI (q % 2))) : wpX_valueIn post (f_litCount, f_clauseCount, f_stepCount, f_bufferSealed, f_lastCheckStep, f_keptCount, f_proofKept, f_openCount, f_universeSize, f_neededInstances, f_givenLiterals, a_litSign, a_litPred, a_litArg0, a_litArg1, a_clauseStart, a_predArity, a_stepKind, a_stepA, a_stepB, a_binding, a_keptKind, a_keptA, a_keptB, a_keptInstance, a_openCopy, a_openLit, a_parentCopy, a_parentLit, a_pathLength, a_atomBase, a_instanceLits, a_instanceHolds, a_literalHolds, a_restInstances, a_pathLiterals) (nI q) 3 := by
  refine br_f (by decide) (br_t rfl ?_)
  rw [(xd_bits q hq).2]
  exact h
theorem xd_adopt {post : Int32 → St1 → Prop} {nc kc : Nat} {st : Nat → Nat} {sg pr a0 a1 : Nat → Int32} (hx : cr_kx nc st sg pr a0 a1 kc a_keptKind a_keptA a_keptB a_keptInstance)
    (hp : ∀ (xK xA xB bd : Nat → Int32) (b : Nat → Nat), cr_bx b bd → cr_ok nc st sg pr a0 a1 xK xA xB b kc → post 0 (f_litCount, f_clauseCount, nI kc, 1, f_lastCheckStep, nI kc, 1, f_openCount, f_universeSize, f_neededInstances, f_givenLiterals, a_litSign, a_litPred, a_litArg0, a_litArg1, a_clauseStart, a_predArity, xK, xA, xB, bd, a_keptKind, a_keptA, a_keptB, a_keptInstance, a_openCopy, a_openLit, a_parentCopy, a_parentLit, a_pathLength, a_atomBase, a_instanceLits, a_instanceHolds, a_literalHolds, a_restInstances, a_pathLiterals)) :
    wpX_adoptProof post (f_litCount, f_clauseCount, f_stepCount, f_bufferSealed, f_lastCheckStep, nI kc, 1, f_openCount, f_universeSize, f_neededInstances, f_givenLiterals, a_litSign, a_litPred, a_litArg0, a_litArg1, a_clauseStart, a_predArity, a_stepKind, a_stepA, a_stepB, a_binding, a_keptKind, a_keptA, a_keptB, a_keptInstance, a_openCopy, a_openLit, a_parentCopy, a_parentLit, a_pathLength, a_atomBase, a_instanceLits, a_instanceHolds, a_literalHolds, a_restInstances, a_pathLiterals) := by
  obtain ⟨q, hkc, hq, hval⟩ := hx
  refine br_f (by decide) ?_
  refine xe_empty ?_
  refine loop_0 (fun n i (s : (Nat → Int32) × (Nat → Int32) × (Nat → Int32) × (Nat → Int32)) => wX_adoptProof_16 post f_litCount f_clauseCount 0 0 f_lastCheckStep (nI kc) 1 f_openCount f_universeSize f_neededInstances f_givenLiterals n (nI i) a_litSign a_litPred a_litArg0 a_litArg1 a_clauseStart a_predArity s.1 s.2.1 s.2.2.1 s.2.2.2 a_keptKind a_keptA a_keptB a_keptInstance a_openCopy a_openLit a_parentCopy a_parentLit a_pathLength a_atomBase a_instanceLits a_instanceHolds a_literalHolds a_restInstances a_pathLiterals)
    (fun i s => (∀ j, j < i → s.1 j = a_keptKind j ∧ s.2.1 j = a_keptA j ∧ s.2.2.1 j = a_keptB j) ∧ ∃ b, cr_bx b s.2.2.2 ∧ ck_bok a_keptKind (fun j => q j / 2 % 2) (fun j => q j % 2) i b) kc
    (a_stepKind, a_stepA, a_stepB, xe_fill 514 a_binding) ?_ ?_ ?_
  · exact ⟨fun j hj => absurd hj (Nat.not_lt_zero j), _, cr_bx_id _, rfl, rfl, fun j hj => absurd hj (Nat.not_lt_zero j)⟩
  · intro n s hs
    obtain ⟨hag, b, hbx, hbo⟩ := hs
    refine br_t (nI_le (Nat.le_refl kc) (by omega)) ?_
    exact hp _ _ _ _ b hbx (hval _ _ _ b hag hbo)
  · intro n i s hi hs ih
    obtain ⟨hag, b, hbx, hbo⟩ := hs
    have hin : vp_in (nI i) 256 := vp_in_nI (by omega) (by decide)
    have cl : (nI i).toNatClampNeg = i := nI_clamp (by omega)
    have ag' : ∀ j, j < i + 1 → upd s.1 i (a_keptKind i) j = a_keptKind j ∧ upd s.2.1 i (a_keptA i) j = a_keptA j ∧ upd s.2.2.1 i (a_keptB i) j = a_keptB j := by
      intro j hj
      by_cases e : j = i
      · subst e
        rw [pk_us, pk_us, pk_us]
        exact ⟨rfl, rfl, rfl⟩
      · rw [pk_un e, pk_un e, pk_un e]
        exact hag j (by omega)
    refine br_f (nI_ge hi (by omega)) ?_
    rw [cl]
    refine ⟨hin, hin, nm_e ⟨hin, hin, nm_e ⟨hin, hin, nm_e ⟨hin, br_c (fun e2 => ?_) (fun e2 => ⟨hin, ?_⟩)⟩⟩⟩⟩
    · refine nm_r (nI_1 i) (ih (upd s.1 i (a_keptKind i), upd s.2.1 i (a_keptA i), upd s.2.2.1 i (a_keptB i), s.2.2.2) ⟨ag', b, hbx, hbo.1, hbo.2.1, fun j hj hK => ?_⟩)
      by_cases e : j = i
      · exact absurd (e ▸ e2) hK
      · exact hbo.2.2 j (by omega) hK
    · obtain ⟨hqi, eqi⟩ := hq i hi e2
      rw [eqi]
      refine xd_v2 hqi ?_
      rw [xd_ix, nI_clamp (show 2 * i + 2 < 2 ^ 31 by omega)]
      refine ⟨vp_in_nI (by omega) (by decide), nm_e ⟨hin, ?_⟩⟩
      refine xd_v3 hqi ?_
      rw [xd_ix3, nI_clamp (show 2 * i + 3 < 2 ^ 31 by omega)]
      refine ⟨vp_in_nI (by omega) (by decide), nm_e (nm_r (nI_1 i) ?_)⟩
      refine ih (upd s.1 i (a_keptKind i), upd s.2.1 i (a_keptA i), upd s.2.2.1 i (a_keptB i), upd (upd s.2.2.2 (2 * i + 2) (nI (q i / 2 % 2))) (2 * i + 3) (nI (q i % 2)))
        ⟨ag', cd_put (cd_put b (2 * i + 2) (q i / 2 % 2)) (2 * i + 3) (q i % 2), cr_bx_put (cr_bx_put hbx (by omega) (by omega)) (by omega) (by omega), ?_, ?_, fun j hj hK => ?_⟩
      · rw [cd_put_n (by omega), cd_put_n (by omega)]
        exact hbo.1
      · rw [cd_put_n (by omega), cd_put_n (by omega)]
        exact hbo.2.1
      · by_cases e : j = i
        · subst e
          rw [cd_put_s, cd_put_n (by omega), cd_put_s]
          exact ⟨rfl, rfl⟩
        · rw [cd_put_n (by omega), cd_put_n (by omega), cd_put_n (by omega), cd_put_n (by omega)]
          exact hbo.2.2 j (by omega) hK
end
end
section
/-! the goals as X keeps them: a copy's path is the chain of its parents -/
def xc_ch (pc pl ph : Nat → Int32) (M : Nat) : List (Nat × Nat) → Nat → Prop
  | [], c => ph c = 0
  | e :: p, c => e.1 < c ∧ e.2 < M ∧ ph c = nI (p.length + 1) ∧ pc c = nI e.1 ∧ pl c = nI e.2 ∧ xc_ch pc pl ph M p e.1
def xc_stk (oc ol pc pl ph : Nat → Int32) (M m : Nat) : List ck_G → Prop
  | [] => True
  | g :: R => oc R.length = nI g.1 ∧ ol R.length = nI g.2.1 ∧ g.1 < m ∧ g.2.1 < M ∧ xc_ch pc pl ph M g.2.2 g.1 ∧ xc_stk oc ol pc pl ph M m R
theorem xc_ch_len {pc pl ph : Nat → Int32} {M : Nat} : ∀ {p : List (Nat × Nat)} {c : Nat}, xc_ch pc pl ph M p c → ph c = nI p.length ∧ p.length ≤ c
  | [], c, h => ⟨h, Nat.zero_le _⟩
  | e :: p, c, h => by
    have h2 := (xc_ch_len h.2.2.2.2.2).2
    have h1 := h.1
    exact ⟨h.2.2.1, by rw [List.length_cons]; omega⟩
theorem xc_ch_fr {pc pl ph pc' pl' ph' : Nat → Int32} {M m : Nat} (hf : ∀ j, j < m → pc' j = pc j ∧ pl' j = pl j ∧ ph' j = ph j) :
    ∀ {p : List (Nat × Nat)} {c : Nat}, c < m → xc_ch pc pl ph M p c → xc_ch pc' pl' ph' M p c
  | [], c, hc, h => by
    show ph' c = 0
    rw [(hf c hc).2.2]
    exact h
  | e :: p, c, hc, h => by
    obtain ⟨h1, h2, h3, h4, h5, h6⟩ := h
    obtain ⟨f1, f2, f3⟩ := hf c hc
    exact ⟨h1, h2, by rw [f3]; exact h3, by rw [f1]; exact h4, by rw [f2]; exact h5, xc_ch_fr hf (by omega) h6⟩
theorem xc_stk_fr {oc ol pc pl ph oc' ol' pc' pl' ph' : Nat → Int32} {M m m' : Nat} (hm : m ≤ m') (hf : ∀ j, j < m → pc' j = pc j ∧ pl' j = pl j ∧ ph' j = ph j) :
    ∀ {L : List ck_G}, (∀ j, j < L.length → oc' j = oc j ∧ ol' j = ol j) → xc_stk oc ol pc pl ph M m L → xc_stk oc' ol' pc' pl' ph' M m' L
  | [], _, _ => trivial
  | g :: R, ho, h => by
    obtain ⟨h1, h2, h3, h4, h5, h6⟩ := h
    obtain ⟨o1, o2⟩ := ho R.length (by rw [List.length_cons]; omega)
    exact ⟨by rw [o1]; exact h1, by rw [o2]; exact h2, by omega, h4, xc_ch_fr hf h3 h5, xc_stk_fr hm hf (fun j hj => ho j (by rw [List.length_cons]; omega)) h6⟩
theorem xc_ch_get {pc pl ph : Nat → Int32} {M : Nat} : ∀ {p : List (Nat × Nat)} {c : Nat}, xc_ch pc pl ph M p c → ∀ n, n < p.length → (p.getD n (0, 0)).1 < c ∧ (p.getD n (0, 0)).2 < M
  | [], _, _, n, hn => absurd hn (Nat.not_lt_zero n)
  | e :: p, c, h, 0, _ => ⟨h.1, h.2.1⟩
  | e :: p, c, h, n + 1, hn => by
    obtain ⟨x, y⟩ := xc_ch_get h.2.2.2.2.2 n (by rw [List.length_cons] at hn; omega)
    have := h.1
    rw [List.getD_cons_succ]
    exact ⟨by omega, y⟩
/-! pushing the goals of a copy -/
def xg_ls (sk : Nat) : Nat → Nat → List Nat
  | 0, _ => []
  | n + 1, j => if j = sk then xg_ls sk n (j + 1) else j :: xg_ls sk n (j + 1)
theorem xg_ls_t {sk n j : Nat} (e : j = sk) : xg_ls sk (n + 1) j = xg_ls sk n (j + 1) := if_pos e
theorem xg_ls_f {sk n j : Nat} (e : ¬ j = sk) : xg_ls sk (n + 1) j = j :: xg_ls sk n (j + 1) := if_neg e
theorem xg_gl {copy sk : Nat} {p : List (Nat × Nat)} : ∀ (n j : Nat), ck_gl copy sk p n j = (xg_ls sk n j).map (fun l => (copy, l, p))
  | 0, _ => rfl
  | n + 1, j => by
    unfold ck_gl
    by_cases e : j = sk
    · rw [if_pos e, xg_ls_t e]
      exact xg_gl n (j + 1)
    · rw [if_neg e, xg_ls_f e, List.map_cons]
      exact congrArg _ (xg_gl n (j + 1))
theorem xg_ls_mem {sk : Nat} : ∀ {n j l : Nat}, l ∈ xg_ls sk n j → j ≤ l ∧ l < j + n ∧ ¬ l = sk
  | 0, _, _, h => by cases h
  | n + 1, j, l, h => by
    by_cases e : j = sk
    · rw [xg_ls_t e] at h
      obtain ⟨x, y, z⟩ := xg_ls_mem h
      exact ⟨by omega, by omega, z⟩
    · rw [xg_ls_f e] at h
      rcases List.mem_cons.mp h with h | h
      · subst h
        exact ⟨Nat.le_refl _, by omega, e⟩
      · obtain ⟨x, y, z⟩ := xg_ls_mem h
        exact ⟨by omega, by omega, z⟩
theorem xg_ls_suf {sk : Nat} (len first : Nat) : ∀ k, k ≤ len → (xg_ls sk (len - k) (first + k)).length ≤ (xg_ls sk len first).length
  | 0, _ => Nat.le_refl _
  | k + 1, hk => by
    have h := xg_ls_suf (sk := sk) len first k (by omega)
    have e : len - k = (len - (k + 1)) + 1 := by omega
    rw [e] at h
    have e2 : first + (k + 1) = first + k + 1 := by omega
    rw [e2]
    by_cases z : first + k = sk
    · rw [xg_ls_t z] at h
      exact h
    · rw [xg_ls_f z, List.length_cons] at h
      omega
def xg_rep (oc ol : Nat → Int32) (x : Int32) (base : Nat) : List Nat → Prop
  | [] => True
  | l :: ls => oc (base + ls.length) = x ∧ ol (base + ls.length) = nI l ∧ xg_rep oc ol x base ls
theorem xg_rep_fr {oc ol oc' ol' : Nat → Int32} {x : Int32} {base : Nat} : ∀ {ls : List Nat}, (∀ j, j < base + ls.length → oc' j = oc j ∧ ol' j = ol j) → xg_rep oc ol x base ls → xg_rep oc' ol' x base ls
  | [], _, _ => trivial
  | l :: ls, ho, h => by
    obtain ⟨o1, o2⟩ := ho (base + ls.length) (by rw [List.length_cons]; omega)
    exact ⟨by rw [o1]; exact h.1, by rw [o2]; exact h.2.1, xg_rep_fr (fun j hj => ho j (by rw [List.length_cons]; omega)) h.2.2⟩
section
variable {f_litCount f_clauseCount f_stepCount f_bufferSealed f_lastCheckStep f_keptCount f_proofKept f_openCount f_universeSize f_neededInstances f_givenLiterals : Int32} {a_litSign a_litPred a_litArg0 a_litArg1 a_clauseStart a_predArity a_stepKind a_stepA a_stepB a_binding a_keptKind a_keptA a_keptB a_keptInstance a_openCopy a_openLit a_parentCopy a_parentLit a_pathLength a_atomBase a_instanceLits a_instanceHolds a_literalHolds a_restInstances a_pathLiterals : Nat → Int32}
theorem xg_open {post : St1 → Prop} {base len first sk : Nat} {x1 skI : Int32} (hsk : ∀ j, first ≤ j → j < first + len → (nI j = skI ↔ j = sk)) (hfl : first + len < 2 ^ 30)
    (room : base + (xg_ls sk len first).length ≤ 258)
    (h : ∀ oc ol : Nat → Int32, (∀ j, j < base → oc j = a_openCopy j ∧ ol j = a_openLit j) → xg_rep oc ol x1 base (xg_ls sk len first) →
      post (f_litCount, f_clauseCount, f_stepCount, f_bufferSealed, f_lastCheckStep, f_keptCount, f_proofKept, nI (base + (xg_ls sk len first).length), f_universeSize, f_neededInstances, f_givenLiterals, a_litSign, a_litPred, a_litArg0, a_litArg1, a_clauseStart, a_predArity, a_stepKind, a_stepA, a_stepB, a_binding, a_keptKind, a_keptA, a_keptB, a_keptInstance, oc, ol, a_parentCopy, a_parentLit, a_pathLength, a_atomBase, a_instanceLits, a_instanceHolds, a_literalHolds, a_restInstances, a_pathLiterals)) :
    wpX_openGoals post (f_litCount, f_clauseCount, f_stepCount, f_bufferSealed, f_lastCheckStep, f_keptCount, f_proofKept, nI base, f_universeSize, f_neededInstances, f_givenLiterals, a_litSign, a_litPred, a_litArg0, a_litArg1, a_clauseStart, a_predArity, a_stepKind, a_stepA, a_stepB, a_binding, a_keptKind, a_keptA, a_keptB, a_keptInstance, a_openCopy, a_openLit, a_parentCopy, a_parentLit, a_pathLength, a_atomBase, a_instanceLits, a_instanceHolds, a_literalHolds, a_restInstances, a_pathLiterals) x1 (nI first) (nI len) skI := by
  have key : ∀ k, k ≤ len → ∀ (oc ol : Nat → Int32), (∀ j, j < base → oc j = a_openCopy j ∧ ol j = a_openLit j) → xg_rep oc ol x1 base (xg_ls sk (len - k) (first + k)) →
      wX_openGoals_5 post x1 (nI first) skI f_litCount f_clauseCount f_stepCount f_bufferSealed f_lastCheckStep f_keptCount f_proofKept f_universeSize f_neededInstances f_givenLiterals (k + 1) (nI k + (-1)) (nI (base + (xg_ls sk (len - k) (first + k)).length)) a_litSign a_litPred a_litArg0 a_litArg1 a_clauseStart a_predArity a_stepKind a_stepA a_stepB a_binding a_keptKind a_keptA a_keptB a_keptInstance oc ol a_parentCopy a_parentLit a_pathLength a_atomBase a_instanceLits a_instanceHolds a_literalHolds a_restInstances a_pathLiterals := by
    intro k
    induction k with
    | zero =>
      intro _ oc ol hag hrep
      exact br_t (by decide) (h oc ol hag hrep)
    | succ k ih =>
      intro hk oc ol hag hrep
      rw [pk_m1]
      have e : len - k = (len - (k + 1)) + 1 := by omega
      have e2 : first + (k + 1) = first + k + 1 := by omega
      rw [e2] at hrep ⊢
      have ih2 := ih (by omega)
      rw [e] at ih2
      refine br_f (nI_pos (by omega)) ?_
      rw [nI_add]
      refine ek_if (hsk (first + k) (by omega) (by omega)) (fun z => nm_e ?_) (fun z => ?_)
      · rw [xg_ls_t z] at ih2
        exact ih2 oc ol hag hrep
      · rw [xg_ls_f z] at ih2
        have hs := xg_ls_suf (sk := sk) len first k (by omega)
        rw [e, xg_ls_f z, List.length_cons] at hs
        have hin : vp_in (nI (base + (xg_ls sk (len - (k + 1)) (first + k + 1)).length)) 258 := vp_in_nI (by omega) (by decide)
        refine ⟨hin, nm_e ⟨hin, nm_e (nm_r (nI_1 _) (nm_e ?_))⟩⟩
        rw [nI_clamp (show base + (xg_ls sk (len - (k + 1)) (first + k + 1)).length < 2 ^ 31 by omega)]
        refine ih2 _ _ (fun j hj => ?_) ⟨pk_us, pk_us, xg_rep_fr (fun j hj => ?_) hrep⟩
        · rw [pk_un (by omega), pk_un (by omega)]
          exact hag j hj
        · rw [pk_un (by omega), pk_un (by omega)]
          exact ⟨rfl, rfl⟩
  have e0 : len - len = 0 := by omega
  have k0 := key len (Nat.le_refl _) a_openCopy a_openLit (fun _ _ => ⟨rfl, rfl⟩) (by rw [e0]; trivial)
  rw [e0] at k0
  exact nm_r (Int32.sub_eq_add_neg _ _) ⟨_, k0⟩
end
theorem xc_stk_app {oc ol pc pl ph : Nat → Int32} {M m copy : Nat} {p : List (Nat × Nat)} {R : List ck_G} (hc : copy < m) (hch : xc_ch pc pl ph M p copy) (hR : xc_stk oc ol pc pl ph M m R) :
    ∀ {ls : List Nat}, (∀ l, l ∈ ls → l < M) → xg_rep oc ol (nI copy) R.length ls → xc_stk oc ol pc pl ph M m (ls.map (fun l => (copy, l, p)) ++ R)
  | [], _, _ => hR
  | l :: ls, hl, hr => by
    have e : (ls.map (fun l => ((copy, l, p) : ck_G)) ++ R).length = R.length + ls.length := by
      rw [List.length_append, List.length_map]; omega
    refine ⟨?_, ?_, hc, hl l List.mem_cons_self, hch, xc_stk_app hc hch hR (fun l' h' => hl l' (List.mem_cons_of_mem l h')) hr.2.2⟩
    · show oc (ls.map (fun l => ((copy, l, p) : ck_G)) ++ R).length = nI copy
      rw [e]
      exact hr.1
    · show ol (ls.map (fun l => ((copy, l, p) : ck_G)) ++ R).length = nI l
      rw [e]
      exact hr.2.1
/-! resolving -/
def ck_rv (o : Option Nat) : Int32 := match o with
  | some x => nI x
  | none => -1
theorem ck_res_lt {b : Nat → Nat} (hb : ∀ t, t < 514 → b t < 514) : ∀ (n t : Nat), t < 514 → ∀ x, ck_res b n t = some x → x < 514
  | 0, _, _, _, h => by cases h
  | n + 1, t, ht, x, h => by
    unfold ck_res at h
    by_cases e : b t = t
    · rw [if_pos e] at h
      cases h
      exact ht
    · rw [if_neg e] at h
      exact ck_res_lt hb n (b t) (hb t ht) x h
section
variable {f_litCount f_clauseCount f_stepCount f_bufferSealed f_lastCheckStep f_keptCount f_proofKept f_openCount f_universeSize f_neededInstances f_givenLiterals : Int32} {a_litSign a_litPred a_litArg0 a_litArg1 a_clauseStart a_predArity a_stepKind a_stepA a_stepB a_binding a_keptKind a_keptA a_keptB a_keptInstance a_openCopy a_openLit a_parentCopy a_parentLit a_pathLength a_atomBase a_instanceLits a_instanceHolds a_literalHolds a_restInstances a_pathLiterals : Nat → Int32}
theorem xr_loop {post : Int32 → Prop} {b : Nat → Nat} (hb : cr_bx b a_binding) : ∀ (n t mv : Nat), mv + n = 513 → t < 514 → post (ck_rv (ck_res b n t)) → wX_resolve_20 post f_litCount f_clauseCount f_stepCount f_bufferSealed f_lastCheckStep f_keptCount f_proofKept f_openCount f_universeSize f_neededInstances f_givenLiterals a_litSign a_litPred a_litArg0 a_litArg1 a_clauseStart a_predArity a_stepKind a_stepA a_stepB a_binding a_keptKind a_keptA a_keptB a_keptInstance a_openCopy a_openLit a_parentCopy a_parentLit a_pathLength a_atomBase a_instanceLits a_instanceHolds a_literalHolds a_restInstances a_pathLiterals (n + 1) (nI t) (nI mv)
  | 0, t, mv, hm, ht, h => by
    exact br_t (nI_lt (a := 512) (b := mv) (by omega) (by omega)) h
  | n + 1, t, mv, hm, ht, h => by
    obtain ⟨hb1, hb2⟩ := hb.2.2 t ht
    have hin : vp_in (nI t) 514 := vp_in_nI ht (by decide)
    refine br_f (nI_nlt (b := mv) (a := 512) (by omega) (by decide)) ⟨hin, ?_⟩
    rw [nI_clamp (show t < 2 ^ 31 by omega), hb2]
    unfold ck_res at h
    refine pk_eq (b t) t (fun e => ?_) (fun e => ⟨hin, nm_e (nm_r (nI_1 mv) ?_)⟩)
    · rw [if_pos e] at h
      exact h
    · rw [if_neg e] at h
      exact xr_loop hb n (b t) (mv + 1) (by omega) hb1 h
/-- an argument that is a term -/
theorem xr_res {post : Int32 → Prop} {b : Nat → Nat} (hb : cr_bx b a_binding) {c l pos t : Nat} (hc : c < 256) (hl : l < 16) (hp : pos < 2) (ht : t < 4)
    (ha : (if pos = 0 then a_litArg0 l else a_litArg1 l) = nI t) (h : post (ck_rv (ck_res b 513 (ck_tm c t)))) : wpX_resolve post (f_litCount, f_clauseCount, f_stepCount, f_bufferSealed, f_lastCheckStep, f_keptCount, f_proofKept, f_openCount, f_universeSize, f_neededInstances, f_givenLiterals, a_litSign, a_litPred, a_litArg0, a_litArg1, a_clauseStart, a_predArity, a_stepKind, a_stepA, a_stepB, a_binding, a_keptKind, a_keptA, a_keptB, a_keptInstance, a_openCopy, a_openLit, a_parentCopy, a_parentLit, a_pathLength, a_atomBase, a_instanceLits, a_instanceHolds, a_literalHolds, a_restInstances, a_pathLiterals) (nI c) (nI l) (nI pos) := by
  have hin : vp_in (nI l) 16 := vp_in_nI hl (by decide)
  have fin : wpX_termOf (fun r_38 => (∃ n20 : Nat, wX_resolve_20 post f_litCount f_clauseCount f_stepCount f_bufferSealed f_lastCheckStep f_keptCount f_proofKept f_openCount f_universeSize f_neededInstances f_givenLiterals a_litSign a_litPred a_litArg0 a_litArg1 a_clauseStart a_predArity a_stepKind a_stepA a_stepB a_binding a_keptKind a_keptA a_keptB a_keptInstance a_openCopy a_openLit a_parentCopy a_parentLit a_pathLength a_atomBase a_instanceLits a_instanceHolds a_literalHolds a_restInstances a_pathLiterals n20 r_38 0)) (f_litCount, f_clauseCount, f_stepCount, f_bufferSealed, f_lastCheckStep, f_keptCount, f_proofKept, f_openCount, f_universeSize, f_neededInstances, f_givenLiterals, a_litSign, a_litPred, a_litArg0, a_litArg1, a_clauseStart, a_predArity, a_stepKind, a_stepA, a_stepB, a_binding, a_keptKind, a_keptA, a_keptB, a_keptInstance, a_openCopy, a_openLit, a_parentCopy, a_parentLit, a_pathLength, a_atomBase, a_instanceLits, a_instanceHolds, a_literalHolds, a_restInstances, a_pathLiterals) (nI c) (nI t) := by
    unfold ck_tm at h
    by_cases h2 : t < 2
    · rw [if_pos h2] at h
      refine br_t (nI_lt (b := 2) h2 (by decide)) ⟨_, xr_loop hb 513 t 0 rfl (by omega) h⟩
    · rw [if_neg h2] at h
      refine br_f (nI_nlt (b := 2) (by omega) (by omega)) ⟨514, ?_⟩
      rw [show (2 : Int32) = nI 2 from rfl, pk_mul, nI_add]
      exact xr_loop hb 513 (2 * c + t) 0 rfl (by omega) h
  by_cases e : pos = 0
  · subst e
    rw [if_pos rfl] at ha
    refine br_t rfl ⟨hin, ?_⟩
    rw [nI_clamp (show l < 2 ^ 31 by omega), ha]
    exact fin
  · have e1 : pos = 1 := by omega
    subst e1
    rw [if_neg e] at ha
    refine br_f (by decide) ⟨hin, ?_⟩
    rw [nI_clamp (show l < 2 ^ 31 by omega), ha]
    exact fin
end
/-! connections -/
theorem cd_arg {nc nl : Nat} {st : Nat → Nat} {sg pr a0 a1 ar : Nat → Int32} (hw : cd_wf nc nl st sg pr a0 a1 ar) {l : Nat} (hl : l < nl) :
    ck_ar (a0 l) (a1 l) ≤ 2 ∧ ∀ pos, pos < ck_ar (a0 l) (a1 l) → ∃ t, t < 4 ∧ (if pos = 0 then a0 l else a1 l) = nI t ∧ ck_ag a0 a1 l pos = t := by
  obtain ⟨_, _, _, _, _, _, w7, _⟩ := hw
  obtain ⟨_, _, l3, l4, l5⟩ := w7 l hl
  unfold ck_ar ck_ag
  by_cases e : a0 l = -1
  · rw [if_pos e]
    exact ⟨by omega, fun pos hp => absurd hp (Nat.not_lt_zero pos)⟩
  · obtain ⟨t0, ht0, e0⟩ := l3.resolve_left e
    rw [if_neg e]
    by_cases e2 : a1 l = -1
    · rw [if_pos e2]
      refine ⟨by omega, fun pos hp => ?_⟩
      have : pos = 0 := by omega
      subst this
      rw [if_pos rfl, if_pos rfl, e0]
      exact ⟨t0, ht0, rfl, nI_clamp (by omega)⟩
    · obtain ⟨t1, ht1, e1⟩ := l4.resolve_left e2
      rw [if_neg e2]
      refine ⟨by omega, fun pos hp => ?_⟩
      by_cases z : pos = 0
      · rw [if_pos z, if_pos z, e0]
        exact ⟨t0, ht0, rfl, nI_clamp (by omega)⟩
      · rw [if_neg z, if_neg z, e1]
        exact ⟨t1, ht1, rfl, nI_clamp (by omega)⟩
theorem cd_ar_eq {nc nl : Nat} {st : Nat → Nat} {sg pr a0 a1 ar : Nat → Int32} (hw : cd_wf nc nl st sg pr a0 a1 ar) {l l2 : Nat} (hl : l < nl) (hl2 : l2 < nl) (hp : pr l = pr l2) :
    ck_ar (a0 l) (a1 l) = ck_ar (a0 l2) (a1 l2) := by
  have b1 := (cd_arg hw hl).1
  have b2 := (cd_arg hw hl2).1
  obtain ⟨_, _, _, _, _, _, w7, _⟩ := hw
  obtain ⟨_, ⟨p, hp4, e, ea⟩, _⟩ := w7 l hl
  obtain ⟨_, ⟨p2, hp24, e2, ea2⟩, _⟩ := w7 l2 hl2
  rw [e, e2, nI_eq (by omega) (by omega)] at hp
  subst hp
  rw [ea, nI_eq (by omega) (by omega)] at ea2
  exact ea2
theorem ck_rv_none : ck_rv none = -1 := rfl
theorem ck_rv_some {x : Nat} (h : x < 514) : ¬ ck_rv (some x) = -1 := by
  show ¬ nI x = -1
  intro e
  have := congrArg Int32.toInt e
  rw [nI_toInt (by omega), show (-1 : Int32).toInt = -1 from by decide] at this
  omega
section
variable {f_litCount f_clauseCount f_stepCount f_bufferSealed f_lastCheckStep f_keptCount f_proofKept f_openCount f_universeSize f_neededInstances f_givenLiterals : Int32} {a_litSign a_litPred a_litArg0 a_litArg1 a_clauseStart a_predArity a_stepKind a_stepA a_stepB a_binding a_keptKind a_keptA a_keptB a_keptInstance a_openCopy a_openLit a_parentCopy a_parentLit a_pathLength a_atomBase a_instanceLits a_instanceHolds a_literalHolds a_restInstances a_pathLiterals : Nat → Int32}
theorem xj_conn {post : Int32 → Prop} {nc nl : Nat} {st : Nat → Nat} (hw : cd_wf nc nl st a_litSign a_litPred a_litArg0 a_litArg1 a_predArity) {b : Nat → Nat} (hb : cr_bx b a_binding)
    {M c1 l1 c2 l2 : Nat} (hM : M ≤ nl) (hc1 : c1 < 256) (hl1 : l1 < M) (hc2 : c2 < 256) (hl2 : l2 < M)
    (h : post (ck_conn (cd_mk M a_litSign) (cd_mk M a_litPred) (cd_mk M a_litArg0) (cd_mk M a_litArg1) b c1 l1 c2 l2)) : wpX_judgeConnection post (f_litCount, f_clauseCount, f_stepCount, f_bufferSealed, f_lastCheckStep, f_keptCount, f_proofKept, f_openCount, f_universeSize, f_neededInstances, f_givenLiterals, a_litSign, a_litPred, a_litArg0, a_litArg1, a_clauseStart, a_predArity, a_stepKind, a_stepA, a_stepB, a_binding, a_keptKind, a_keptA, a_keptB, a_keptInstance, a_openCopy, a_openLit, a_parentCopy, a_parentLit, a_pathLength, a_atomBase, a_instanceLits, a_instanceHolds, a_literalHolds, a_restInstances, a_pathLiterals) (nI c1) (nI l1) (nI c2) (nI l2) := by
  have hnl := hw.2.1
  have in1 : vp_in (nI l1) 16 := vp_in_nI (by omega) (by decide)
  have in2 : vp_in (nI l2) 16 := vp_in_nI (by omega) (by decide)
  have cl1 : (nI l1).toNatClampNeg = l1 := nI_clamp (by omega)
  have cl2 : (nI l2).toNatClampNeg = l2 := nI_clamp (by omega)
  unfold ck_conn at h
  rw [cd_mk_lt hl1, cd_mk_lt hl1, cd_mk_lt hl1, cd_mk_lt hl1, cd_mk_lt hl2, cd_mk_lt hl2] at h
  refine ⟨in1, in2, ?_⟩
  rw [cl1, cl2]
  refine br_c (fun e => ?_) (fun e => ⟨in1, in2, br_c (fun ep => ?_) (fun ep => ?_)⟩)
  · rw [if_pos (Or.inl e)] at h
    exact h
  · rw [if_neg (fun z => z.elim e (fun y => y ep))] at h
    obtain ⟨_, ⟨p, hp4, epr, ear⟩, _⟩ := hw.2.2.2.2.2.2.1 l1 (by omega)
    obtain ⟨ha2, harg⟩ := cd_arg hw (show l1 < nl by omega)
    obtain ⟨_, harg2⟩ := cd_arg hw (show l2 < nl by omega)
    rw [← cd_ar_eq hw (by omega) (by omega) ep] at harg2
    rw [epr, nI_clamp (show p < 2 ^ 31 by omega), ear]
    refine ⟨in1, vp_in_nI hp4 (by decide), nm_e ?_⟩
    have key : ∀ (r pos : Nat), pos + r = ck_ar (a_litArg0 l1) (a_litArg1 l1) →
        post (ck_ps b (fun p => ck_tm c1 (ck_ag (cd_mk M a_litArg0) (cd_mk M a_litArg1) l1 p)) (fun p => ck_tm c2 (ck_ag (cd_mk M a_litArg0) (cd_mk M a_litArg1) l2 p)) r pos) →
        wX_judgeConnection_51 post (nI c1) (nI l1) (nI c2) (nI l2) (nI (ck_ar (a_litArg0 l1) (a_litArg1 l1))) f_litCount f_clauseCount f_stepCount f_bufferSealed f_lastCheckStep f_keptCount f_proofKept f_openCount f_universeSize f_neededInstances f_givenLiterals a_litSign a_litPred a_litArg0 a_litArg1 a_clauseStart a_predArity a_stepKind a_stepA a_stepB a_binding a_keptKind a_keptA a_keptB a_keptInstance a_openCopy a_openLit a_parentCopy a_parentLit a_pathLength a_atomBase a_instanceLits a_instanceHolds a_literalHolds a_restInstances a_pathLiterals (r + 1) (nI pos) := by
      intro r
      induction r with
      | zero =>
        intro pos hpos hh
        exact br_t (nI_le (by omega) (by omega)) hh
      | succ r ih =>
        intro pos hpos hh
        refine br_f (nI_ge (show pos < ck_ar (a_litArg0 l1) (a_litArg1 l1) by omega) (by omega)) ?_
        obtain ⟨t, ht, et, eg⟩ := harg pos (by omega)
        obtain ⟨t2, ht2, et2, eg2⟩ := harg2 pos (by omega)
        have m1 : ck_ag (cd_mk M a_litArg0) (cd_mk M a_litArg1) l1 pos = t := by
          rw [← eg]; unfold ck_ag; rw [cd_mk_lt hl1, cd_mk_lt hl1]
        have m2 : ck_ag (cd_mk M a_litArg0) (cd_mk M a_litArg1) l2 pos = t2 := by
          rw [← eg2]; unfold ck_ag; rw [cd_mk_lt hl2, cd_mk_lt hl2]
        unfold ck_ps at hh
        try dsimp only at hh
        rw [m1, m2] at hh
        have hbt : ∀ t, t < 514 → b t < 514 := fun t ht => (hb.2.2 t ht).1
        have tm1 : ck_tm c1 t < 514 := by unfold ck_tm; split <;> omega
        have tm2 : ck_tm c2 t2 < 514 := by unfold ck_tm; split <;> omega
        refine xr_res hb hc1 (by omega) (by omega) ht et ?_
        refine xr_res hb hc2 (by omega) (by omega) ht2 et2 ?_
        cases o1 : ck_res b 513 (ck_tm c1 t) with
        | none =>
          rw [o1] at hh
          exact br_t rfl hh
        | some x =>
          have hx := ck_res_lt hbt 513 _ tm1 x o1
          rw [o1] at hh
          refine br_f (ck_rv_some hx) ?_
          cases o2 : ck_res b 513 (ck_tm c2 t2) with
          | none =>
            rw [o2] at hh
            exact br_t rfl hh
          | some y =>
            have hy := ck_res_lt hbt 513 _ tm2 y o2
            rw [o2] at hh
            try dsimp only at hh
            refine br_f (ck_rv_some hy) ?_
            refine pk_eq x y (fun e => ?_) (fun e => ?_)
            · rw [if_pos e] at hh
              exact nm_r (nI_1 pos) (ih (pos + 1) (by omega) hh)
            · rw [if_neg e] at hh
              exact hh
    exact ⟨_, key _ 0 (by omega) h⟩
  · rw [if_pos (Or.inr ep)] at h
    exact h
end
end
section
/-! X's steps -/
section
variable {f_litCount f_clauseCount f_stepCount f_bufferSealed f_lastCheckStep f_keptCount f_proofKept f_openCount f_universeSize f_neededInstances f_givenLiterals : Int32} {a_litSign a_litPred a_litArg0 a_litArg1 a_clauseStart a_predArity a_stepKind a_stepA a_stepB a_binding a_keptKind a_keptA a_keptB a_keptInstance a_openCopy a_openLit a_parentCopy a_parentLit a_pathLength a_atomBase a_instanceLits a_instanceHolds a_literalHolds a_restInstances a_pathLiterals : Nat → Int32}
theorem xj_redl {post : Int32 → Prop} {M a : Nat} {x2 x3 : Int32} : ∀ (p : List (Nat × Nat)) (c : Nat), c < 256 → xc_ch a_parentCopy a_parentLit a_pathLength M p c → a < p.length →
    wpX_judgeConnection post (f_litCount, f_clauseCount, f_stepCount, f_bufferSealed, f_lastCheckStep, f_keptCount, f_proofKept, f_openCount, f_universeSize, f_neededInstances, f_givenLiterals, a_litSign, a_litPred, a_litArg0, a_litArg1, a_clauseStart, a_predArity, a_stepKind, a_stepA, a_stepB, a_binding, a_keptKind, a_keptA, a_keptB, a_keptInstance, a_openCopy, a_openLit, a_parentCopy, a_parentLit, a_pathLength, a_atomBase, a_instanceLits, a_instanceHolds, a_literalHolds, a_restInstances, a_pathLiterals) x2 x3 (nI (p.getD (p.length - 1 - a) (0, 0)).1) (nI (p.getD (p.length - 1 - a) (0, 0)).2) →
    wX_judgeReduction_40 post x2 x3 (nI a) f_litCount f_clauseCount f_stepCount f_bufferSealed f_lastCheckStep f_keptCount f_proofKept f_openCount f_universeSize f_neededInstances f_givenLiterals a_litSign a_litPred a_litArg0 a_litArg1 a_clauseStart a_predArity a_stepKind a_stepA a_stepB a_binding a_keptKind a_keptA a_keptB a_keptInstance a_openCopy a_openLit a_parentCopy a_parentLit a_pathLength a_atomBase a_instanceLits a_instanceHolds a_literalHolds a_restInstances a_pathLiterals p.length (nI c) (nI (p.length - 1))
  | [], c, _, _, ha, _ => absurd ha (Nat.not_lt_zero a)
  | e :: p, c, hc, hch, ha, h => by
    obtain ⟨h1, h2, h3, h4, h5, h6⟩ := hch
    have hlen := (xc_ch_len h6).2
    have hin : vp_in (nI c) 256 := vp_in_nI hc (by decide)
    have cl : (nI c).toNatClampNeg = c := nI_clamp (by omega)
    rw [List.length_cons] at ha h
    show wX_judgeReduction_40 post x2 x3 (nI a) f_litCount f_clauseCount f_stepCount f_bufferSealed f_lastCheckStep f_keptCount f_proofKept f_openCount f_universeSize f_neededInstances f_givenLiterals a_litSign a_litPred a_litArg0 a_litArg1 a_clauseStart a_predArity a_stepKind a_stepA a_stepB a_binding a_keptKind a_keptA a_keptB a_keptInstance a_openCopy a_openLit a_parentCopy a_parentLit a_pathLength a_atomBase a_instanceLits a_instanceHolds a_literalHolds a_restInstances a_pathLiterals (p.length + 1) (nI c) (nI (p.length + 1 - 1))
    have e1 : p.length + 1 - 1 = p.length := by omega
    rw [e1] at h ⊢
    refine pk_le p.length a (fun z => ?_) (fun z => ?_)
    · rw [cl, h4, h5]
      have ea : p.length - a = 0 := by omega
      rw [ea] at h
      exact ⟨hin, hin, h⟩
    · rw [cl]
      refine ⟨hin, nm_r h4 ?_⟩
      obtain ⟨n, hn⟩ : ∃ n, p.length = n + 1 := ⟨p.length - 1, by omega⟩
      have e2 : nI p.length + (-1) = nI (p.length - 1) := by
        rw [hn, pk_m1]
        exact congrArg nI (by omega)
      refine nm_r e2 ?_
      have e3 : p.length - a = (p.length - 1 - a) + 1 := by omega
      rw [e3, List.getD_cons_succ] at h
      exact xj_redl p e.1 (by omega) h6 z h
theorem xj_red {post : Int32 → Prop} {M c i : Nat} {x3 : Int32} {p : List (Nat × Nat)} (hi : i < 256) (hc : c < 256) (hch : xc_ch a_parentCopy a_parentLit a_pathLength M p c)
    (h0 : ck_out (a_stepA i) p.length → post (-14))
    (h1 : ¬ ck_out (a_stepA i) p.length → wpX_judgeConnection post (f_litCount, f_clauseCount, f_stepCount, f_bufferSealed, f_lastCheckStep, f_keptCount, f_proofKept, f_openCount, f_universeSize, f_neededInstances, f_givenLiterals, a_litSign, a_litPred, a_litArg0, a_litArg1, a_clauseStart, a_predArity, a_stepKind, a_stepA, a_stepB, a_binding, a_keptKind, a_keptA, a_keptB, a_keptInstance, a_openCopy, a_openLit, a_parentCopy, a_parentLit, a_pathLength, a_atomBase, a_instanceLits, a_instanceHolds, a_literalHolds, a_restInstances, a_pathLiterals) (nI c) x3 (nI (p.getD (p.length - 1 - (a_stepA i).toNatClampNeg) (0, 0)).1) (nI (p.getD (p.length - 1 - (a_stepA i).toNatClampNeg) (0, 0)).2)) :
    wpX_judgeReduction post (f_litCount, f_clauseCount, f_stepCount, f_bufferSealed, f_lastCheckStep, f_keptCount, f_proofKept, f_openCount, f_universeSize, f_neededInstances, f_givenLiterals, a_litSign, a_litPred, a_litArg0, a_litArg1, a_clauseStart, a_predArity, a_stepKind, a_stepA, a_stepB, a_binding, a_keptKind, a_keptA, a_keptB, a_keptInstance, a_openCopy, a_openLit, a_parentCopy, a_parentLit, a_pathLength, a_atomBase, a_instanceLits, a_instanceHolds, a_literalHolds, a_restInstances, a_pathLiterals) (nI i) (nI c) x3 := by
  obtain ⟨el, hl⟩ := xc_ch_len hch
  refine ⟨vp_in_nI hi (by decide), ?_⟩
  rw [nI_clamp (show i < 2 ^ 31 by omega), nI_clamp (show c < 2 ^ 31 by omega), el]
  refine nm_e ?_
  rcases ck_out_or (a_stepA i) (n := p.length) (by omega) with ho | ⟨ho, a, ha, e⟩
  · by_cases hn : a_stepA i < 0
    · exact br_t hn (h0 ho)
    · refine br_f hn ⟨vp_in_nI hc (by decide), br_f (fun z => ?_) (h0 ho)⟩
      rcases ho with ho | ho
      · exact hn ho
      · exact absurd z (Int32.not_lt.mpr ho)
  · have hh := h1 ho
    rw [e, nI_clamp (show a < 2 ^ 31 by omega)] at hh
    rw [e]
    refine br_f (nI_pos (by omega)) ⟨vp_in_nI hc (by decide), br_t (nI_lt ha (by omega)) ⟨vp_in_nI hc (by decide), ?_⟩⟩
    have e2 : nI p.length - 1 = nI (p.length - 1) := by
      rw [show (1 : Int32) = nI 1 from rfl, pk_sub (by omega)]
    exact nm_r e2 ⟨_, xj_redl p c hc hch ha hh⟩
theorem xj_isC {post : Int32 → Prop} {nc : Nat} {x : Int32} (h0 : ck_out x nc → post 0) (h1 : ¬ ck_out x nc → post 1) : wpX_isClause post (f_litCount, nI nc, f_stepCount, f_bufferSealed, f_lastCheckStep, f_keptCount, f_proofKept, f_openCount, f_universeSize, f_neededInstances, f_givenLiterals, a_litSign, a_litPred, a_litArg0, a_litArg1, a_clauseStart, a_predArity, a_stepKind, a_stepA, a_stepB, a_binding, a_keptKind, a_keptA, a_keptB, a_keptInstance, a_openCopy, a_openLit, a_parentCopy, a_parentLit, a_pathLength, a_atomBase, a_instanceLits, a_instanceHolds, a_literalHolds, a_restInstances, a_pathLiterals) x := by
  refine br_c (fun e => h0 (Or.inl e)) (fun e => br_c (fun e2 => h0 (Or.inr e2)) (fun e2 => h1 (fun z => z.elim e e2)))
theorem xj_par {post : St1 → Prop} {i c : Nat} {x2 : Int32} {n : Nat} (hi : i < 256) (hc : c < 256) (hl : a_pathLength c = nI n)
    (h : post (f_litCount, f_clauseCount, f_stepCount, f_bufferSealed, f_lastCheckStep, f_keptCount, f_proofKept, f_openCount, f_universeSize, f_neededInstances, f_givenLiterals, a_litSign, a_litPred, a_litArg0, a_litArg1, a_clauseStart, a_predArity, a_stepKind, a_stepA, a_stepB, a_binding, a_keptKind, a_keptA, a_keptB, a_keptInstance, a_openCopy, a_openLit, upd a_parentCopy i (nI c), upd a_parentLit i x2, upd a_pathLength i (nI (n + 1)), a_atomBase, a_instanceLits, a_instanceHolds, a_literalHolds, a_restInstances, a_pathLiterals)) : wpX_setParent post (f_litCount, f_clauseCount, f_stepCount, f_bufferSealed, f_lastCheckStep, f_keptCount, f_proofKept, f_openCount, f_universeSize, f_neededInstances, f_givenLiterals, a_litSign, a_litPred, a_litArg0, a_litArg1, a_clauseStart, a_predArity, a_stepKind, a_stepA, a_stepB, a_binding, a_keptKind, a_keptA, a_keptB, a_keptInstance, a_openCopy, a_openLit, a_parentCopy, a_parentLit, a_pathLength, a_atomBase, a_instanceLits, a_instanceHolds, a_literalHolds, a_restInstances, a_pathLiterals) (nI i) (nI c) x2 := by
  have in1 : vp_in (nI i) 256 := vp_in_nI hi (by decide)
  have in2 : vp_in (nI c) 256 := vp_in_nI hc (by decide)
  refine ⟨in1, ?_⟩
  rw [nI_clamp (show i < 2 ^ 31 by omega), nI_clamp (show c < 2 ^ 31 by omega), hl, nI_1]
  exact nm_e ⟨in1, nm_e ⟨in2, in1, nm_e h⟩⟩
/-- one step of the check -/
theorem xj_step {post : Int32 → St1 → Prop} {nc nl : Nat} {st : Nat → Nat} (hw : cd_wf nc nl st a_litSign a_litPred a_litArg0 a_litArg1 a_predArity)
    (hcs : ∀ c, c ≤ nc → a_clauseStart c = nI (st c)) {b : Nat → Nat} (hb : cr_bx b a_binding) {i : Nat} (h1 : 1 ≤ i) (hi : i < 256) (hp0 : a_pathLength 0 = 0)
    {L : List ck_G} (hL : xc_stk a_openCopy a_openLit a_parentCopy a_parentLit a_pathLength (st nc) i L) (hlen : L.length ≤ i + 2)
    (h : ∀ (r x0 : Int32) (oc ol pc pl ph : Nat → Int32), r = (ck_step nc st (cd_mk (st nc) a_litSign) (cd_mk (st nc) a_litPred) (cd_mk (st nc) a_litArg0) (cd_mk (st nc) a_litArg1) a_stepKind a_stepA a_stepB b i L).1 → ph 0 = 0 →
      (r = 0 → x0 = nI (ck_step nc st (cd_mk (st nc) a_litSign) (cd_mk (st nc) a_litPred) (cd_mk (st nc) a_litArg0) (cd_mk (st nc) a_litArg1) a_stepKind a_stepA a_stepB b i L).2.length ∧
        (ck_step nc st (cd_mk (st nc) a_litSign) (cd_mk (st nc) a_litPred) (cd_mk (st nc) a_litArg0) (cd_mk (st nc) a_litArg1) a_stepKind a_stepA a_stepB b i L).2.length ≤ i + 3 ∧
        xc_stk oc ol pc pl ph (st nc) (i + 1) (ck_step nc st (cd_mk (st nc) a_litSign) (cd_mk (st nc) a_litPred) (cd_mk (st nc) a_litArg0) (cd_mk (st nc) a_litArg1) a_stepKind a_stepA a_stepB b i L).2) →
      post r (nI nl, nI nc, f_stepCount, f_bufferSealed, f_lastCheckStep, f_keptCount, f_proofKept, x0, f_universeSize, f_neededInstances, f_givenLiterals, a_litSign, a_litPred, a_litArg0, a_litArg1, a_clauseStart, a_predArity, a_stepKind, a_stepA, a_stepB, a_binding, a_keptKind, a_keptA, a_keptB, a_keptInstance, oc, ol, pc, pl, ph, a_atomBase, a_instanceLits, a_instanceHolds, a_literalHolds, a_restInstances, a_pathLiterals)) :
    wpX_judgeStep post (nI nl, nI nc, f_stepCount, f_bufferSealed, f_lastCheckStep, f_keptCount, f_proofKept, nI L.length, f_universeSize, f_neededInstances, f_givenLiterals, a_litSign, a_litPred, a_litArg0, a_litArg1, a_clauseStart, a_predArity, a_stepKind, a_stepA, a_stepB, a_binding, a_keptKind, a_keptA, a_keptB, a_keptInstance, a_openCopy, a_openLit, a_parentCopy, a_parentLit, a_pathLength, a_atomBase, a_instanceLits, a_instanceHolds, a_literalHolds, a_restInstances, a_pathLiterals) (nI i) := by
  have hM := hw.2.2.2.2.1
  have hnl := hw.2.1
  have hnc := hw.1
  match L, hL, hlen, h with
  | [], _, _, h => exact br_t rfl (h _ _ _ _ _ _ _ rfl hp0 (fun z => absurd z (by decide)))
  | (c, l, p) :: R, hL, hlen, h =>
    obtain ⟨s1, s2, s3, s4, s5, s6⟩ := hL
    rw [List.length_cons] at hlen
    try dsimp only at s1 s2 s3 s4 s5
    have hini : vp_in (nI i) 256 := vp_in_nI hi (by decide)
    have cli : (nI i).toNatClampNeg = i := nI_clamp (by omega)
    have hinR : vp_in (nI R.length) 258 := vp_in_nI (by omega) (by decide)
    refine br_f (nI_ne0 (by rw [List.length_cons]; omega) (by rw [List.length_cons]; omega)) ?_
    refine nm_r (by rw [List.length_cons]; exact nI_pred R.length) ⟨hinR, ?_⟩
    rw [nI_clamp (show R.length < 2 ^ 31 by omega), s1, s2, cli]
    refine nm_e ⟨hinR, nm_e ⟨hini, ?_⟩⟩
    unfold ck_step at h
    try dsimp only at h
    refine br_c (fun k0 => ?_) (fun k0 => ⟨hini, br_c (fun k1 => ?_) (fun k1 => ?_)⟩)
    · rw [ck_if_t k0] at h
      exact h _ _ _ _ _ _ _ rfl hp0 (fun z => absurd z (by decide))
    · rw [ck_if_f k0, ck_if_t k1] at h
      -- an extension
      refine ⟨hini, ?_⟩
      rw [cli]
      refine nm_e ?_
      refine xj_isC (fun ho => ?_) (fun ho => ?_)
      · rw [ck_if_t ho] at h
        exact br_t rfl (h _ _ _ _ _ _ _ rfl hp0 (fun z => absurd z (by decide)))
      · rw [ck_if_f ho] at h
        refine br_f (by decide) ?_
        obtain ⟨a, ha, ea⟩ := (ck_out_or (a_stepA i) (n := nc) (by omega)).resolve_left ho |>.2
        rw [ea, nI_clamp (show a < 2 ^ 31 by omega)] at h
        rw [ea]
        obtain ⟨b1, b2, b3⟩ := cd_en_bd hw (show a ≤ nc by omega)
        rw [cd_en_lt ha] at b1 b2 b3
        have hst : st (a + 1) ≤ st nc := cd_mono' hw (by omega) (Nat.le_refl _)
        refine xl_len hw hcs (by omega) ?_
        rw [cd_en_lt ha]
        refine ⟨hini, ?_⟩
        rcases ck_out_or (a_stepB i) (n := st (a + 1) - st a) (by omega) with hob | ⟨hob, bb, hbb, eb⟩
        · rw [ck_if_t hob] at h
          have fin := h _ (nI R.length) a_openCopy a_openLit a_parentCopy a_parentLit a_pathLength rfl hp0 (fun z => absurd (show (-13 : Int32) = 0 from z) (by decide))
          by_cases hn : a_stepB i < 0
          · exact br_t hn fin
          · refine br_f hn ⟨hini, br_f (fun z => ?_) fin⟩
            rcases hob with hob | hob
            · exact hn hob
            · exact absurd z (Int32.not_lt.mpr hob)
        · rw [ck_if_f hob, eb, nI_clamp (show bb < 2 ^ 31 by omega)] at h
          rw [eb]
          refine br_f (nI_pos (by omega)) ⟨hini, br_t (nI_lt hbb (by omega)) ⟨vp_in_nI (by omega) (by decide), ?_⟩⟩
          rw [nI_clamp (show a < 2 ^ 31 by omega), hcs a (by omega)]
          refine nm_e ⟨hini, nm_r (nI_add _ _) ?_⟩
          refine xj_conn hw hb hM (show c < 256 by omega) s4 hi (show st a + bb < st nc by omega) ?_
          by_cases hcn : ck_conn (cd_mk (st nc) a_litSign) (cd_mk (st nc) a_litPred) (cd_mk (st nc) a_litArg0) (cd_mk (st nc) a_litArg1) b c l i (st a + bb) = 0
          · rw [ck_if_t hcn] at h
            rw [hcn]
            refine br_t rfl ?_
            refine xj_par hi (show c < 256 by omega) (xc_ch_len s5).1 ?_
            have fr : ∀ j, j < i → upd a_parentCopy i (nI c) j = a_parentCopy j ∧ upd a_parentLit i (nI l) j = a_parentLit j ∧ upd a_pathLength i (nI (p.length + 1)) j = a_pathLength j := by
              intro j hj
              rw [pk_un (by omega), pk_un (by omega), pk_un (by omega)]
              exact ⟨rfl, rfl, rfl⟩
            have lsl : (ck_gl i (st a + bb) ((c, l) :: p) (st (a + 1) - st a) (st a)).length ≤ 2 := by
              have := ck_gl_len' (copy := i) (sk := st a + bb) (p := (c, l) :: p) (st (a + 1) - st a) (st a) (by omega) (by omega)
              omega
            have lsl' : (xg_ls (st a + bb) (st (a + 1) - st a) (st a)).length ≤ 2 := by
              rw [xg_gl, List.length_map] at lsl
              exact lsl
            refine xg_open (sk := st a + bb) (fun j hj1 hj2 => nI_eq (by omega) (by omega)) (by omega) (by omega) (fun oc ol hag hrep => ?_)
            refine h 0 _ oc ol _ _ _ rfl ?_ (fun _ => ⟨?_, ?_, ?_⟩)
            · rw [pk_un (by omega)]
              exact hp0
            · rw [List.length_append, xg_gl, List.length_map, Nat.add_comm]
            · rw [List.length_append]
              omega
            · rw [xg_gl]
              have hch : xc_ch (upd a_parentCopy i (nI c)) (upd a_parentLit i (nI l)) (upd a_pathLength i (nI (p.length + 1))) (st nc) ((c, l) :: p) i := ⟨s3, s4, pk_us, pk_us, pk_us, xc_ch_fr fr s3 s5⟩
              refine xc_stk_app (by omega) hch (xc_stk_fr (by omega) fr hag s6) (fun l' hl' => ?_) hrep
              have := xg_ls_mem hl'
              omega
          · rw [ck_if_f hcn] at h
            exact br_f hcn (h _ _ _ _ _ _ _ rfl hp0 (fun z => absurd z hcn))
    · rw [ck_if_f k0, ck_if_f k1] at h
      refine xj_red hi (show c < 256 by omega) s5 (fun ho => ?_) (fun ho => ?_)
      · rw [ck_if_t ho] at h
        exact h _ _ _ _ _ _ _ rfl hp0 (fun z => absurd z (by decide))
      · rw [ck_if_f ho] at h
        obtain ⟨a, ha, ea⟩ := (ck_out_or (a_stepA i) (n := p.length) (by have := (xc_ch_len s5).2; omega)).resolve_left ho |>.2
        rw [ea, nI_clamp (show a < 2 ^ 31 by have := (xc_ch_len s5).2; omega)] at h ⊢
        have hent := xc_ch_get s5 (p.length - 1 - a) (by omega)
        refine xj_conn hw hb hM (show c < 256 by omega) s4 (by omega) hent.2 ?_
        refine h _ _ _ _ _ _ _ rfl hp0 (fun _ => ⟨rfl, ?_, ?_⟩)
        · try dsimp only
          omega
        · exact xc_stk_fr (by omega) (fun _ _ => ⟨rfl, rfl, rfl⟩) (fun _ _ => ⟨rfl, rfl⟩) s6
end
section
variable {f_litCount f_clauseCount f_stepCount f_bufferSealed f_lastCheckStep f_keptCount f_proofKept f_openCount f_universeSize f_neededInstances f_givenLiterals : Int32} {a_litSign a_litPred a_litArg0 a_litArg1 a_clauseStart a_predArity a_stepKind a_stepA a_stepB a_binding a_keptKind a_keptA a_keptB a_keptInstance a_openCopy a_openLit a_parentCopy a_parentLit a_pathLength a_atomBase a_instanceLits a_instanceHolds a_literalHolds a_restInstances a_pathLiterals : Nat → Int32}
theorem xk_loop {post : Int32 → St1 → Prop} {nc nl ns : Nat} {st : Nat → Nat} (hw : cd_wf nc nl st a_litSign a_litPred a_litArg0 a_litArg1 a_predArity)
    (hcs : ∀ c, c ≤ nc → a_clauseStart c = nI (st c)) {b : Nat → Nat} (hb : cr_bx b a_binding) (hns : ns ≤ 256) : ∀ (r i : Nat) (L : List ck_G) (x0 ls : Int32) (oc ol pc pl ph : Nat → Int32), i + r = ns → 1 ≤ i → ph 0 = 0 →
    x0 = nI L.length → L.length ≤ i + 2 → xc_stk oc ol pc pl ph (st nc) i L →
    (∀ (x0 : Int32) (oc ol pc pl ph : Nat → Int32), ph 0 = 0 →
      post (ck_go nc st (cd_mk (st nc) a_litSign) (cd_mk (st nc) a_litPred) (cd_mk (st nc) a_litArg0) (cd_mk (st nc) a_litArg1) a_stepKind a_stepA a_stepB b r i L).1
        (nI nl, nI nc, nI ns, f_bufferSealed, (ck_go nc st (cd_mk (st nc) a_litSign) (cd_mk (st nc) a_litPred) (cd_mk (st nc) a_litArg0) (cd_mk (st nc) a_litArg1) a_stepKind a_stepA a_stepB b r i L).2, f_keptCount, f_proofKept, x0, f_universeSize, f_neededInstances, f_givenLiterals, a_litSign, a_litPred, a_litArg0, a_litArg1, a_clauseStart, a_predArity, a_stepKind, a_stepA, a_stepB, a_binding, a_keptKind, a_keptA, a_keptB, a_keptInstance, oc, ol, pc, pl, ph, a_atomBase, a_instanceLits, a_instanceHolds, a_literalHolds, a_restInstances, a_pathLiterals)) →
    wX_check_12 post (r + 1) 0 (nI i) (nI nl) (nI nc) (nI ns) f_bufferSealed ls f_keptCount f_proofKept x0 f_universeSize f_neededInstances f_givenLiterals a_litSign a_litPred a_litArg0 a_litArg1 a_clauseStart a_predArity a_stepKind a_stepA a_stepB a_binding a_keptKind a_keptA a_keptB a_keptInstance oc ol pc pl ph a_atomBase a_instanceLits a_instanceHolds a_literalHolds a_restInstances a_pathLiterals
  | 0, i, L, x0, ls, oc, ol, pc, pl, ph, hir, h1, hp0, ex, hlen, hL, h => by
    have ei : i = ns := by omega
    subst ei
    refine br_t (nI_le (Nat.le_refl i) (by omega)) (br_t rfl ?_)
    unfold ck_go at h
    subst ex
    match L, h with
    | [], h => exact br_t (by decide) (h _ _ _ _ _ _ hp0)
    | g :: R, h => exact br_f (nI_nle (by rw [List.length_cons]; omega) (by rw [List.length_cons] at hlen ⊢; omega)) (h _ _ _ _ _ _ hp0)
  | r + 1, i, L, x0, ls, oc, ol, pc, pl, ph, hir, h1, hp0, ex, hlen, hL, h => by
    subst ex
    refine br_f (nI_ge (show i < ns by omega) (by omega)) (br_t rfl ?_)
    refine xj_step hw hcs hb h1 (by omega) hp0 hL hlen (fun rr x0' oc' ol' pc' pl' ph' er hp0' hz => nm_r (nI_1 i) ?_)
    rw [ck_go] at h
    by_cases z : (ck_step nc st (cd_mk (st nc) a_litSign) (cd_mk (st nc) a_litPred) (cd_mk (st nc) a_litArg0) (cd_mk (st nc) a_litArg1) a_stepKind a_stepA a_stepB b i L).1 = 0
    · rw [if_pos z] at h
      have er0 : rr = 0 := er.trans z
      subst er0
      obtain ⟨z1, z2, z3⟩ := hz rfl
      exact xk_loop hw hcs hb hns r (i + 1) _ _ _ oc' ol' pc' pl' ph' (by omega) (by omega) hp0' z1 (by omega) z3 h
    · rw [if_neg z] at h
      have hne : ¬ rr = 0 := fun e => z (er.symm.trans e)
      have fin : wX_check_41 post rr (nI nl) (nI nc) (nI ns) f_bufferSealed (nI i) f_keptCount f_proofKept x0' f_universeSize f_neededInstances f_givenLiterals a_litSign a_litPred a_litArg0 a_litArg1 a_clauseStart a_predArity a_stepKind a_stepA a_stepB a_binding a_keptKind a_keptA a_keptB a_keptInstance oc' ol' pc' pl' ph' a_atomBase a_instanceLits a_instanceHolds a_literalHolds a_restInstances a_pathLiterals := by
        refine br_f hne ?_
        rw [er]
        exact h _ _ _ _ _ _ hp0'
      exact br_c (fun _ => fin) (fun _ => br_f hne fin)
theorem xk_check {post : Int32 → St1 → Prop} {nc nl ns : Nat} {st : Nat → Nat} (hw : cd_wf nc nl st a_litSign a_litPred a_litArg0 a_litArg1 a_predArity)
    (hcs : ∀ c, c ≤ nc → a_clauseStart c = nI (st c)) {b : Nat → Nat} (hb : cr_bx b a_binding) (hns : ns ≤ 256) (hp0 : a_pathLength 0 = 0)
    (h : ∀ (x0 : Int32) (oc ol pc pl ph : Nat → Int32), ph 0 = 0 →
      post (ck_all nc st (cd_mk (st nc) a_litSign) (cd_mk (st nc) a_litPred) (cd_mk (st nc) a_litArg0) (cd_mk (st nc) a_litArg1) a_stepKind a_stepA a_stepB b ns).1
        (nI nl, nI nc, nI ns, f_bufferSealed, (ck_all nc st (cd_mk (st nc) a_litSign) (cd_mk (st nc) a_litPred) (cd_mk (st nc) a_litArg0) (cd_mk (st nc) a_litArg1) a_stepKind a_stepA a_stepB b ns).2, f_keptCount, f_proofKept, x0, f_universeSize, f_neededInstances, f_givenLiterals, a_litSign, a_litPred, a_litArg0, a_litArg1, a_clauseStart, a_predArity, a_stepKind, a_stepA, a_stepB, a_binding, a_keptKind, a_keptA, a_keptB, a_keptInstance, oc, ol, pc, pl, ph, a_atomBase, a_instanceLits, a_instanceHolds, a_literalHolds, a_restInstances, a_pathLiterals)) :
    wpX_check post (nI nl, nI nc, nI ns, f_bufferSealed, f_lastCheckStep, f_keptCount, f_proofKept, f_openCount, f_universeSize, f_neededInstances, f_givenLiterals, a_litSign, a_litPred, a_litArg0, a_litArg1, a_clauseStart, a_predArity, a_stepKind, a_stepA, a_stepB, a_binding, a_keptKind, a_keptA, a_keptB, a_keptInstance, a_openCopy, a_openLit, a_parentCopy, a_parentLit, a_pathLength, a_atomBase, a_instanceLits, a_instanceHolds, a_literalHolds, a_restInstances, a_pathLiterals) := by
  have hM := hw.2.2.2.2.1
  have hnl := hw.2.1
  have hnc := hw.1
  -- a verdict of the start
  have bad : ∀ (r : Int32), ¬ r = 0 → post r (nI nl, nI nc, nI ns, f_bufferSealed, 0, f_keptCount, f_proofKept, f_openCount, f_universeSize, f_neededInstances, f_givenLiterals, a_litSign, a_litPred, a_litArg0, a_litArg1, a_clauseStart, a_predArity, a_stepKind, a_stepA, a_stepB, a_binding, a_keptKind, a_keptA, a_keptB, a_keptInstance, a_openCopy, a_openLit, a_parentCopy, a_parentLit, a_pathLength, a_atomBase, a_instanceLits, a_instanceHolds, a_literalHolds, a_restInstances, a_pathLiterals) → ∃ n12 : Nat, wX_check_12 post n12 r 1 (nI nl) (nI nc) (nI ns) f_bufferSealed 0 f_keptCount f_proofKept f_openCount f_universeSize f_neededInstances f_givenLiterals a_litSign a_litPred a_litArg0 a_litArg1 a_clauseStart a_predArity a_stepKind a_stepA a_stepB a_binding a_keptKind a_keptA a_keptB a_keptInstance a_openCopy a_openLit a_parentCopy a_parentLit a_pathLength a_atomBase a_instanceLits a_instanceHolds a_literalHolds a_restInstances a_pathLiterals := by
    intro r hr hh
    exact ⟨1, br_c (fun _ => br_f hr hh) (fun _ => br_f hr (br_f hr hh))⟩
  unfold ck_all at h
  by_cases e0 : ns = 0
  · rw [if_pos e0] at h
    subst e0
    exact br_t rfl (bad _ (by decide) (h _ _ _ _ _ _ hp0))
  · rw [if_neg e0] at h
    refine br_f (nI_ne0 (by omega) (by omega)) ?_
    refine br_c (fun k0 => ?_) (fun k0 => ?_)
    · rw [if_pos k0] at h
      refine nm_e ?_
      refine xj_isC (fun ho => ?_) (fun ho => ?_)
      · rw [ck_if_t ho] at h
        exact br_t rfl (bad _ (by decide) (h _ _ _ _ _ _ hp0))
      · rw [ck_if_f ho] at h
        refine br_f (by decide) ?_
        obtain ⟨a, ha, ea⟩ := (ck_out_or (a_stepA 0) (n := nc) (by omega)).resolve_left ho |>.2
        rw [ea, nI_clamp (show a < 2 ^ 31 by omega)] at h
        rw [ea]
        obtain ⟨b1, b2, b3⟩ := cd_en_bd hw (show a ≤ nc by omega)
        rw [cd_en_lt ha] at b1 b2 b3
        have hst : st (a + 1) ≤ st nc := cd_mono' hw (by omega) (Nat.le_refl _)
        refine xl_len hw hcs (by omega) ?_
        rw [cd_en_lt ha]
        refine ⟨vp_in_nI (by omega) (by decide), ?_⟩
        rw [nI_clamp (show a < 2 ^ 31 by omega), hcs a (by omega)]
        have lsl : (xg_ls 16 (st (a + 1) - st a) (st a)).length ≤ 3 := by
          have := ck_gl_len (copy := 0) (sk := 16) (p := []) (st (a + 1) - st a) (st a)
          rw [xg_gl, List.length_map] at this
          omega
        refine xg_open (base := 0) (sk := 16) (fun j hj1 hj2 => ?_) (by omega) (by omega) (fun oc ol hag hrep => ?_)
        · constructor
          · intro z
            have := congrArg Int32.toInt z
            rw [nI_toInt (by omega), show (-1 : Int32).toInt = -1 from by decide] at this
            omega
          · intro z
            omega
        · refine ⟨ns - 1 + 1, ?_⟩
          refine xk_loop hw hcs hb hns (ns - 1) 1 (ck_gl 0 16 [] (st (a + 1) - st a) (st a)) _ _ oc ol _ _ _ (by omega) (by omega) hp0 ?_ ?_ ?_ h
          · rw [xg_gl, List.length_map, Nat.zero_add]
          · rw [xg_gl, List.length_map]
            omega
          · rw [xg_gl, ← List.append_nil ((xg_ls 16 (st (a + 1) - st a) (st a)).map (fun l => ((0, l, []) : ck_G)))]
            have hch : xc_ch a_parentCopy a_parentLit a_pathLength (st nc) [] 0 := hp0
            refine xc_stk_app (R := []) (by omega) hch trivial (fun l' hl' => ?_) hrep
            have := xg_ls_mem hl'
            omega
    · rw [if_neg k0] at h
      exact bad _ (by decide) (h _ _ _ _ _ _ hp0)
end
end
section
/-! the ground literals, pure -/
def cg_oc (a0 a1 : Nat → Int32) (t : Int32) : Nat → Bool
  | 0 => false
  | M + 1 => cg_oc a0 a1 t M || decide (a0 M = t ∨ a1 M = t)
def cg_op (pr : Nat → Int32) (p : Nat) : Nat → Bool
  | 0 => false
  | M + 1 => cg_op pr p M || decide (pr M = nI p)
theorem cg_oc_iff {a0 a1 : Nat → Int32} {t : Int32} : ∀ (M : Nat), cg_oc a0 a1 t M = true ↔ ∃ j, j < M ∧ (a0 j = t ∨ a1 j = t)
  | 0 => ⟨fun h => absurd (show false = true from h) (by decide), fun ⟨j, h, _⟩ => absurd h (Nat.not_lt_zero j)⟩
  | M + 1 => by
    unfold cg_oc
    rw [Bool.or_eq_true, cg_oc_iff M, decide_eq_true_iff]
    constructor
    · intro h
      rcases h with ⟨j, h1, h2⟩ | h
      · exact ⟨j, by omega, h2⟩
      · exact ⟨M, by omega, h⟩
    · intro ⟨j, h1, h2⟩
      by_cases e : j = M
      · exact Or.inr (e ▸ h2)
      · exact Or.inl ⟨j, by omega, h2⟩
theorem cg_op_iff {pr : Nat → Int32} {p : Nat} : ∀ (M : Nat), cg_op pr p M = true ↔ ∃ j, j < M ∧ pr j = nI p
  | 0 => ⟨fun h => absurd (show false = true from h) (by decide), fun ⟨j, h, _⟩ => absurd h (Nat.not_lt_zero j)⟩
  | M + 1 => by
    unfold cg_op
    rw [Bool.or_eq_true, cg_op_iff M, decide_eq_true_iff]
    constructor
    · intro h
      rcases h with ⟨j, h1, h2⟩ | h
      · exact ⟨j, by omega, h2⟩
      · exact ⟨M, by omega, h⟩
    · intro ⟨j, h1, h2⟩
      by_cases e : j = M
      · exact Or.inr (e ▸ h2)
      · exact Or.inl ⟨j, by omega, h2⟩
def cg_sz (two : Bool) : Nat := if two = true then 2 else 1
def cg_at (pr ar : Nat → Int32) (M : Nat) (two : Bool) (p : Nat) : Nat := if cg_op pr p M = true then cg_sz two ^ (ar p).toNatClampNeg else 0
def cg_base (pr ar : Nat → Int32) (M : Nat) (two : Bool) : Nat → Nat
  | 0 => 0
  | p + 1 => cg_base pr ar M two p + cg_at pr ar M two p
theorem cg_base_mono {pr ar : Nat → Int32} {M : Nat} {two : Bool} {p : Nat} : ∀ d, cg_base pr ar M two p ≤ cg_base pr ar M two (p + d)
  | 0 => Nat.le_refl _
  | d + 1 => Nat.le_trans (cg_base_mono d) (Nat.le_add_right _ _)
theorem cg_base_lt {pr ar : Nat → Int32} {M : Nat} {two : Bool} {p q : Nat} (h : p < q) : cg_base pr ar M two p + cg_at pr ar M two p ≤ cg_base pr ar M two q := by
  obtain ⟨d, rfl⟩ : ∃ d, q = p + 1 + d := ⟨q - (p + 1), by omega⟩
  exact cg_base_mono (p := p + 1) d
def cg_vl (t : Int32) (x y : Nat) : Nat := if t = 2 then x else if t = 3 then y else t.toNatClampNeg
def cg_tup (a0 a1 : Nat → Int32) (two : Bool) (j x y : Nat) : Nat :=
  if two = true then (if ck_ar (a0 j) (a1 j) = 0 then 0 else if ck_ar (a0 j) (a1 j) = 1 then cg_vl (a0 j) x y else 2 * cg_vl (a0 j) x y + cg_vl (a1 j) x y) else 0
def cg_gl (sg pr a0 a1 ar : Nat → Int32) (M : Nat) (two : Bool) (j x y : Nat) : Nat :=
  2 * (cg_base pr ar M two (pr j).toNatClampNeg + cg_tup a0 a1 two j x y) + (sg j).toNatClampNeg
theorem cg_vl_lt {t : Int32} {x y : Nat} (ht : ∃ n, n < 4 ∧ t = nI n) (hx : x < 2) (hy : y < 2) : cg_vl t x y < 2 := by
  obtain ⟨n, hn, e⟩ := ht
  unfold cg_vl
  by_cases e2 : t = 2
  · rw [if_pos e2]; exact hx
  · rw [if_neg e2]
    by_cases e3 : t = 3
    · rw [if_pos e3]; exact hy
    · rw [if_neg e3, e, nI_clamp (by omega)]
      have h2 : ¬ n = 2 := fun z => e2 (by rw [e, z]; rfl)
      have h3 : ¬ n = 3 := fun z => e3 (by rw [e, z]; rfl)
      omega
/-- what is known of a literal of a finished clause -/
theorem cg_lit {nc nl : Nat} {st : Nat → Nat} {sg pr a0 a1 ar : Nat → Int32} (hw : cd_wf nc nl st sg pr a0 a1 ar) {j : Nat} (hj : j < st nc) :
    (sg j).toNatClampNeg < 2 ∧ sg j = nI (sg j).toNatClampNeg ∧ (pr j).toNatClampNeg < 4 ∧ pr j = nI (pr j).toNatClampNeg ∧
    (ar (pr j).toNatClampNeg).toNatClampNeg = ck_ar (a0 j) (a1 j) ∧ cg_op pr (pr j).toNatClampNeg (st nc) = true ∧
    (1 ≤ ck_ar (a0 j) (a1 j) → ∃ n, n < 4 ∧ a0 j = nI n) ∧ (2 ≤ ck_ar (a0 j) (a1 j) → ∃ n, n < 4 ∧ a1 j = nI n) ∧ ck_ar (a0 j) (a1 j) ≤ 2 := by
  have hjl : j < nl := Nat.lt_of_lt_of_le hj hw.2.2.2.2.1
  obtain ⟨l1, ⟨p, hp, ep, ea⟩, l3, l4, l5⟩ := hw.2.2.2.2.2.2.1 j hjl
  obtain ⟨a2, arg⟩ := cd_arg hw hjl
  have cp : (pr j).toNatClampNeg = p := by rw [ep]; exact nI_clamp (by omega)
  rw [cp]
  refine ⟨?_, ?_, hp, ep, ?_, (cg_op_iff _).mpr ⟨j, hj, ep⟩, fun h => ?_, fun h => ?_, a2⟩
  · rcases l1 with e | e <;> rw [e] <;> decide
  · rcases l1 with e | e <;> rw [e] <;> decide
  · rw [ea]; exact nI_clamp (by omega)
  · obtain ⟨t, ht, e, _⟩ := arg 0 (by omega)
    rw [if_pos rfl] at e
    exact ⟨t, ht, e⟩
  · obtain ⟨t, ht, e, _⟩ := arg 1 (by omega)
    rw [if_neg (by decide)] at e
    exact ⟨t, ht, e⟩
theorem cg_tup_lt {nc nl : Nat} {st : Nat → Nat} {sg pr a0 a1 ar : Nat → Int32} (hw : cd_wf nc nl st sg pr a0 a1 ar) {j x y : Nat} {two : Bool} (hj : j < st nc) (hx : x < 2) (hy : y < 2) :
    cg_tup a0 a1 two j x y < cg_at pr ar (st nc) two (pr j).toNatClampNeg := by
  obtain ⟨_, _, _, _, har, hop, h0, h1, h2⟩ := cg_lit hw hj
  unfold cg_at cg_tup
  rw [if_pos hop, har]
  unfold cg_sz
  by_cases t : two = true
  · rw [if_pos t, if_pos t]
    have c : ck_ar (a0 j) (a1 j) = 0 ∨ ck_ar (a0 j) (a1 j) = 1 ∨ ck_ar (a0 j) (a1 j) = 2 := by omega
    rcases c with c | c | c
    · rw [c, if_pos rfl]; decide
    · rw [c, if_neg (by decide), if_pos rfl]
      have := cg_vl_lt (h0 (by omega)) hx hy
      omega
    · rw [c, if_neg (by decide), if_neg (by decide)]
      have := cg_vl_lt (h0 (by omega)) hx hy
      have := cg_vl_lt (h1 (by omega)) hx hy
      omega
  · rw [if_neg t, if_neg t, Nat.one_pow]
    omega
theorem cg_gl_lt {nc nl : Nat} {st : Nat → Nat} {sg pr a0 a1 ar : Nat → Int32} (hw : cd_wf nc nl st sg pr a0 a1 ar) {j x y : Nat} {two : Bool} (hj : j < st nc) (hx : x < 2) (hy : y < 2) :
    cg_gl sg pr a0 a1 ar (st nc) two j x y < 2 * cg_base pr ar (st nc) two 4 := by
  obtain ⟨hs, _, hp, _⟩ := cg_lit hw hj
  have h1 := cg_tup_lt (two := two) hw hj hx hy
  have h2 := cg_base_lt (pr := pr) (ar := ar) (M := st nc) (two := two) hp
  unfold cg_gl
  omega
/-- the constants that count -/
def cg_U (o0 o1 : Bool) (x : Nat) : Prop := (x = 0 ∧ (o0 = true ∨ o1 = false)) ∨ (x = 1 ∧ o1 = true)
theorem cg_U_lt {o0 o1 : Bool} {x : Nat} (h : cg_U o0 o1 x) : x < 2 := by
  rcases h with h | h <;> omega
theorem cg_U_one {o0 o1 : Bool} {x x' : Nat} (h : cg_U o0 o1 x) (h' : cg_U o0 o1 x') (ht : ¬ (o0 && o1) = true) : x = x' := by
  cases o0 <;> cases o1 <;> simp [cg_U] at h h' ht <;> omega
theorem cg_U_vl {nc nl : Nat} {st : Nat → Nat} {sg pr a0 a1 ar : Nat → Int32} (hw : cd_wf nc nl st sg pr a0 a1 ar) {j x y : Nat} (hj : j < st nc) {t : Int32} (ht : ∃ n, n < 4 ∧ t = nI n) (hj2 : a0 j = t ∨ a1 j = t)
    (hx : cg_U (cg_oc a0 a1 0 (st nc)) (cg_oc a0 a1 1 (st nc)) x) (hy : cg_U (cg_oc a0 a1 0 (st nc)) (cg_oc a0 a1 1 (st nc)) y) :
    cg_U (cg_oc a0 a1 0 (st nc)) (cg_oc a0 a1 1 (st nc)) (cg_vl t x y) := by
  obtain ⟨n, hn, e⟩ := ht
  unfold cg_vl
  by_cases e2 : t = 2
  · rw [if_pos e2]; exact hx
  · rw [if_neg e2]
    by_cases e3 : t = 3
    · rw [if_pos e3]; exact hy
    · rw [if_neg e3, e, nI_clamp (by omega)]
      have h2 : ¬ n = 2 := fun z => e2 (by rw [e, z]; rfl)
      have h3 : ¬ n = 3 := fun z => e3 (by rw [e, z]; rfl)
      have : n = 0 ∨ n = 1 := by omega
      rcases this with z | z
      · subst z
        exact Or.inl ⟨rfl, Or.inl ((cg_oc_iff _).mpr ⟨j, hj, by rw [← nI_0, ← e]; exact hj2⟩)⟩
      · subst z
        exact Or.inr ⟨rfl, (cg_oc_iff _).mpr ⟨j, hj, by rw [show (1 : Int32) = nI 1 from rfl, ← e]; exact hj2⟩⟩
theorem cg_vl_gv {V0 V1 : Nat → Nat} {c : Nat} {t : Int32} {n : Nat} (hn : n < 4) (e : t = nI n) : cg_vl t (V0 c) (V1 c) = ck_gv V0 V1 c n := by
  unfold cg_vl ck_gv
  by_cases h2 : n = 2
  · rw [if_pos (by rw [e, h2]; rfl), if_pos h2]
  · rw [if_neg (fun z => h2 (by rw [e, show (2 : Int32) = nI 2 from rfl, nI_eq (by omega) (by omega)] at z; exact z)), if_neg h2]
    by_cases h3 : n = 3
    · rw [if_pos (by rw [e, h3]; rfl), if_pos h3]
    · rw [if_neg (fun z => h3 (by rw [e, show (3 : Int32) = nI 3 from rfl, nI_eq (by omega) (by omega)] at z; exact z)), if_neg h3, e]
      exact nI_clamp (by omega)
/-- complementary ground literals are a ground connection -/
theorem cg_conn {nc nl : Nat} {st : Nat → Nat} {sg pr a0 a1 ar : Nat → Int32} (hw : cd_wf nc nl st sg pr a0 a1 ar) {V0 V1 : Nat → Nat} {c1 l1 c2 l2 : Nat} (h1 : l1 < st nc) (h2 : l2 < st nc)
    (ux1 : cg_U (cg_oc a0 a1 0 (st nc)) (cg_oc a0 a1 1 (st nc)) (V0 c1)) (uy1 : cg_U (cg_oc a0 a1 0 (st nc)) (cg_oc a0 a1 1 (st nc)) (V1 c1))
    (ux2 : cg_U (cg_oc a0 a1 0 (st nc)) (cg_oc a0 a1 1 (st nc)) (V0 c2)) (uy2 : cg_U (cg_oc a0 a1 0 (st nc)) (cg_oc a0 a1 1 (st nc)) (V1 c2))
    (e : cg_gl sg pr a0 a1 ar (st nc) (cg_oc a0 a1 0 (st nc) && cg_oc a0 a1 1 (st nc)) l1 (V0 c1) (V1 c1) = cq_neg (cg_gl sg pr a0 a1 ar (st nc) (cg_oc a0 a1 0 (st nc) && cg_oc a0 a1 1 (st nc)) l2 (V0 c2) (V1 c2))) :
    ck_gc (cd_mk (st nc) sg) (cd_mk (st nc) pr) (cd_mk (st nc) a0) (cd_mk (st nc) a1) V0 V1 c1 l1 c2 l2 := by
  have M0 : ∀ l, l < st nc → ∀ p, ck_ag (cd_mk (st nc) a0) (cd_mk (st nc) a1) l p = ck_ag a0 a1 l p := by
    intro l hl p
    unfold ck_ag
    rw [cd_mk_lt hl, cd_mk_lt hl]
  unfold ck_gc
  rw [cd_mk_lt h1, cd_mk_lt h1, cd_mk_lt h1, cd_mk_lt h1, cd_mk_lt h2, cd_mk_lt h2]
  obtain ⟨s1, es1, p1, ep1, ar1, op1, f01, f11, le1⟩ := cg_lit hw h1
  obtain ⟨s2, es2, p2, ep2, ar2, op2, f02, f12, le2⟩ := cg_lit hw h2
  generalize hT : (cg_oc a0 a1 0 (st nc) && cg_oc a0 a1 1 (st nc)) = two at e
  have t1 := cg_tup_lt (two := two) hw h1 (cg_U_lt ux1) (cg_U_lt uy1)
  have t2 := cg_tup_lt (two := two) hw h2 (cg_U_lt ux2) (cg_U_lt uy2)
  have d := cq_neg_div (cg_gl sg pr a0 a1 ar (st nc) two l2 (V0 c2) (V1 c2))
  have m := cq_neg_mod (cg_gl sg pr a0 a1 ar (st nc) two l2 (V0 c2) (V1 c2))
  rw [← e] at d m
  unfold cg_gl at d m
  have ed : cg_base pr ar (st nc) two (pr l1).toNatClampNeg + cg_tup a0 a1 two l1 (V0 c1) (V1 c1) = cg_base pr ar (st nc) two (pr l2).toNatClampNeg + cg_tup a0 a1 two l2 (V0 c2) (V1 c2) := by omega
  have em : (sg l1).toNatClampNeg = 1 - (sg l2).toNatClampNeg := by omega
  have ep : (pr l1).toNatClampNeg = (pr l2).toNatClampNeg := by
    apply Classical.byContradiction
    intro hne
    by_cases hlt : (pr l1).toNatClampNeg < (pr l2).toNatClampNeg
    · have := cg_base_lt (pr := pr) (ar := ar) (M := st nc) (two := two) hlt
      omega
    · have := cg_base_lt (pr := pr) (ar := ar) (M := st nc) (two := two) (p := (pr l2).toNatClampNeg) (q := (pr l1).toNatClampNeg) (by omega)
      omega
  have eT : cg_tup a0 a1 two l1 (V0 c1) (V1 c1) = cg_tup a0 a1 two l2 (V0 c2) (V1 c2) := by
    rw [ep] at ed
    omega
  have eA : ck_ar (a0 l2) (a1 l2) = ck_ar (a0 l1) (a1 l1) := by rw [← ar1, ← ar2, ep]
  refine ⟨fun z => ?_, by rw [ep1, ep2, ep], fun pos hpos => ?_⟩
  · rw [z] at em
    omega
  · rw [M0 l1 h1, M0 l2 h2]
    obtain ⟨n1, hn1, e1, g1⟩ := (cd_arg hw (Nat.lt_of_lt_of_le h1 hw.2.2.2.2.1)).2 pos hpos
    obtain ⟨n2, hn2, e2, g2⟩ := (cd_arg hw (Nat.lt_of_lt_of_le h2 hw.2.2.2.2.1)).2 pos (by rw [eA]; exact hpos)
    rw [g1, g2]
    refine ⟨hn1, hn2, ?_⟩
    rw [← cg_vl_gv hn1 e1, ← cg_vl_gv hn2 e2]
    have w1 : cg_U (cg_oc a0 a1 0 (st nc)) (cg_oc a0 a1 1 (st nc)) (cg_vl (if pos = 0 then a0 l1 else a1 l1) (V0 c1) (V1 c1)) :=
      cg_U_vl hw h1 ⟨n1, hn1, e1⟩ (by by_cases z : pos = 0 <;> simp [z]) ux1 uy1
    have w2 : cg_U (cg_oc a0 a1 0 (st nc)) (cg_oc a0 a1 1 (st nc)) (cg_vl (if pos = 0 then a0 l2 else a1 l2) (V0 c2) (V1 c2)) :=
      cg_U_vl hw h2 ⟨n2, hn2, e2⟩ (by by_cases z : pos = 0 <;> simp [z]) ux2 uy2
    by_cases ht : two = true
    · unfold cg_tup at eT
      rw [if_pos ht, if_pos ht, eA] at eT
      have c : ck_ar (a0 l1) (a1 l1) = 1 ∨ ck_ar (a0 l1) (a1 l1) = 2 := by omega
      rcases c with c | c
      · rw [c, if_neg (by decide), if_pos rfl, if_neg (by decide), if_pos rfl] at eT
        have : pos = 0 := by omega
        rw [if_pos this, if_pos this]
        exact eT
      · rw [c, if_neg (by decide), if_neg (by decide), if_neg (by decide), if_neg (by decide)] at eT
        have b1 := cg_vl_lt (f01 (by omega)) (cg_U_lt ux1) (cg_U_lt uy1)
        have b2 := cg_vl_lt (f11 (by omega)) (cg_U_lt ux1) (cg_U_lt uy1)
        have b3 := cg_vl_lt (f02 (by omega)) (cg_U_lt ux2) (cg_U_lt uy2)
        have b4 := cg_vl_lt (f12 (by omega)) (cg_U_lt ux2) (cg_U_lt uy2)
        by_cases z : pos = 0
        · rw [if_pos z, if_pos z]
          omega
        · rw [if_neg z, if_neg z]
          omega
    · exact cg_U_one w1 w2 (by rw [hT]; exact ht)
end
section
theorem yu_arN {nc nl : Nat} {st : Nat → Nat} {sg pr a0 a1 ar : Nat → Int32} (hw : cd_wf nc nl st sg pr a0 a1 ar) {p : Nat} (hop : cg_op pr p (st nc) = true) (hp : p < 4) :
    (ar p).toNatClampNeg ≤ 2 ∧ ar p = nI (ar p).toNatClampNeg := by
  obtain ⟨l, hl, el⟩ := (cg_op_iff _).mp hop
  have hl2 : l < nl := Nat.lt_of_lt_of_le hl hw.2.2.2.2.1
  obtain ⟨q, hq, eq, ea⟩ := (hw.2.2.2.2.2.2.1 l hl2).2.1
  have a2 := (cd_arg hw hl2).1
  rw [eq, nI_eq (by omega) (by omega)] at el
  subst el
  rw [ea, nI_clamp (by omega)]
  exact ⟨a2, rfl⟩
theorem cg_at_4 {nc nl : Nat} {st : Nat → Nat} {sg pr a0 a1 ar : Nat → Int32} (hw : cd_wf nc nl st sg pr a0 a1 ar) {two : Bool} {p : Nat} (hp : p < 4) : cg_at pr ar (st nc) two p ≤ 4 := by
  unfold cg_at
  by_cases o : cg_op pr p (st nc) = true
  · rw [if_pos o]
    have h2 := (yu_arN hw o hp).1
    generalize (ar p).toNatClampNeg = a at h2 ⊢
    unfold cg_sz
    have c : a = 0 ∨ a = 1 ∨ a = 2 := by omega
    cases two <;> rcases c with c | c | c <;> subst c <;> decide
  · rw [if_neg o]
    omega
end
section
/-! counting the ground atoms, both sides -/
def cg_cb (o0 o1 : Bool) : Nat := (if o0 = true then 1 else 0) + (if o1 = true then 2 else 0)
def cg_con (o0 o1 : Bool) : Nat := if cg_cb o0 o1 = 0 then 1 else cg_cb o0 o1
theorem cg_or1 : ∀ o0 o1 : Bool, nI (cg_cb o0 o1) ||| 1 = nI (cg_cb true o1) := by decide
theorem cg_or2 : ∀ o0 o1 : Bool, nI (cg_cb o0 o1) ||| 2 = nI (cg_cb o0 true) := by decide
theorem cg_con_or (o0 o1 : Bool) : cg_con o0 o1 = 1 ∨ cg_con o0 o1 = 2 ∨ cg_con o0 o1 = 3 := by
  cases o0 <;> cases o1 <;> decide
theorem cg_con_3 (o0 o1 : Bool) : cg_con o0 o1 = 3 ↔ (o0 && o1) = true := by
  cases o0 <;> cases o1 <;> decide
section
variable {f_litCount f_clauseCount f_stepCount f_bufferSealed f_lastCheckStep f_keptCount f_proofKept f_openCount f_universeSize f_neededInstances f_givenLiterals : Int32} {a_litSign a_litPred a_litArg0 a_litArg1 a_clauseStart a_predArity a_stepKind a_stepA a_stepB a_binding a_keptKind a_keptA a_keptB a_keptInstance a_openCopy a_openLit a_parentCopy a_parentLit a_pathLength a_atomBase a_instanceLits a_instanceHolds a_literalHolds a_restInstances a_pathLiterals : Nat → Int32}
theorem xu_39 {post : Int32 → Prop} {J : Int32 → Int32 → Prop} {o0 o1 : Bool} {j : Nat} (hj : j < 16)
    (h : J (nI (cg_cb o0 (o1 || decide (a_litArg0 j = 1 ∨ a_litArg1 j = 1)))) (nI (j + 1))) : wX_universe_39 post J (nI (cg_cb o0 o1)) (nI j) f_litCount f_clauseCount f_stepCount f_bufferSealed f_lastCheckStep f_keptCount f_proofKept f_openCount f_universeSize f_neededInstances f_givenLiterals a_litSign a_litPred a_litArg0 a_litArg1 a_clauseStart a_predArity a_stepKind a_stepA a_stepB a_binding a_keptKind a_keptA a_keptB a_keptInstance a_openCopy a_openLit a_parentCopy a_parentLit a_pathLength a_atomBase a_instanceLits a_instanceHolds a_literalHolds a_restInstances a_pathLiterals := by
  have hin : vp_in (nI j) 16 := vp_in_nI hj (by decide)
  refine ⟨hin, ?_⟩
  rw [nI_clamp (show j < 2 ^ 31 by omega)]
  refine br_c (fun e => nm_r (cg_or2 o0 o1) (nm_r (nI_1 j) ?_)) (fun e => ⟨hin, br_c (fun e2 => nm_r (cg_or2 o0 o1) (nm_r (nI_1 j) ?_)) (fun e2 => nm_r (nI_1 j) ?_)⟩)
  · rw [decide_eq_true (Or.inl e), Bool.or_true] at h
    exact h
  · rw [decide_eq_true (Or.inr e2), Bool.or_true] at h
    exact h
  · rw [decide_eq_false (fun z => z.elim e e2), Bool.or_false] at h
    exact h
theorem xu_univ {post : Int32 → Prop} {nc nl : Nat} {st : Nat → Nat} {sg pr ar : Nat → Int32} (hw : cd_wf nc nl st sg pr a_litArg0 a_litArg1 ar) (hcs : ∀ c, c ≤ nc → a_clauseStart c = nI (st c))
    (h : post (nI (cg_con (cg_oc a_litArg0 a_litArg1 0 (st nc)) (cg_oc a_litArg0 a_litArg1 1 (st nc))))) : wpX_universe post (f_litCount, nI nc, f_stepCount, f_bufferSealed, f_lastCheckStep, f_keptCount, f_proofKept, f_openCount, f_universeSize, f_neededInstances, f_givenLiterals, a_litSign, a_litPred, a_litArg0, a_litArg1, a_clauseStart, a_predArity, a_stepKind, a_stepA, a_stepB, a_binding, a_keptKind, a_keptA, a_keptB, a_keptInstance, a_openCopy, a_openLit, a_parentCopy, a_parentLit, a_pathLength, a_atomBase, a_instanceLits, a_instanceHolds, a_literalHolds, a_restInstances, a_pathLiterals) := by
  have hnc := hw.1
  have hM := hw.2.2.2.2.1
  have hnl := hw.2.1
  have key : ∀ d j : Nat, j + d = st nc → wX_universe_4 post f_litCount (nI nc) f_stepCount f_bufferSealed f_lastCheckStep f_keptCount f_proofKept f_openCount f_universeSize f_neededInstances f_givenLiterals a_litSign a_litPred a_litArg0 a_litArg1 a_clauseStart a_predArity a_stepKind a_stepA a_stepB a_binding a_keptKind a_keptA a_keptB a_keptInstance a_openCopy a_openLit a_parentCopy a_parentLit a_pathLength a_atomBase a_instanceLits a_instanceHolds a_literalHolds a_restInstances a_pathLiterals (d + 1) (nI (cg_cb (cg_oc a_litArg0 a_litArg1 0 j) (cg_oc a_litArg0 a_litArg1 1 j))) (nI j) := by
    intro d
    induction d with
    | zero =>
      intro j hj
      refine ⟨vp_in_nI (by omega) (by decide), ?_⟩
      rw [nI_clamp (show nc < 2 ^ 31 by omega), hcs nc (Nat.le_refl _)]
      refine br_t (nI_le (by omega) (by omega)) ?_
      have ej : j = st nc := by omega
      rw [ej]
      unfold cg_con at h
      generalize cg_oc a_litArg0 a_litArg1 0 (st nc) = o0 at h ⊢
      generalize cg_oc a_litArg0 a_litArg1 1 (st nc) = o1 at h ⊢
      cases o0 <;> cases o1
      · exact br_t rfl h
      · exact br_f (by decide) h
      · exact br_f (by decide) h
      · exact br_f (by decide) h
    | succ d ih =>
      intro j hj
      have hin : vp_in (nI j) 16 := vp_in_nI (by omega) (by decide)
      refine ⟨vp_in_nI (by omega) (by decide), ?_⟩
      rw [nI_clamp (show nc < 2 ^ 31 by omega), hcs nc (Nat.le_refl _)]
      refine br_f (nI_ge (show j < st nc by omega) (by omega)) ⟨hin, ?_⟩
      rw [nI_clamp (show j < 2 ^ 31 by omega)]
      have ih2 := ih (j + 1) (by omega)
      rw [cg_oc, cg_oc] at ih2
      refine br_c (fun e => nm_r (cg_or1 _ _) ?_) (fun e => ⟨hin, br_c (fun e2 => nm_r (cg_or1 _ _) ?_) (fun e2 => ?_)⟩)
      · rw [decide_eq_true (Or.inl e), Bool.or_true] at ih2
        exact xu_39 (by omega) ih2
      · rw [decide_eq_true (Or.inr e2), Bool.or_true] at ih2
        exact xu_39 (by omega) ih2
      · rw [decide_eq_false (fun z : a_litArg0 j = 0 ∨ a_litArg1 j = 0 => z.elim e e2), Bool.or_false] at ih2
        exact xu_39 (by omega) ih2
  exact ⟨_, key (st nc) 0 (by omega)⟩
theorem xu_size {post : Int32 → Prop} {o0 o1 : Bool} (h : post (nI (cg_sz (o0 && o1)))) : wpX_sizeOf post (f_litCount, f_clauseCount, f_stepCount, f_bufferSealed, f_lastCheckStep, f_keptCount, f_proofKept, f_openCount, f_universeSize, f_neededInstances, f_givenLiterals, a_litSign, a_litPred, a_litArg0, a_litArg1, a_clauseStart, a_predArity, a_stepKind, a_stepA, a_stepB, a_binding, a_keptKind, a_keptA, a_keptB, a_keptInstance, a_openCopy, a_openLit, a_parentCopy, a_parentLit, a_pathLength, a_atomBase, a_instanceLits, a_instanceHolds, a_literalHolds, a_restInstances, a_pathLiterals) (nI (cg_con o0 o1)) := by
  cases o0 <;> cases o1
  · exact br_f (by decide) h
  · exact br_f (by decide) h
  · exact br_f (by decide) h
  · exact br_t rfl h
theorem xu_atoms {post : Int32 → Prop} {nc nl : Nat} {st : Nat → Nat} {sg a0 a1 : Nat → Int32} (hw : cd_wf nc nl st sg a_litPred a0 a1 a_predArity) (hcs : ∀ c, c ≤ nc → a_clauseStart c = nI (st c)) {p : Nat} (hp : p < 4) {two : Bool}
    (h : post (nI (cg_at a_litPred a_predArity (st nc) two p))) : wpX_atomsOf post (f_litCount, nI nc, f_stepCount, f_bufferSealed, f_lastCheckStep, f_keptCount, f_proofKept, f_openCount, f_universeSize, f_neededInstances, f_givenLiterals, a_litSign, a_litPred, a_litArg0, a_litArg1, a_clauseStart, a_predArity, a_stepKind, a_stepA, a_stepB, a_binding, a_keptKind, a_keptA, a_keptB, a_keptInstance, a_openCopy, a_openLit, a_parentCopy, a_parentLit, a_pathLength, a_atomBase, a_instanceLits, a_instanceHolds, a_literalHolds, a_restInstances, a_pathLiterals) (nI p) (nI (cg_sz two)) := by
  have hnc := hw.1
  have hM := hw.2.2.2.2.1
  have hnl := hw.2.1
  have inc : vp_in (nI nc) 9 := vp_in_nI (by omega) (by decide)
  have inp : vp_in (nI p) 4 := vp_in_nI hp (by decide)
  have clp : (nI p).toNatClampNeg = p := nI_clamp (by omega)
  -- the product
  have prod : cg_op a_litPred p (st nc) = true → ∃ n58 : Nat, wX_atomsOf_58 post (nI p) (nI (cg_sz two)) f_litCount (nI nc) f_stepCount f_bufferSealed f_lastCheckStep f_keptCount f_proofKept f_openCount f_universeSize f_neededInstances f_givenLiterals a_litSign a_litPred a_litArg0 a_litArg1 a_clauseStart a_predArity a_stepKind a_stepA a_stepB a_binding a_keptKind a_keptA a_keptB a_keptInstance a_openCopy a_openLit a_parentCopy a_parentLit a_pathLength a_atomBase a_instanceLits a_instanceHolds a_literalHolds a_restInstances a_pathLiterals n58 1 0 := by
    intro hop
    unfold cg_at at h
    rw [if_pos hop] at h
    obtain ⟨l, hl, el⟩ := (cg_op_iff _).mp hop
    obtain ⟨_, _, _, _, har, _, _, _, ha2⟩ := cg_lit hw hl
    have clr : (a_litPred l).toNatClampNeg = p := by rw [el]; exact clp
    rw [clr] at har
    obtain ⟨q, hq, eq, ea⟩ := (hw.2.2.2.2.2.2.1 l (by omega)).2.1
    have eqp : q = p := by
      rw [eq, nI_eq (by omega) (by omega)] at el
      exact el
    subst eqp
    generalize ck_ar (a0 l) (a1 l) = a at har ha2 ea
    rw [har] at h
    have step : ∀ d i : Nat, i + d = a → wX_atomsOf_58 post (nI q) (nI (cg_sz two)) f_litCount (nI nc) f_stepCount f_bufferSealed f_lastCheckStep f_keptCount f_proofKept f_openCount f_universeSize f_neededInstances f_givenLiterals a_litSign a_litPred a_litArg0 a_litArg1 a_clauseStart a_predArity a_stepKind a_stepA a_stepB a_binding a_keptKind a_keptA a_keptB a_keptInstance a_openCopy a_openLit a_parentCopy a_parentLit a_pathLength a_atomBase a_instanceLits a_instanceHolds a_literalHolds a_restInstances a_pathLiterals (d + 1) (nI (cg_sz two ^ i)) (nI i) := by
      intro d
      induction d with
      | zero =>
        intro i hi
        refine ⟨inp, ?_⟩
        rw [clp, ea]
        have ei : i = a := by omega
        rw [ei]
        exact br_t (nI_le (Nat.le_refl a) (by omega)) h
      | succ d ih =>
        intro i hi
        refine ⟨inp, ?_⟩
        rw [clp, ea]
        refine br_f (nI_ge (by omega) (by omega)) (nm_r (pk_mul _ _) (nm_r (nI_1 i) ?_))
        rw [← Nat.pow_succ]
        exact ih (i + 1) (by omega)
    exact ⟨_, step a 0 (by omega)⟩
  have key : ∀ d j : Nat, j + d = st nc → wX_atomsOf_5 post (nI p) (nI (cg_sz two)) f_litCount (nI nc) f_stepCount f_bufferSealed f_lastCheckStep f_keptCount f_proofKept f_openCount f_universeSize f_neededInstances f_givenLiterals a_litSign a_litPred a_litArg0 a_litArg1 a_clauseStart a_predArity a_stepKind a_stepA a_stepB a_binding a_keptKind a_keptA a_keptB a_keptInstance a_openCopy a_openLit a_parentCopy a_parentLit a_pathLength a_atomBase a_instanceLits a_instanceHolds a_literalHolds a_restInstances a_pathLiterals (d + 1) (if cg_op a_litPred p j = true then 1 else 0) (nI j) := by
    intro d
    induction d with
    | zero =>
      intro j hj
      refine ⟨inc, ?_⟩
      rw [nI_clamp (show nc < 2 ^ 31 by omega), hcs nc (Nat.le_refl _)]
      refine br_t (nI_le (by omega) (by omega)) ?_
      have ej : j = st nc := by omega
      rw [ej]
      by_cases o : cg_op a_litPred p (st nc) = true
      · rw [if_pos o]
        exact br_f (by decide) (prod o)
      · rw [if_neg o]
        unfold cg_at at h
        rw [if_neg o] at h
        exact br_t rfl h
    | succ d ih =>
      intro j hj
      have ih2 := ih (j + 1) (by omega)
      rw [cg_op] at ih2
      refine ⟨inc, ?_⟩
      rw [nI_clamp (show nc < 2 ^ 31 by omega), hcs nc (Nat.le_refl _)]
      refine br_f (nI_ge (show j < st nc by omega) (by omega)) ?_
      by_cases o : cg_op a_litPred p j = true
      · rw [if_pos o]
        rw [o, Bool.true_or, if_pos rfl] at ih2
        exact br_f (by decide) (nm_r (nI_1 j) ih2)
      · rw [if_neg o]
        have o' : cg_op a_litPred p j = false := by
          cases z : cg_op a_litPred p j
          · rfl
          · exact absurd z o
        rw [o', Bool.false_or] at ih2
        refine br_t rfl ⟨vp_in_nI (by omega) (by decide), ?_⟩
        rw [nI_clamp (show j < 2 ^ 31 by omega)]
        refine br_c (fun e => nm_r (nI_1 j) ?_) (fun e => nm_r (nI_1 j) ?_)
        · rw [decide_eq_true e, if_pos rfl] at ih2
          exact ih2
        · rw [decide_eq_false e, if_neg (by decide)] at ih2
          exact ih2
  exact ⟨_, key (st nc) 0 (by omega)⟩
theorem xu_count {post : Int32 → Prop} {nc nl : Nat} {st : Nat → Nat} {sg : Nat → Int32} (hw : cd_wf nc nl st sg a_litPred a_litArg0 a_litArg1 a_predArity) (hcs : ∀ c, c ≤ nc → a_clauseStart c = nI (st c))
    (h : post (nI (cg_base a_litPred a_predArity (st nc) (cg_oc a_litArg0 a_litArg1 0 (st nc) && cg_oc a_litArg0 a_litArg1 1 (st nc)) 4))) : wpX_getGroundAtoms post (f_litCount, nI nc, f_stepCount, f_bufferSealed, f_lastCheckStep, f_keptCount, f_proofKept, f_openCount, f_universeSize, f_neededInstances, f_givenLiterals, a_litSign, a_litPred, a_litArg0, a_litArg1, a_clauseStart, a_predArity, a_stepKind, a_stepA, a_stepB, a_binding, a_keptKind, a_keptA, a_keptB, a_keptInstance, a_openCopy, a_openLit, a_parentCopy, a_parentLit, a_pathLength, a_atomBase, a_instanceLits, a_instanceHolds, a_literalHolds, a_restInstances, a_pathLiterals) := by
  refine xu_univ hw hcs (xu_size ?_)
  generalize (cg_oc a_litArg0 a_litArg1 0 (st nc) && cg_oc a_litArg0 a_litArg1 1 (st nc)) = two at h ⊢
  have key : ∀ d p : Nat, p + d = 4 → wX_getGroundAtoms_16 post (nI (cg_sz two)) f_litCount (nI nc) f_stepCount f_bufferSealed f_lastCheckStep f_keptCount f_proofKept f_openCount f_universeSize f_neededInstances f_givenLiterals a_litSign a_litPred a_litArg0 a_litArg1 a_clauseStart a_predArity a_stepKind a_stepA a_stepB a_binding a_keptKind a_keptA a_keptB a_keptInstance a_openCopy a_openLit a_parentCopy a_parentLit a_pathLength a_atomBase a_instanceLits a_instanceHolds a_literalHolds a_restInstances a_pathLiterals (d + 1) (nI (cg_base a_litPred a_predArity (st nc) two p)) (nI p) := by
    intro d
    induction d with
    | zero =>
      intro p hp
      have : p = 4 := by omega
      rw [this]
      exact br_t (nI_le (a := 4) (b := 4) (Nat.le_refl _) (by decide)) h
    | succ d ih =>
      intro p hp
      refine br_f (nI_ge (b := 4) (by omega) (by decide)) ?_
      refine xu_atoms hw hcs (by omega) ?_
      exact nm_r (nI_add _ _) (nm_r (nI_1 p) (ih (p + 1) (by omega)))
  exact ⟨_, key 4 0 (by omega)⟩
end
theorem cg_base_16 {nc nl : Nat} {st : Nat → Nat} {sg pr a0 a1 ar : Nat → Int32} (hw : cd_wf nc nl st sg pr a0 a1 ar) {two : Bool} : cg_base pr ar (st nc) two 4 < 2 ^ 31 := by
  have h0 := cg_at_4 (two := two) hw (show 0 < 4 by omega)
  have h1 := cg_at_4 (two := two) hw (show 1 < 4 by omega)
  have h2 := cg_at_4 (two := two) hw (show 2 < 4 by omega)
  have h3 := cg_at_4 (two := two) hw (show 3 < 4 by omega)
  show 0 + cg_at pr ar (st nc) two 0 + cg_at pr ar (st nc) two 1 + cg_at pr ar (st nc) two 2 + cg_at pr ar (st nc) two 3 < 2 ^ 31
  omega
end
section
/-! X's table of ground clauses -/
def cg_L (sg pr a0 a1 ar : Nat → Int32) (M j x y : Nat) : Nat := cg_gl sg pr a0 a1 ar M (cg_oc a0 a1 0 M && cg_oc a0 a1 1 M) j x y
def cg_HX (nc : Nat) (st : Nat → Nat) (sg pr a0 a1 ar : Nat → Int32) (q m : Nat) : Prop := ∃ j, st (q / 4) ≤ j ∧ j < st (q / 4 + 1) ∧ m = cg_L sg pr a0 a1 ar (st nc) j (q / 2 % 2) (q % 2)
def cg_UU (a0 a1 : Nat → Int32) (M x : Nat) : Prop := cg_U (cg_oc a0 a1 0 M) (cg_oc a0 a1 1 M) x
def cg_RX (nc : Nat) (st : Nat → Nat) (a0 a1 : Nat → Int32) (q : Nat) : Prop := q < 4 * nc ∧ cg_UU a0 a1 (st nc) (q / 2 % 2) ∧ cg_UU a0 a1 (st nc) (q % 2)
def cg_tb (t : Nat) : Nat → Bool := fun a => t.testBit a
theorem xt_bit : ∀ a, a < 5 → ∀ t, t < 32 → bt (xt_in a 32) t = t.testBit a := by decide +kernel
theorem xs_lh {lh ph : Nat → Int32} (h : cr_fix lh ph) {m t : Nat} (hm : m < 10) (ht : t < 32) : bt (lh m) t = true ↔ cq_tr (cg_tb t) m := by
  obtain ⟨h1, h2⟩ := h.1 (m / 2) (by omega)
  unfold cq_tr cg_tb
  have hx := xt_bit (m / 2) (by omega) t ht
  by_cases e : m % 2 = 0
  · have em : 2 * (m / 2) = m := by omega
    rw [em] at h1
    rw [h1, hx, decide_eq_true e]
  · have em : 2 * (m / 2) + 1 = m := by omega
    rw [em] at h2
    rw [h2, b_xor, hx, b_m1 t ht, decide_eq_false e]
    cases t.testBit (m / 2) <;> simp
theorem xs_b1 : ∀ i, i < 32 → bt 1 i = decide (i = 0) := by decide +kernel
theorem xs_bit (R : Int32) {k : Nat} (hk : k < 32) : ((R >>> (nI k &&& 31)) &&& 1) = 0 ↔ bt R k = false := by
  constructor
  · intro h
    have h2 := congrArg (fun z => bt z 0) h
    try dsimp only at h2
    rw [b_and, b_sshr k hk R (by omega), if_pos (by omega), b_0, xs_b1 0 (by omega), Nat.add_zero] at h2
    simpa using h2
  · intro h
    apply b_ext
    intro i hi
    rw [b_and, xs_b1 i hi, b_0]
    by_cases e : i = 0
    · subst e
      rw [b_sshr k hk R (by omega), if_pos (by omega), Nat.add_zero, h]
      rfl
    · rw [decide_eq_false e, Bool.and_false]
theorem xs_one {k q : Nat} (hk : k < 32) (hq : q < 32) : bt ((1 : Int32) <<< (nI k &&& 31)) q = decide (q = k) := by
  rw [b_shl k hk 1 hq]
  by_cases h : k ≤ q
  · rw [decide_eq_true h, Bool.true_and, xs_b1 (q - k) (by omega)]
    by_cases e : q = k
    · rw [decide_eq_true e, decide_eq_true (by omega)]
    · rw [decide_eq_false e, decide_eq_false (by omega)]
  · rw [decide_eq_false h, Bool.false_and, decide_eq_false (by omega)]
theorem xs_del (R : Int32) {k q : Nat} (hk : k < 32) (hq : q < 32) : bt (R &&& (((1 : Int32) <<< (nI k &&& 31)) ^^^ (-1))) q = (bt R q && !decide (q = k)) := by
  rw [b_and, b_xor, xs_one hk hq, b_m1 q hq]
  cases decide (q = k) <;> rfl
def xs_R (R : Int32) (q : Nat) : Prop := q < 32 ∧ bt R q = true
def xs_G (G : Int32) (m : Nat) : Prop := m < 10 ∧ bt G m = true
theorem xs_R_del {R : Int32} {k : Nat} (hk : k < 32) (q : Nat) : xs_R (R &&& (((1 : Int32) <<< (nI k &&& 31)) ^^^ (-1))) q ↔ cq_del (xs_R R) k q := by
  unfold xs_R cq_del
  constructor
  · intro ⟨h1, h2⟩
    rw [xs_del R hk h1, Bool.and_eq_true] at h2
    refine ⟨⟨h1, h2.1⟩, fun e => ?_⟩
    rw [decide_eq_true e] at h2
    exact absurd h2.2 (by decide)
  · intro ⟨⟨h1, h2⟩, h3⟩
    refine ⟨h1, ?_⟩
    rw [xs_del R hk h1, h2, decide_eq_false h3]
    rfl
theorem xs_G_add {G : Int32} {k : Nat} (hk : k < 10) (m : Nat) : xs_G (G ||| ((1 : Int32) <<< (nI k &&& 31))) m ↔ cq_add (xs_G G) k m := by
  unfold xs_G cq_add
  constructor
  · intro ⟨h1, h2⟩
    rw [b_or, xs_one (by omega) (by omega), Bool.or_eq_true] at h2
    rcases h2 with h2 | h2
    · exact Or.inl ⟨h1, h2⟩
    · exact Or.inr (of_decide_eq_true h2)
  · intro h
    rcases h with ⟨h1, h2⟩ | h
    · refine ⟨h1, ?_⟩
      rw [b_or, h2]
      rfl
    · subst h
      refine ⟨hk, ?_⟩
      rw [b_or, xs_one (by omega) (by omega), decide_eq_true rfl, Bool.or_true]
theorem xs_G_0 (m : Nat) : ¬ xs_G 0 m := by
  intro h
  have := h.2
  rw [b_0] at this
  exact absurd this (by decide)
/-- a choice of truth values for five atoms is a number below 32 -/
theorem xs_f5 (f : Nat → Bool) : ∃ t, t < 32 ∧ ∀ a, a < 5 → t.testBit a = f a := by
  have all : ∀ b0 b1 b2 b3 b4 : Bool, ∃ t, t < 32 ∧ t.testBit 0 = b0 ∧ t.testBit 1 = b1 ∧ t.testBit 2 = b2 ∧ t.testBit 3 = b3 ∧ t.testBit 4 = b4 := by
    intro b0 b1 b2 b3 b4
    refine ⟨b0.toNat + 2 * b1.toNat + 4 * b2.toNat + 8 * b3.toNat + 16 * b4.toNat, ?_⟩
    revert b0 b1 b2 b3 b4
    decide
  obtain ⟨t, ht, h0, h1, h2, h3, h4⟩ := all (f 0) (f 1) (f 2) (f 3) (f 4)
  refine ⟨t, ht, fun a ha => ?_⟩
  have : a = 0 ∨ a = 1 ∨ a = 2 ∨ a = 3 ∨ a = 4 := by omega
  rcases this with e | e | e | e | e <;> subst e <;> assumption
theorem xs_tr {f : Nat → Bool} {t m : Nat} (h : ∀ a, a < 5 → t.testBit a = f a) (hm : m < 10) : cq_tr f m ↔ cq_tr (cg_tb t) m := by
  unfold cq_tr cg_tb
  rw [h (m / 2) (by omega)]
def xi_row (nc : Nat) (st : Nat → Nat) (sg pr a0 a1 ar il ih : Nat → Int32) (q : Nat) : Prop :=
  (∀ i, i < 3 → il (3 * q + i) = if st (q / 4) + i < st (q / 4 + 1) then nI (cg_L sg pr a0 a1 ar (st nc) (st (q / 4) + i) (q / 2 % 2) (q % 2)) else -1) ∧
  (∀ t, t < 32 → (bt (ih q) t = true ↔ ∃ m, cg_HX nc st sg pr a0 a1 ar q m ∧ cq_tr (cg_tb t) m))
def xi_tab (nc : Nat) (st : Nat → Nat) (sg pr a0 a1 ar il ih : Nat → Int32) : Prop := ∀ q, cg_RX nc st a0 a1 q → xi_row nc st sg pr a0 a1 ar il ih q
theorem cg_HX_lt {nc nl : Nat} {st : Nat → Nat} {sg pr a0 a1 ar : Nat → Int32} (hw : cd_wf nc nl st sg pr a0 a1 ar) (h5 : cg_base pr ar (st nc) (cg_oc a0 a1 0 (st nc) && cg_oc a0 a1 1 (st nc)) 4 ≤ 5)
    {q m : Nat} (hq : q < 4 * nc) (h : cg_HX nc st sg pr a0 a1 ar q m) : m < 10 := by
  obtain ⟨j, h1, h2, e⟩ := h
  have hst := cd_mono' hw (c := q / 4 + 1) (d := nc) (by omega) (Nat.le_refl _)
  have := cg_gl_lt (two := (cg_oc a0 a1 0 (st nc) && cg_oc a0 a1 1 (st nc))) (x := q / 2 % 2) (y := q % 2) hw (show j < st nc by omega) (by omega) (by omega)
  rw [e]
  unfold cg_L
  omega
section
variable {f_litCount f_clauseCount f_stepCount f_bufferSealed f_lastCheckStep f_keptCount f_proofKept f_openCount f_universeSize f_neededInstances f_givenLiterals : Int32} {a_litSign a_litPred a_litArg0 a_litArg1 a_clauseStart a_predArity a_stepKind a_stepA a_stepB a_binding a_keptKind a_keptA a_keptB a_keptInstance a_openCopy a_openLit a_parentCopy a_parentLit a_pathLength a_atomBase a_instanceLits a_instanceHolds a_literalHolds a_restInstances a_pathLiterals : Nat → Int32}
theorem xi_val {post : Int32 → Prop} {q n : Nat} {t : Int32} (hq : q < 32) (hn : n < 4) (e : t = nI n) (h : post (nI (cg_vl t (q / 2 % 2) (q % 2)))) : wpX_valueIn post (f_litCount, f_clauseCount, f_stepCount, f_bufferSealed, f_lastCheckStep, f_keptCount, f_proofKept, f_openCount, f_universeSize, f_neededInstances, f_givenLiterals, a_litSign, a_litPred, a_litArg0, a_litArg1, a_clauseStart, a_predArity, a_stepKind, a_stepA, a_stepB, a_binding, a_keptKind, a_keptA, a_keptB, a_keptInstance, a_openCopy, a_openLit, a_parentCopy, a_parentLit, a_pathLength, a_atomBase, a_instanceLits, a_instanceHolds, a_literalHolds, a_restInstances, a_pathLiterals) (nI q) t := by
  unfold cg_vl at h
  refine br_c (fun e2 => ?_) (fun e2 => br_c (fun e3 => ?_) (fun e3 => ?_))
  · rw [if_pos e2] at h
    rw [(xd_bits q hq).1]
    exact h
  · rw [if_neg e2, if_pos e3] at h
    rw [(xd_bits q hq).2]
    exact h
  · rw [if_neg e2, if_neg e3, e, nI_clamp (by omega)] at h
    rw [e]
    exact h
theorem xi_lit {post : Int32 → Prop} {nc nl : Nat} {st : Nat → Nat} (hw : cd_wf nc nl st a_litSign a_litPred a_litArg0 a_litArg1 a_predArity)
    (hab : ∀ p, p < 4 → a_atomBase p = nI (cg_base a_litPred a_predArity (st nc) (cg_oc a_litArg0 a_litArg1 0 (st nc) && cg_oc a_litArg0 a_litArg1 1 (st nc)) p))
    {j q : Nat} (hj : j < st nc) (hq : q < 32) (h : post (nI (cg_L a_litSign a_litPred a_litArg0 a_litArg1 a_predArity (st nc) j (q / 2 % 2) (q % 2)))) :
    wpX_groundLiteral post (f_litCount, f_clauseCount, f_stepCount, f_bufferSealed, f_lastCheckStep, f_keptCount, f_proofKept, f_openCount, nI (cg_sz (cg_oc a_litArg0 a_litArg1 0 (st nc) && cg_oc a_litArg0 a_litArg1 1 (st nc))), f_neededInstances, f_givenLiterals, a_litSign, a_litPred, a_litArg0, a_litArg1, a_clauseStart, a_predArity, a_stepKind, a_stepA, a_stepB, a_binding, a_keptKind, a_keptA, a_keptB, a_keptInstance, a_openCopy, a_openLit, a_parentCopy, a_parentLit, a_pathLength, a_atomBase, a_instanceLits, a_instanceHolds, a_literalHolds, a_restInstances, a_pathLiterals) (nI j) (nI q) := by
  have hM := hw.2.2.2.2.1
  have hnl := hw.2.1
  obtain ⟨s2, es, p4, ep, har, _, f0, f1, a2⟩ := cg_lit hw hj
  have hin : vp_in (nI j) 16 := vp_in_nI (by omega) (by decide)
  have clj : (nI j).toNatClampNeg = j := nI_clamp (by omega)
  unfold cg_L cg_gl at h
  generalize hT : (cg_oc a_litArg0 a_litArg1 0 (st nc) && cg_oc a_litArg0 a_litArg1 1 (st nc)) = two at h hab ⊢
  refine ⟨hin, ?_⟩
  rw [clj]
  generalize hP : (a_litPred j).toNatClampNeg = p at h p4 ep har
  refine nm_r ep ?_
  have inp : vp_in (nI p) 4 := vp_in_nI p4 (by decide)
  have clp : (nI p).toNatClampNeg = p := nI_clamp (by omega)
  have eA : a_predArity p = nI (ck_ar (a_litArg0 j) (a_litArg1 j)) := by
    obtain ⟨p', hp', ep', ea'⟩ := (hw.2.2.2.2.2.2.1 j (by omega)).2.1
    rw [ep, nI_eq (by omega) (by omega)] at ep'
    rw [ep']
    exact ea'
  have fin : ∀ tup : Nat, cg_tup a_litArg0 a_litArg1 two j (q / 2 % 2) (q % 2) = tup → wX_groundLiteral_61 post (nI j) (nI p) (nI tup) f_litCount f_clauseCount f_stepCount f_bufferSealed f_lastCheckStep f_keptCount f_proofKept f_openCount (nI (cg_sz two)) f_neededInstances f_givenLiterals a_litSign a_litPred a_litArg0 a_litArg1 a_clauseStart a_predArity a_stepKind a_stepA a_stepB a_binding a_keptKind a_keptA a_keptB a_keptInstance a_openCopy a_openLit a_parentCopy a_parentLit a_pathLength a_atomBase a_instanceLits a_instanceHolds a_literalHolds a_restInstances a_pathLiterals := by
    intro tup et
    refine ⟨inp, hin, ?_⟩
    rw [clj, clp, hab p p4, es, nI_add, show (2 : Int32) = nI 2 from rfl, pk_mul, nI_add]
    rw [et] at h
    exact h
  have arg0 : ∀ {P : Int32 → Prop}, P (a_litArg0 j) → wpX_argumentOf P (f_litCount, f_clauseCount, f_stepCount, f_bufferSealed, f_lastCheckStep, f_keptCount, f_proofKept, f_openCount, nI (cg_sz two), f_neededInstances, f_givenLiterals, a_litSign, a_litPred, a_litArg0, a_litArg1, a_clauseStart, a_predArity, a_stepKind, a_stepA, a_stepB, a_binding, a_keptKind, a_keptA, a_keptB, a_keptInstance, a_openCopy, a_openLit, a_parentCopy, a_parentLit, a_pathLength, a_atomBase, a_instanceLits, a_instanceHolds, a_literalHolds, a_restInstances, a_pathLiterals) (nI j) 0 := by
    intro P hP
    refine br_t rfl ⟨hin, ?_⟩
    rw [clj]
    exact hP
  have arg1 : ∀ {P : Int32 → Prop}, P (a_litArg1 j) → wpX_argumentOf P (f_litCount, f_clauseCount, f_stepCount, f_bufferSealed, f_lastCheckStep, f_keptCount, f_proofKept, f_openCount, nI (cg_sz two), f_neededInstances, f_givenLiterals, a_litSign, a_litPred, a_litArg0, a_litArg1, a_clauseStart, a_predArity, a_stepKind, a_stepA, a_stepB, a_binding, a_keptKind, a_keptA, a_keptB, a_keptInstance, a_openCopy, a_openLit, a_parentCopy, a_parentLit, a_pathLength, a_atomBase, a_instanceLits, a_instanceHolds, a_literalHolds, a_restInstances, a_pathLiterals) (nI j) 1 := by
    intro P hP
    refine br_f (by decide) ⟨hin, ?_⟩
    rw [clj]
    exact hP
  have dbl : ∀ a b : Nat, (2 * nI a) + nI b = nI (2 * a + b) := by
    intro a b
    rw [show (2 : Int32) = nI 2 from rfl, pk_mul, nI_add]
  have c : ck_ar (a_litArg0 j) (a_litArg1 j) = 0 ∨ ck_ar (a_litArg0 j) (a_litArg1 j) = 1 ∨ ck_ar (a_litArg0 j) (a_litArg1 j) = 2 := by omega
  unfold cg_tup at fin
  by_cases t : two = true
  · have e2 : nI (cg_sz two) = 2 := by unfold cg_sz; rw [if_pos t]; rfl
    rw [if_pos t] at fin
    rcases c with c | c | c
    · rw [c, if_pos rfl] at fin
      rw [c] at eA
      refine ⟨1, inp, ?_⟩
      rw [clp, eA]
      exact br_t (by decide) (fin 0 rfl)
    · rw [c, if_neg (by decide), if_pos rfl] at fin
      rw [c] at eA
      obtain ⟨n0, hn0, e0⟩ := f0 (by omega)
      refine ⟨2, inp, ?_⟩
      rw [clp, eA]
      refine br_f (by decide) (br_t e2 (arg0 (xi_val hq hn0 e0 (nm_r (dbl 0 _) (nm_r (nI_1 0) ⟨inp, ?_⟩)))))
      rw [clp, eA]
      refine br_t (by decide) (fin _ ?_)
      omega
    · rw [c, if_neg (by decide), if_neg (by decide)] at fin
      rw [c] at eA
      obtain ⟨n0, hn0, e0⟩ := f0 (by omega)
      obtain ⟨n1, hn1, e1⟩ := f1 (by omega)
      refine ⟨3, inp, ?_⟩
      rw [clp, eA]
      refine br_f (by decide) (br_t e2 (arg0 (xi_val hq hn0 e0 (nm_r (dbl 0 _) (nm_r (nI_1 0) ⟨inp, ?_⟩)))))
      rw [clp, eA]
      refine br_f (by decide) (br_t e2 (arg1 (xi_val hq hn1 e1 (nm_r (dbl _ _) (nm_r (nI_1 1) ⟨inp, ?_⟩)))))
      rw [clp, eA]
      refine br_t (by decide) (fin _ ?_)
      omega
  · have e1 : ¬ nI (cg_sz two) = 2 := by unfold cg_sz; rw [if_neg t]; decide
    rw [if_neg t] at fin
    refine ⟨1, inp, ?_⟩
    rw [clp, eA]
    exact br_c (fun _ => fin 0 rfl) (fun _ => br_f e1 (fin 0 rfl))
end
end
section
section
variable {f_litCount f_clauseCount f_stepCount f_bufferSealed f_lastCheckStep f_keptCount f_proofKept f_openCount f_universeSize f_neededInstances f_givenLiterals : Int32} {a_litSign a_litPred a_litArg0 a_litArg1 a_clauseStart a_predArity a_stepKind a_stepA a_stepB a_binding a_keptKind a_keptA a_keptB a_keptInstance a_openCopy a_openLit a_parentCopy a_parentLit a_pathLength a_atomBase a_instanceLits a_instanceHolds a_literalHolds a_restInstances a_pathLiterals : Nat → Int32}
/-- one ground clause -/
theorem xi_make {post : St1 → Prop} {nc nl : Nat} {st : Nat → Nat} (hw : cd_wf nc nl st a_litSign a_litPred a_litArg0 a_litArg1 a_predArity) (hcs : ∀ c, c ≤ nc → a_clauseStart c = nI (st c))
    (hfx : cr_fix a_literalHolds a_pathLength)
    (hab : ∀ p, p < 4 → a_atomBase p = nI (cg_base a_litPred a_predArity (st nc) (cg_oc a_litArg0 a_litArg1 0 (st nc) && cg_oc a_litArg0 a_litArg1 1 (st nc)) p))
    (h5 : cg_base a_litPred a_predArity (st nc) (cg_oc a_litArg0 a_litArg1 0 (st nc) && cg_oc a_litArg0 a_litArg1 1 (st nc)) 4 ≤ 5) {q : Nat} (hq : q < 4 * nc)
    (h : ∀ il ih : Nat → Int32, (∀ n, n < 3 * q → il n = a_instanceLits n) → (∀ n, n < q → ih n = a_instanceHolds n) → xi_row nc st a_litSign a_litPred a_litArg0 a_litArg1 a_predArity il ih q →
      post (nI nl, nI nc, f_stepCount, f_bufferSealed, f_lastCheckStep, f_keptCount, f_proofKept, f_openCount, nI (cg_sz (cg_oc a_litArg0 a_litArg1 0 (st nc) && cg_oc a_litArg0 a_litArg1 1 (st nc))), f_neededInstances, f_givenLiterals, a_litSign, a_litPred, a_litArg0, a_litArg1, a_clauseStart, a_predArity, a_stepKind, a_stepA, a_stepB, a_binding, a_keptKind, a_keptA, a_keptB, a_keptInstance, a_openCopy, a_openLit, a_parentCopy, a_parentLit, a_pathLength, a_atomBase, il, ih, a_literalHolds, a_restInstances, a_pathLiterals)) :
    wpX_makeInstance post (nI nl, nI nc, f_stepCount, f_bufferSealed, f_lastCheckStep, f_keptCount, f_proofKept, f_openCount, nI (cg_sz (cg_oc a_litArg0 a_litArg1 0 (st nc) && cg_oc a_litArg0 a_litArg1 1 (st nc))), f_neededInstances, f_givenLiterals, a_litSign, a_litPred, a_litArg0, a_litArg1, a_clauseStart, a_predArity, a_stepKind, a_stepA, a_stepB, a_binding, a_keptKind, a_keptA, a_keptB, a_keptInstance, a_openCopy, a_openLit, a_parentCopy, a_parentLit, a_pathLength, a_atomBase, a_instanceLits, a_instanceHolds, a_literalHolds, a_restInstances, a_pathLiterals) (nI q) := by
  have hnc := hw.1
  have hnl := hw.2.1
  have hM := hw.2.2.2.2.1
  have ed : nI q / 4 = nI (q / 4) := by
    rw [show (4 : Int32) = nI 4 from rfl, pk_div (by omega) (by omega) (by omega)]
  have hc : q / 4 < nc := by omega
  obtain ⟨b1, b2, b3⟩ := cd_en_bd hw (show q / 4 ≤ nc by omega)
  rw [cd_en_lt hc] at b1 b2 b3
  have hst := cd_mono' hw (c := q / 4 + 1) (d := nc) (by omega) (Nat.le_refl _)
  refine ⟨by decide, nm_r ed ?_⟩
  refine xl_len hw hcs (by omega) ?_
  rw [cd_en_lt hc]
  have key : ∀ d i : Nat, i + d = 3 → ∀ (w : Int32) (il : Nat → Int32), (∀ n, n < 3 * q → il n = a_instanceLits n) →
      (∀ i', i' < i → il (3 * q + i') = if st (q / 4) + i' < st (q / 4 + 1) then nI (cg_L a_litSign a_litPred a_litArg0 a_litArg1 a_predArity (st nc) (st (q / 4) + i') (q / 2 % 2) (q % 2)) else -1) →
      (∀ t, t < 32 → (bt w t = true ↔ ∃ i', i' < i ∧ st (q / 4) + i' < st (q / 4 + 1) ∧ cq_tr (cg_tb t) (cg_L a_litSign a_litPred a_litArg0 a_litArg1 a_predArity (st nc) (st (q / 4) + i') (q / 2 % 2) (q % 2)))) →
      wX_makeInstance_16 post (nI q) (nI (q / 4)) (nI (st (q / 4 + 1) - st (q / 4))) (nI nl) (nI nc) f_stepCount f_bufferSealed f_lastCheckStep f_keptCount f_proofKept f_openCount (nI (cg_sz (cg_oc a_litArg0 a_litArg1 0 (st nc) && cg_oc a_litArg0 a_litArg1 1 (st nc)))) f_neededInstances f_givenLiterals (d + 1) w (nI i) a_litSign a_litPred a_litArg0 a_litArg1 a_clauseStart a_predArity a_stepKind a_stepA a_stepB a_binding a_keptKind a_keptA a_keptB a_keptInstance a_openCopy a_openLit a_parentCopy a_parentLit a_pathLength a_atomBase il a_instanceHolds a_literalHolds a_restInstances a_pathLiterals := by
    intro d
    induction d with
    | zero =>
      intro i hi w il hil hrow hbits
      have ei : i = 3 := by omega
      subst ei
      refine br_t (nI_le (a := 3) (b := 3) (Nat.le_refl _) (by decide)) ⟨vp_in_nI (by omega) (by decide), ?_⟩
      rw [nI_clamp (show q < 2 ^ 31 by omega)]
      refine nm_e (h il _ hil (fun n hn => pk_un (by omega)) ⟨hrow, fun t ht => ?_⟩)
      rw [pk_us, hbits t ht]
      constructor
      · intro ⟨i', _, h2, h3⟩
        exact ⟨_, ⟨st (q / 4) + i', by omega, h2, rfl⟩, h3⟩
      · intro ⟨m, ⟨j, h1, h2, e⟩, h3⟩
        refine ⟨j - st (q / 4), by omega, by omega, ?_⟩
        have ej : st (q / 4) + (j - st (q / 4)) = j := by omega
        rw [ej, ← e]
        exact h3
    | succ d ih =>
      intro i hi w il hil hrow hbits
      have hi3 : i < 3 := by omega
      have inL : vp_in (nI (3 * q + i)) 96 := vp_in_nI (by omega) (by decide)
      have clL : (nI (3 * q + i)).toNatClampNeg = 3 * q + i := nI_clamp (by omega)
      have eix : (3 * nI q) + nI i = nI (3 * q + i) := by
        rw [show (3 : Int32) = nI 3 from rfl, pk_mul, nI_add]
      -- behind the literal x
      have tail : ∀ (x w' : Int32), x = (if st (q / 4) + i < st (q / 4 + 1) then nI (cg_L a_litSign a_litPred a_litArg0 a_litArg1 a_predArity (st nc) (st (q / 4) + i) (q / 2 % 2) (q % 2)) else -1) →
          (∀ t, t < 32 → (bt w' t = true ↔ ∃ i', i' < i + 1 ∧ st (q / 4) + i' < st (q / 4 + 1) ∧ cq_tr (cg_tb t) (cg_L a_litSign a_litPred a_litArg0 a_litArg1 a_predArity (st nc) (st (q / 4) + i') (q / 2 % 2) (q % 2)))) →
          wX_makeInstance_59 post (wX_makeInstance_16 post (nI q) (nI (q / 4)) (nI (st (q / 4 + 1) - st (q / 4))) (nI nl) (nI nc) f_stepCount f_bufferSealed f_lastCheckStep f_keptCount f_proofKept f_openCount (nI (cg_sz (cg_oc a_litArg0 a_litArg1 0 (st nc) && cg_oc a_litArg0 a_litArg1 1 (st nc)))) f_neededInstances f_givenLiterals (d + 1)) (nI q) (nI (q / 4)) (nI (st (q / 4 + 1) - st (q / 4))) w' (nI i) x (nI nl) (nI nc) f_stepCount f_bufferSealed f_lastCheckStep f_keptCount f_proofKept f_openCount (nI (cg_sz (cg_oc a_litArg0 a_litArg1 0 (st nc) && cg_oc a_litArg0 a_litArg1 1 (st nc)))) f_neededInstances f_givenLiterals a_litSign a_litPred a_litArg0 a_litArg1 a_clauseStart a_predArity a_stepKind a_stepA a_stepB a_binding a_keptKind a_keptA a_keptB a_keptInstance a_openCopy a_openLit a_parentCopy a_parentLit a_pathLength a_atomBase il a_instanceHolds a_literalHolds a_restInstances a_pathLiterals := by
        intro x w' ex hw'
        unfold wX_makeInstance_59
        rw [eix, clL]
        refine ⟨inL, nm_e (nm_r (nI_1 i) (ih (i + 1) (by omega) w' _ (fun n hn => ?_) (fun i' hi' => ?_) hw'))⟩
        · rw [pk_un (by omega)]
          exact hil n hn
        · by_cases e : i' = i
          · subst e
            rw [pk_us]
            exact ex
          · rw [pk_un (by omega)]
            exact hrow i' (by omega)
      refine br_f (nI_ge (b := 3) hi3 (by decide)) ?_
      refine pk_le (st (q / 4 + 1) - st (q / 4)) i (fun z => ?_) (fun z => ?_)
      · refine tail (-1) w (by rw [if_neg (by omega)]) (fun t ht => ?_)
        rw [hbits t ht]
        constructor
        · intro ⟨i', h1, h2, h3⟩
          exact ⟨i', by omega, h2, h3⟩
        · intro ⟨i', h1, h2, h3⟩
          exact ⟨i', by omega, h2, h3⟩
      · refine ⟨vp_in_nI (by omega) (by decide), ?_⟩
        rw [nI_clamp (show q / 4 < 2 ^ 31 by omega), hcs (q / 4) (by omega), nI_add]
        refine xi_lit hw hab (show st (q / 4) + i < st nc by omega) (by omega) ?_
        have hlt := cg_HX_lt hw h5 hq ⟨st (q / 4) + i, by omega, by omega, rfl⟩
        refine ⟨vp_in_nI hlt (by decide), ?_⟩
        rw [nI_clamp (Nat.lt_trans hlt (by decide))]
        refine nm_e (tail _ _ (by rw [if_pos (by omega)]) (fun t ht => ?_))
        rw [b_or, Bool.or_eq_true, hbits t ht, xs_lh hfx hlt ht]
        constructor
        · intro hh
          rcases hh with ⟨i', h1, h2, h3⟩ | hh
          · exact ⟨i', by omega, h2, h3⟩
          · exact ⟨i, by omega, by omega, hh⟩
        · intro ⟨i', h1, h2, h3⟩
          by_cases e : i' = i
          · subst e
            exact Or.inr h3
          · exact Or.inl ⟨i', by omega, h2, h3⟩
  refine ⟨4, key 3 0 (by omega) 0 a_instanceLits (fun _ _ => rfl) (fun i' hi' => absurd hi' (Nat.not_lt_zero i')) (fun t ht => ?_)⟩
  rw [b_0]
  constructor
  · intro z
    exact absurd z (by decide)
  · intro ⟨i', h1, _⟩
    exact absurd h1 (Nat.not_lt_zero i')
end
theorem cg_Utest : ∀ o0 o1 : Bool, ∀ x, x < 2 → ∀ y, y < 2 → ((((nI (cg_con o0 o1) >>> (nI x &&& 31)) &&& (nI (cg_con o0 o1) >>> (nI y &&& 31))) &&& 1) = 0 ↔ ¬ (cg_U o0 o1 x ∧ cg_U o0 o1 y)) := by
  intro o0 o1 x hx y hy
  have ex : x = 0 ∨ x = 1 := by omega
  have ey : y = 0 ∨ y = 1 := by omega
  unfold cg_U
  rcases ex with rfl | rfl <;> rcases ey with rfl | rfl <;> cases o0 <;> cases o1 <;> decide
section
variable {f_litCount f_clauseCount f_stepCount f_bufferSealed f_lastCheckStep f_keptCount f_proofKept f_openCount f_universeSize f_neededInstances f_givenLiterals : Int32} {a_litSign a_litPred a_litArg0 a_litArg1 a_clauseStart a_predArity a_stepKind a_stepA a_stepB a_binding a_keptKind a_keptA a_keptB a_keptInstance a_openCopy a_openLit a_parentCopy a_parentLit a_pathLength a_atomBase a_instanceLits a_instanceHolds a_literalHolds a_restInstances a_pathLiterals : Nat → Int32}
theorem xi_rows {post : Int32 → St1 → Prop} {nc nl : Nat} {st : Nat → Nat} (hw : cd_wf nc nl st a_litSign a_litPred a_litArg0 a_litArg1 a_predArity) (hcs : ∀ c, c ≤ nc → a_clauseStart c = nI (st c))
    (hfx : cr_fix a_literalHolds a_pathLength)
    (hab : ∀ p, p < 4 → a_atomBase p = nI (cg_base a_litPred a_predArity (st nc) (cg_oc a_litArg0 a_litArg1 0 (st nc) && cg_oc a_litArg0 a_litArg1 1 (st nc)) p))
    (h5 : cg_base a_litPred a_predArity (st nc) (cg_oc a_litArg0 a_litArg1 0 (st nc) && cg_oc a_litArg0 a_litArg1 1 (st nc)) 4 ≤ 5)
    (h : ∀ (R : Int32) (il ih : Nat → Int32), (∀ q, xs_R R q ↔ cg_RX nc st a_litArg0 a_litArg1 q) → xi_tab nc st a_litSign a_litPred a_litArg0 a_litArg1 a_predArity il ih →
      post R (nI nl, nI nc, f_stepCount, f_bufferSealed, f_lastCheckStep, f_keptCount, f_proofKept, f_openCount, nI (cg_sz (cg_oc a_litArg0 a_litArg1 0 (st nc) && cg_oc a_litArg0 a_litArg1 1 (st nc))), f_neededInstances, f_givenLiterals, a_litSign, a_litPred, a_litArg0, a_litArg1, a_clauseStart, a_predArity, a_stepKind, a_stepA, a_stepB, a_binding, a_keptKind, a_keptA, a_keptB, a_keptInstance, a_openCopy, a_openLit, a_parentCopy, a_parentLit, a_pathLength, a_atomBase, il, ih, a_literalHolds, a_restInstances, a_pathLiterals)) :
    ∀ d q : Nat, q + d = 4 * nc → ∀ (R : Int32) (il ih : Nat → Int32), (∀ q', xs_R R q' ↔ q' < q ∧ cg_RX nc st a_litArg0 a_litArg1 q') →
      (∀ q', q' < q → cg_RX nc st a_litArg0 a_litArg1 q' → xi_row nc st a_litSign a_litPred a_litArg0 a_litArg1 a_predArity il ih q') →
      wX_makeInstances_53 post (nI (cg_con (cg_oc a_litArg0 a_litArg1 0 (st nc)) (cg_oc a_litArg0 a_litArg1 1 (st nc)))) (d + 1) R (nI q) (nI nl) (nI nc) f_stepCount f_bufferSealed f_lastCheckStep f_keptCount f_proofKept f_openCount (nI (cg_sz (cg_oc a_litArg0 a_litArg1 0 (st nc) && cg_oc a_litArg0 a_litArg1 1 (st nc)))) f_neededInstances f_givenLiterals a_litSign a_litPred a_litArg0 a_litArg1 a_clauseStart a_predArity a_stepKind a_stepA a_stepB a_binding a_keptKind a_keptA a_keptB a_keptInstance a_openCopy a_openLit a_parentCopy a_parentLit a_pathLength a_atomBase il ih a_literalHolds a_restInstances a_pathLiterals := by
  have hnc := hw.1
  have e4 : 4 * nI nc = nI (4 * nc) := by rw [show (4 : Int32) = nI 4 from rfl, pk_mul]
  intro d
  induction d with
  | zero =>
    intro q hq R il ih hR hrow
    have eq : q = 4 * nc := by omega
    subst eq
    refine br_t (by rw [e4]; exact nI_le (Nat.le_refl _) (by omega)) (h R il ih (fun q' => ?_) (fun q' hq' => hrow q' hq'.1 hq'))
    rw [hR q']
    exact ⟨fun z => z.2, fun z => ⟨z.1, z⟩⟩
  | succ d IH =>
    intro q hq R il ih hR hrow
    have hq4 : q < 4 * nc := by omega
    have hq32 : q < 32 := by omega
    refine br_f (by rw [e4]; exact nI_ge hq4 (by omega)) ?_
    refine xd_v2 hq32 (xd_v3 hq32 ?_)
    refine ek_if (cg_Utest _ _ (q / 2 % 2) (by omega) (q % 2) (by omega)) (fun z => nm_r (nI_1 q) ?_) (fun z => ?_)
    · refine IH (q + 1) (by omega) R il ih (fun q' => ?_) (fun q' hq' hX => ?_)
      · rw [hR q']
        constructor
        · intro ⟨y1, y2⟩
          exact ⟨by omega, y2⟩
        · intro ⟨y1, y2⟩
          refine ⟨?_, y2⟩
          by_cases e : q' = q
          · subst e
            exact absurd ⟨y2.2.1, y2.2.2⟩ z
          · omega
      · by_cases e : q' = q
        · subst e
          exact absurd ⟨hX.2.1, hX.2.2⟩ z
        · exact hrow q' (by omega) hX
    · have z' := Classical.byContradiction z
      refine xi_make hw hcs hfx hab h5 hq4 (fun il' ih' hil hih hnew => nm_e (nm_r (nI_1 q) ?_))
      refine IH (q + 1) (by omega) _ il' ih' (fun q' => ?_) (fun q' hq' hX => ?_)
      · unfold xs_R
        constructor
        · intro ⟨y1, y2⟩
          rw [b_or, xs_one hq32 y1, Bool.or_eq_true] at y2
          rcases y2 with y2 | y2
          · have := (hR q').mp ⟨y1, y2⟩
            exact ⟨by omega, this.2⟩
          · have e := of_decide_eq_true y2
            subst e
            exact ⟨by omega, hq4, z'.1, z'.2⟩
        · intro ⟨y1, y2⟩
          have hl : q' < 32 := by have := y2.1; omega
          refine ⟨hl, ?_⟩
          rw [b_or, xs_one hq32 hl]
          by_cases e : q' = q
          · rw [decide_eq_true e, Bool.or_true]
          · rw [((hR q').mpr ⟨by omega, y2⟩).2]
            rfl
      · by_cases e : q' = q
        · subst e
          exact hnew
        · obtain ⟨r1, r2⟩ := hrow q' (by omega) hX
          refine ⟨fun i hi => ?_, fun t ht => ?_⟩
          · rw [hil (3 * q' + i) (by omega)]
            exact r1 i hi
          · rw [hih q' (by omega)]
            exact r2 t ht
theorem xi_all {post : Int32 → St1 → Prop} {nc nl : Nat} {st : Nat → Nat} (hw : cd_wf nc nl st a_litSign a_litPred a_litArg0 a_litArg1 a_predArity) (hcs : ∀ c, c ≤ nc → a_clauseStart c = nI (st c))
    (hfx : cr_fix a_literalHolds a_pathLength)
    (h5 : cg_base a_litPred a_predArity (st nc) (cg_oc a_litArg0 a_litArg1 0 (st nc) && cg_oc a_litArg0 a_litArg1 1 (st nc)) 4 ≤ 5)
    (h : ∀ (R x1 : Int32) (ab il ih : Nat → Int32), (∀ q, xs_R R q ↔ cg_RX nc st a_litArg0 a_litArg1 q) → xi_tab nc st a_litSign a_litPred a_litArg0 a_litArg1 a_predArity il ih →
      post R (nI nl, nI nc, f_stepCount, f_bufferSealed, f_lastCheckStep, f_keptCount, f_proofKept, f_openCount, x1, f_neededInstances, f_givenLiterals, a_litSign, a_litPred, a_litArg0, a_litArg1, a_clauseStart, a_predArity, a_stepKind, a_stepA, a_stepB, a_binding, a_keptKind, a_keptA, a_keptB, a_keptInstance, a_openCopy, a_openLit, a_parentCopy, a_parentLit, a_pathLength, ab, il, ih, a_literalHolds, a_restInstances, a_pathLiterals)) :
    wpX_makeInstances post (nI nl, nI nc, f_stepCount, f_bufferSealed, f_lastCheckStep, f_keptCount, f_proofKept, f_openCount, f_universeSize, f_neededInstances, f_givenLiterals, a_litSign, a_litPred, a_litArg0, a_litArg1, a_clauseStart, a_predArity, a_stepKind, a_stepA, a_stepB, a_binding, a_keptKind, a_keptA, a_keptB, a_keptInstance, a_openCopy, a_openLit, a_parentCopy, a_parentLit, a_pathLength, a_atomBase, a_instanceLits, a_instanceHolds, a_literalHolds, a_restInstances, a_pathLiterals) := by
  refine xu_univ hw hcs (xu_size ?_)
  have key : ∀ d p : Nat, p + d = 4 → ∀ ab : Nat → Int32, (∀ p', p' < p → ab p' = nI (cg_base a_litPred a_predArity (st nc) (cg_oc a_litArg0 a_litArg1 0 (st nc) && cg_oc a_litArg0 a_litArg1 1 (st nc)) p')) →
      wX_makeInstances_18 post (nI (cg_con (cg_oc a_litArg0 a_litArg1 0 (st nc)) (cg_oc a_litArg0 a_litArg1 1 (st nc)))) (nI nl) (nI nc) f_stepCount f_bufferSealed f_lastCheckStep f_keptCount f_proofKept f_openCount (nI (cg_sz (cg_oc a_litArg0 a_litArg1 0 (st nc) && cg_oc a_litArg0 a_litArg1 1 (st nc)))) f_neededInstances f_givenLiterals (d + 1) (nI (cg_base a_litPred a_predArity (st nc) (cg_oc a_litArg0 a_litArg1 0 (st nc) && cg_oc a_litArg0 a_litArg1 1 (st nc)) p)) (nI p) a_litSign a_litPred a_litArg0 a_litArg1 a_clauseStart a_predArity a_stepKind a_stepA a_stepB a_binding a_keptKind a_keptA a_keptB a_keptInstance a_openCopy a_openLit a_parentCopy a_parentLit a_pathLength ab a_instanceLits a_instanceHolds a_literalHolds a_restInstances a_pathLiterals := by
    intro d
    induction d with
    | zero =>
      intro p hp ab hab
      have : p = 4 := by omega
      subst this
      refine br_t (nI_le (a := 4) (b := 4) (Nat.le_refl _) (by decide)) ⟨4 * nc + 1, ?_⟩
      refine xi_rows hw hcs hfx hab h5 (fun R il ih hR htab => h R _ ab il ih hR htab) (4 * nc) 0 (by omega) 0 _ _ (fun q' => ?_) (fun q' hq' => absurd hq' (Nat.not_lt_zero q'))
      constructor
      · intro z
        have := z.2
        rw [b_0] at this
        exact absurd this (by decide)
      · intro z
        exact absurd z.1 (Nat.not_lt_zero q')
    | succ d ih =>
      intro p hp ab hab
      refine br_f (nI_ge (b := 4) (by omega) (by decide)) ⟨vp_in_nI (by omega) (by decide), ?_⟩
      rw [nI_clamp (show p < 2 ^ 31 by omega)]
      refine nm_e ?_
      refine xu_atoms hw hcs (by omega) (nm_r (nI_add _ _) (nm_r (nI_1 p) (ih (p + 1) (by omega) _ (fun p' hp' => ?_))))
      by_cases e : p' = p
      · subst e
        exact pk_us
      · rw [pk_un e]
        exact hab p' (by omega)
  exact ⟨_, key 4 0 (by omega) a_atomBase (fun p' hp' => absurd hp' (Nat.not_lt_zero p'))⟩
/-! where things hold -/
theorem xs_where {post : Int32 → Prop} {R : Int32} (h : ∀ w : Int32, (∀ t, t < 32 → (bt w t = true ↔ (∀ q, xs_R R q → bt (a_instanceHolds q) t = true) ∧ (∀ m, xs_G f_givenLiterals m → bt (a_literalHolds m) t = true))) → post w) :
    wpX_whereHold post (f_litCount, f_clauseCount, f_stepCount, f_bufferSealed, f_lastCheckStep, f_keptCount, f_proofKept, f_openCount, f_universeSize, f_neededInstances, f_givenLiterals, a_litSign, a_litPred, a_litArg0, a_litArg1, a_clauseStart, a_predArity, a_stepKind, a_stepA, a_stepB, a_binding, a_keptKind, a_keptA, a_keptB, a_keptInstance, a_openCopy, a_openLit, a_parentCopy, a_parentLit, a_pathLength, a_atomBase, a_instanceLits, a_instanceHolds, a_literalHolds, a_restInstances, a_pathLiterals) R := by
  have lits : ∀ d k : Nat, k + d = 10 → ∀ w : Int32, (∀ t, t < 32 → (bt w t = true ↔ (∀ q, xs_R R q → bt (a_instanceHolds q) t = true) ∧ (∀ m, m < k → xs_G f_givenLiterals m → bt (a_literalHolds m) t = true))) →
      wX_whereHold_35 post f_litCount f_clauseCount f_stepCount f_bufferSealed f_lastCheckStep f_keptCount f_proofKept f_openCount f_universeSize f_neededInstances f_givenLiterals a_litSign a_litPred a_litArg0 a_litArg1 a_clauseStart a_predArity a_stepKind a_stepA a_stepB a_binding a_keptKind a_keptA a_keptB a_keptInstance a_openCopy a_openLit a_parentCopy a_parentLit a_pathLength a_atomBase a_instanceLits a_instanceHolds a_literalHolds a_restInstances a_pathLiterals (d + 1) w (nI k) := by
    intro d
    induction d with
    | zero =>
      intro k hk w hw
      have : k = 10 := by omega
      subst this
      refine br_t (nI_le (a := 10) (b := 10) (Nat.le_refl _) (by decide)) (h w (fun t ht => ?_))
      rw [hw t ht]
      constructor
      · intro ⟨y1, y2⟩
        exact ⟨y1, fun m hm => y2 m hm.1 hm⟩
      · intro ⟨y1, y2⟩
        exact ⟨y1, fun m _ hm => y2 m hm⟩
    | succ d ih =>
      intro k hk w hw
      refine br_f (nI_ge (b := 10) (by omega) (by decide)) ?_
      refine ek_if (xs_bit f_givenLiterals (show k < 32 by omega)) (fun z => nm_r (nI_1 k) (ih (k + 1) (by omega) w (fun t ht => ?_))) (fun z => ⟨vp_in_nI (by omega) (by decide), ?_⟩)
      · rw [hw t ht]
        constructor
        · intro ⟨y1, y2⟩
          refine ⟨y1, fun m hm hG => ?_⟩
          by_cases e : m = k
          · subst e
            rw [hG.2] at z
            exact absurd z (by decide)
          · exact y2 m (by omega) hG
        · intro ⟨y1, y2⟩
          exact ⟨y1, fun m hm hG => y2 m (by omega) hG⟩
      · rw [nI_clamp (show k < 2 ^ 31 by omega)]
        have z' : bt f_givenLiterals k = true := by
          cases zz : bt f_givenLiterals k
          · exact absurd zz z
          · rfl
        refine nm_e (nm_r (nI_1 k) (ih (k + 1) (by omega) _ (fun t ht => ?_)))
        rw [b_and, Bool.and_eq_true, hw t ht]
        constructor
        · intro ⟨⟨y1, y2⟩, y3⟩
          refine ⟨y1, fun m hm hG => ?_⟩
          by_cases e : m = k
          · subst e
            exact y3
          · exact y2 m (by omega) hG
        · intro ⟨y1, y2⟩
          exact ⟨⟨y1, fun m hm hG => y2 m (by omega) hG⟩, y2 k (by omega) ⟨by omega, z'⟩⟩
  have rows : ∀ d k : Nat, k + d = 32 → ∀ w : Int32, (∀ t, t < 32 → (bt w t = true ↔ (∀ q, q < k → xs_R R q → bt (a_instanceHolds q) t = true))) → wX_whereHold_4 post R f_litCount f_clauseCount f_stepCount f_bufferSealed f_lastCheckStep f_keptCount f_proofKept f_openCount f_universeSize f_neededInstances f_givenLiterals a_litSign a_litPred a_litArg0 a_litArg1 a_clauseStart a_predArity a_stepKind a_stepA a_stepB a_binding a_keptKind a_keptA a_keptB a_keptInstance a_openCopy a_openLit a_parentCopy a_parentLit a_pathLength a_atomBase a_instanceLits a_instanceHolds a_literalHolds a_restInstances a_pathLiterals (d + 1) w (nI k) := by
    intro d
    induction d with
    | zero =>
      intro k hk w hw
      have : k = 32 := by omega
      subst this
      refine br_t (nI_le (a := 32) (b := 32) (Nat.le_refl _) (by decide)) ⟨11, lits 10 0 (by omega) w (fun t ht => ?_)⟩
      rw [hw t ht]
      constructor
      · intro y
        exact ⟨fun q hq => y q hq.1 hq, fun m hm => absurd hm (Nat.not_lt_zero m)⟩
      · intro ⟨y1, _⟩ q _ hq
        exact y1 q hq
    | succ d ih =>
      intro k hk w hw
      refine br_f (nI_ge (b := 32) (by omega) (by decide)) ?_
      refine ek_if (xs_bit R (show k < 32 by omega)) (fun z => nm_r (nI_1 k) (ih (k + 1) (by omega) w (fun t ht => ?_))) (fun z => ⟨vp_in_nI (by omega) (by decide), ?_⟩)
      · rw [hw t ht]
        constructor
        · intro y q hq hR
          by_cases e : q = k
          · subst e
            rw [hR.2] at z
            exact absurd z (by decide)
          · exact y q (by omega) hR
        · intro y q hq hR
          exact y q (by omega) hR
      · rw [nI_clamp (show k < 2 ^ 31 by omega)]
        have z' : bt R k = true := by
          cases zz : bt R k
          · exact absurd zz z
          · rfl
        refine nm_e (nm_r (nI_1 k) (ih (k + 1) (by omega) _ (fun t ht => ?_)))
        rw [b_and, Bool.and_eq_true, hw t ht]
        constructor
        · intro ⟨y1, y3⟩ q hq hR
          by_cases e : q = k
          · subst e
            exact y3
          · exact y1 q (by omega) hR
        · intro y
          exact ⟨fun q hq hR => y q (by omega) hR, y k (by omega) ⟨by omega, z'⟩⟩
  refine ⟨33, rows 32 0 (by omega) (-1) (fun t ht => ?_)⟩
  rw [b_m1 t ht]
  exact ⟨fun _ q hq => absurd hq (Nat.not_lt_zero q), fun _ => rfl⟩
/-- nowhere: the needed ground clauses and the given literals can't hold together -/
theorem xs_test {post : Int32 → Prop} {nc nl : Nat} {st : Nat → Nat} {sg pr a0 a1 ar ph : Nat → Int32} (hw : cd_wf nc nl st sg pr a0 a1 ar) (hfx : cr_fix a_literalHolds ph)
    (h5 : cg_base pr ar (st nc) (cg_oc a0 a1 0 (st nc) && cg_oc a0 a1 1 (st nc)) 4 ≤ 5) (htab : xi_tab nc st sg pr a0 a1 ar a_instanceLits a_instanceHolds)
    {R : Int32} (hR : ∀ q, xs_R R q → cg_RX nc st a0 a1 q) (h0 : ¬ cq_sat (cg_HX nc st sg pr a0 a1 ar) (xs_R R) (xs_G f_givenLiterals) → post 0)
    (h1 : ∀ w : Int32, ¬ w = 0 → cq_sat (cg_HX nc st sg pr a0 a1 ar) (xs_R R) (xs_G f_givenLiterals) → post w) : wpX_whereHold post (f_litCount, f_clauseCount, f_stepCount, f_bufferSealed, f_lastCheckStep, f_keptCount, f_proofKept, f_openCount, f_universeSize, f_neededInstances, f_givenLiterals, a_litSign, a_litPred, a_litArg0, a_litArg1, a_clauseStart, a_predArity, a_stepKind, a_stepA, a_stepB, a_binding, a_keptKind, a_keptA, a_keptB, a_keptInstance, a_openCopy, a_openLit, a_parentCopy, a_parentLit, a_pathLength, a_atomBase, a_instanceLits, a_instanceHolds, a_literalHolds, a_restInstances, a_pathLiterals) R := by
  refine xs_where (fun w hw' => ?_)
  have iff : (∃ t, t < 32 ∧ bt w t = true) ↔ cq_sat (cg_HX nc st sg pr a0 a1 ar) (xs_R R) (xs_G f_givenLiterals) := by
    constructor
    · intro ⟨t, ht, hb⟩
      obtain ⟨y1, y2⟩ := (hw' t ht).mp hb
      exact ⟨cg_tb t, fun q hq => ((htab q (hR q hq)).2 t ht).mp (y1 q hq), fun m hm => (xs_lh hfx hm.1 ht).mp (y2 m hm)⟩
    · intro ⟨f, y1, y2⟩
      obtain ⟨t, ht, hf⟩ := xs_f5 f
      refine ⟨t, ht, (hw' t ht).mpr ⟨fun q hq => ?_, fun m hm => ?_⟩⟩
      · obtain ⟨m, hm, hT⟩ := y1 q hq
        exact ((htab q (hR q hq)).2 t ht).mpr ⟨m, hm, (xs_tr hf (cg_HX_lt hw h5 (hR q hq).1 hm)).mp hT⟩
      · exact (xs_lh hfx hm.1 ht).mpr ((xs_tr hf hm.1).mp (y2 m hm))
  by_cases e : w = 0
  · subst e
    refine h0 (fun s => ?_)
    obtain ⟨t, _, hb⟩ := iff.mpr s
    rw [b_0] at hb
    exact absurd hb (by decide)
  · refine h1 w e (iff.mp (Classical.byContradiction (fun hn => e (b_ext (fun i hi => ?_)))))
    rw [b_0]
    cases hb : bt w i
    · rfl
    · exact absurd ⟨i, hi, hb⟩ hn
theorem xs_keep {post : St1 → Prop} {nc nl : Nat} {st : Nat → Nat} {sg pr a0 a1 ar ph : Nat → Int32} (hw : cd_wf nc nl st sg pr a0 a1 ar) (hfx : cr_fix a_literalHolds ph)
    (h5 : cg_base pr ar (st nc) (cg_oc a0 a1 0 (st nc) && cg_oc a0 a1 1 (st nc)) 4 ≤ 5) (htab : xi_tab nc st sg pr a0 a1 ar a_instanceLits a_instanceHolds)
    {R0 : Int32} (hR0 : ∀ q, xs_R R0 q → cg_RX nc st a0 a1 q) (hu : ¬ cq_sat (cg_HX nc st sg pr a0 a1 ar) (xs_R R0) (xs_G f_givenLiterals))
    (h : ∀ R : Int32, (∀ q, xs_R R q → xs_R R0 q) → ¬ cq_sat (cg_HX nc st sg pr a0 a1 ar) (xs_R R) (xs_G f_givenLiterals) →
      (∀ q, xs_R R q → cq_sat (cg_HX nc st sg pr a0 a1 ar) (cq_del (xs_R R) q) (xs_G f_givenLiterals)) → post (f_litCount, f_clauseCount, f_stepCount, f_bufferSealed, f_lastCheckStep, f_keptCount, f_proofKept, f_openCount, f_universeSize, R, f_givenLiterals, a_litSign, a_litPred, a_litArg0, a_litArg1, a_clauseStart, a_predArity, a_stepKind, a_stepA, a_stepB, a_binding, a_keptKind, a_keptA, a_keptB, a_keptInstance, a_openCopy, a_openLit, a_parentCopy, a_parentLit, a_pathLength, a_atomBase, a_instanceLits, a_instanceHolds, a_literalHolds, a_restInstances, a_pathLiterals)) :
    wpX_keepOnlyNeeded post (f_litCount, f_clauseCount, f_stepCount, f_bufferSealed, f_lastCheckStep, f_keptCount, f_proofKept, f_openCount, f_universeSize, R0, f_givenLiterals, a_litSign, a_litPred, a_litArg0, a_litArg1, a_clauseStart, a_predArity, a_stepKind, a_stepA, a_stepB, a_binding, a_keptKind, a_keptA, a_keptB, a_keptInstance, a_openCopy, a_openLit, a_parentCopy, a_parentLit, a_pathLength, a_atomBase, a_instanceLits, a_instanceHolds, a_literalHolds, a_restInstances, a_pathLiterals) := by
  have key : ∀ d k : Nat, k + d = 32 → ∀ R : Int32, (∀ q, xs_R R q → xs_R R0 q) → ¬ cq_sat (cg_HX nc st sg pr a0 a1 ar) (xs_R R) (xs_G f_givenLiterals) →
      (∀ q, q < k → xs_R R q → cq_sat (cg_HX nc st sg pr a0 a1 ar) (cq_del (xs_R R) q) (xs_G f_givenLiterals)) →
      wX_keepOnlyNeeded_2 post f_litCount f_clauseCount f_stepCount f_bufferSealed f_lastCheckStep f_keptCount f_proofKept f_openCount f_universeSize f_givenLiterals a_litSign a_litPred a_litArg0 a_litArg1 a_clauseStart a_predArity a_stepKind a_stepA a_stepB a_binding a_keptKind a_keptA a_keptB a_keptInstance a_openCopy a_openLit a_parentCopy a_parentLit a_pathLength a_atomBase a_instanceLits a_instanceHolds a_literalHolds a_restInstances a_pathLiterals (d + 1) (nI k) R := by
    intro d
    induction d with
    | zero =>
      intro k hk R y1 y2 y3
      have : k = 32 := by omega
      subst this
      exact br_t (nI_le (a := 32) (b := 32) (Nat.le_refl _) (by decide)) (h R y1 y2 (fun q hq => y3 q hq.1 hq))
    | succ d ih =>
      intro k hk R y1 y2 y3
      have hk32 : k < 32 := by omega
      have hd := xs_R_del (R := R) hk32
      refine br_f (nI_ge (b := 32) hk32 (by decide)) (nm_e ?_)
      refine xs_test hw hfx h5 htab (fun q hq => hR0 q (y1 q ((hd q).mp hq).1)) (fun z => br_t rfl (nm_r (nI_1 k) ?_)) (fun w hw0 z => br_f hw0 (nm_r (nI_1 k) ?_))
      · refine ih (k + 1) (by omega) _ (fun q hq => y1 q ((hd q).mp hq).1) z (fun q hq hR => ?_)
        obtain ⟨r1, r2⟩ := (hd q).mp hR
        have r2' : ¬ q = k := r2
        refine cq_sat_mono (fun q' hq' => ⟨((hd q').mp hq'.1).1, hq'.2⟩) (fun _ hm => hm) (y3 q (by omega) r1)
      · refine ih (k + 1) (by omega) R y1 y2 (fun q hq hR => ?_)
        by_cases e : q = k
        · subst e
          exact cq_sat_mono (fun q' hq' => (hd q').mpr hq') (fun _ hm => hm) z
        · exact y3 q (by omega) hR
  exact ⟨_, key 32 0 (by omega) R0 (fun _ z => z) hu (fun q hq => absurd hq (Nat.not_lt_zero q))⟩
theorem xs_low {post : Int32 → Prop} {q0 : Nat} (hq0 : xs_R f_neededInstances q0) (h : ∀ q, xs_R f_neededInstances q → post (nI q)) : wpX_lowestInstance post (f_litCount, f_clauseCount, f_stepCount, f_bufferSealed, f_lastCheckStep, f_keptCount, f_proofKept, f_openCount, f_universeSize, f_neededInstances, f_givenLiterals, a_litSign, a_litPred, a_litArg0, a_litArg1, a_clauseStart, a_predArity, a_stepKind, a_stepA, a_stepB, a_binding, a_keptKind, a_keptA, a_keptB, a_keptInstance, a_openCopy, a_openLit, a_parentCopy, a_parentLit, a_pathLength, a_atomBase, a_instanceLits, a_instanceHolds, a_literalHolds, a_restInstances, a_pathLiterals) := by
  have key : ∀ k : Nat, k ≤ 32 → ∀ x : Nat, ((∃ q, k ≤ q ∧ xs_R f_neededInstances q) → xs_R f_neededInstances x) → wX_lowestInstance_5 post f_litCount f_clauseCount f_stepCount f_bufferSealed f_lastCheckStep f_keptCount f_proofKept f_openCount f_universeSize f_neededInstances f_givenLiterals a_litSign a_litPred a_litArg0 a_litArg1 a_clauseStart a_predArity a_stepKind a_stepA a_stepB a_binding a_keptKind a_keptA a_keptB a_keptInstance a_openCopy a_openLit a_parentCopy a_parentLit a_pathLength a_atomBase a_instanceLits a_instanceHolds a_literalHolds a_restInstances a_pathLiterals (k + 1) (nI x) (nI k + (-1)) := by
    intro k
    induction k with
    | zero =>
      intro _ x hx
      exact br_t (by decide) (h x (hx ⟨q0, Nat.zero_le _, hq0⟩))
    | succ k ih =>
      intro hk x hx
      rw [pk_m1]
      refine br_f (nI_pos (by omega)) ?_
      refine ek_if (xs_bit f_neededInstances (show k < 32 by omega)) (fun z => nm_e (ih (by omega) x (fun ⟨q, y1, y2⟩ => hx ⟨q, ?_, y2⟩))) (fun z => nm_e (ih (by omega) k (fun _ => ⟨by omega, ?_⟩)))
      · by_cases e : q = k
        · subst e
          rw [y2.2] at z
          exact absurd z (by decide)
        · omega
      · cases zz : bt f_neededInstances k
        · exact absurd zz z
        · rfl
  refine ⟨33, key 32 (Nat.le_refl _) 0 (fun ⟨q, y1, y2⟩ => ?_)⟩
  have := y2.1
  omega
theorem xs_find {post : Int32 → Prop} {m k0 : Nat} (hk0 : k0 < 96) (hn0 : bt f_neededInstances (k0 / 3) = true) (he0 : a_instanceLits k0 = nI m)
    (h : ∀ k, k < 96 → bt f_neededInstances (k / 3) = true → a_instanceLits k = nI m → post (nI k)) : wpX_findNeeded post (f_litCount, f_clauseCount, f_stepCount, f_bufferSealed, f_lastCheckStep, f_keptCount, f_proofKept, f_openCount, f_universeSize, f_neededInstances, f_givenLiterals, a_litSign, a_litPred, a_litArg0, a_litArg1, a_clauseStart, a_predArity, a_stepKind, a_stepA, a_stepB, a_binding, a_keptKind, a_keptA, a_keptB, a_keptInstance, a_openCopy, a_openLit, a_parentCopy, a_parentLit, a_pathLength, a_atomBase, a_instanceLits, a_instanceHolds, a_literalHolds, a_restInstances, a_pathLiterals) (nI m) := by
  have key : ∀ d k : Nat, k + d = 96 → ∀ x : Nat, (k0 < k → x < 96 ∧ bt f_neededInstances (x / 3) = true ∧ a_instanceLits x = nI m) → wX_findNeeded_4 post (nI m) f_litCount f_clauseCount f_stepCount f_bufferSealed f_lastCheckStep f_keptCount f_proofKept f_openCount f_universeSize f_neededInstances f_givenLiterals a_litSign a_litPred a_litArg0 a_litArg1 a_clauseStart a_predArity a_stepKind a_stepA a_stepB a_binding a_keptKind a_keptA a_keptB a_keptInstance a_openCopy a_openLit a_parentCopy a_parentLit a_pathLength a_atomBase a_instanceLits a_instanceHolds a_literalHolds a_restInstances a_pathLiterals (d + 1) (nI x) (nI k) := by
    intro d
    induction d with
    | zero =>
      intro k hk x hx
      obtain ⟨y1, y2, y3⟩ := hx (by omega)
      exact br_t (nI_le (a := 96) (by omega) (by omega)) (h x y1 y2 y3)
    | succ d ih =>
      intro k hk x hx
      have ed : nI k / 3 = nI (k / 3) := by
        rw [show (3 : Int32) = nI 3 from rfl, pk_div (by omega) (by omega) (by omega)]
      refine br_f (nI_ge (b := 96) (by omega) (by decide)) ⟨by decide, ?_⟩
      rw [ed]
      refine ek_if (xs_bit f_neededInstances (show k / 3 < 32 by omega)) (fun z => br_t rfl (nm_r (nI_1 k) (ih (k + 1) (by omega) x (fun hlt => hx ?_)))) (fun z => br_f (by decide) ⟨vp_in_nI (by omega) (by decide), ?_⟩)
      · by_cases e : k0 = k
        · rw [e, z] at hn0
          exact absurd hn0 (by decide)
        · omega
      · rw [nI_clamp (show k < 2 ^ 31 by omega)]
        refine br_c (fun e => nm_r (nI_1 k) (ih (k + 1) (by omega) k (fun _ => ⟨by omega, ?_, e⟩))) (fun e => nm_r (nI_1 k) (ih (k + 1) (by omega) x (fun hlt => hx ?_)))
        · cases zz : bt f_neededInstances (k / 3)
          · exact absurd zz z
          · rfl
        · by_cases e2 : k0 = k
          · rw [e2] at he0
            exact absurd he0 e
          · omega
  exact ⟨_, key 96 0 (by omega) 0 (fun z => absurd z (Nat.not_lt_zero k0))⟩
end
end
section
/-! X's writer: copy j is the ground clause q j -/
def xw_lt (st q : Nat → Nat) (e : Nat × Nat) : Nat := 3 * q e.1 + (e.2 - st (q e.1 / 4))
def xw_in (st q : Nat → Nat) (e : Nat × Nat) : Prop := st (q e.1 / 4) ≤ e.2 ∧ e.2 < st (q e.1 / 4 + 1)
def xw_g (nc : Nat) (st : Nat → Nat) (sg pr a0 a1 ar : Nat → Int32) (q : Nat → Nat) (e : Nat × Nat) : Nat := cg_L sg pr a0 a1 ar (st nc) e.2 (q e.1 / 2 % 2) (q e.1 % 2)
def xw_ch (st q : Nat → Nat) (kK pc pl ph : Nat → Int32) : List (Nat × Nat) → Nat → Prop
  | [], c => ph c = 0
  | e :: p, c => e.1 < c ∧ ¬ kK e.1 = 2 ∧ xw_in st q e ∧ ph c = nI (p.length + 1) ∧ pc c = nI e.1 ∧ pl c = nI (xw_lt st q e) ∧ xw_ch st q kK pc pl ph p e.1
def xw_goal (nc : Nat) (st : Nat → Nat) (sg pr a0 a1 ar : Nat → Int32) (q : Nat → Nat) (kK pc pl ph ri ql : Nat → Int32) (m : Nat) (g : ck_G) : Prop :=
  g.1 < m ∧ ¬ kK g.1 = 2 ∧ xw_in st q (g.1, g.2.1) ∧ xw_ch st q kK pc pl ph g.2.2 g.1 ∧ cq_ok (g.2.2.map (xw_g nc st sg pr a0 a1 ar q)) ∧
  (∀ k, xs_G (ql g.1) k ↔ k ∈ g.2.2.map (xw_g nc st sg pr a0 a1 ar q)) ∧ (∀ r, xs_R (ri g.1) r → cg_RX nc st a0 a1 r) ∧
  cq_goal (cg_HX nc st sg pr a0 a1 ar) (xs_R (ri g.1)) (xs_G (ql g.1)) (xw_g nc st sg pr a0 a1 ar q (g.1, g.2.1))
def xw_stk (nc : Nat) (st : Nat → Nat) (sg pr a0 a1 ar : Nat → Int32) (q : Nat → Nat) (kK pc pl ph ri ql oc ol : Nat → Int32) (m : Nat) : List ck_G → Prop
  | [] => True
  | g :: R => oc R.length = nI g.1 ∧ ol R.length = nI (xw_lt st q (g.1, g.2.1)) ∧ xw_goal nc st sg pr a0 a1 ar q kK pc pl ph ri ql m g ∧ xw_stk nc st sg pr a0 a1 ar q kK pc pl ph ri ql oc ol m R
theorem xw_ch_len {st q : Nat → Nat} {kK pc pl ph : Nat → Int32} : ∀ {p : List (Nat × Nat)} {c : Nat}, xw_ch st q kK pc pl ph p c → ph c = nI p.length ∧ p.length ≤ c
  | [], c, h => ⟨h, Nat.zero_le _⟩
  | e :: p, c, h => by
    have h2 := (xw_ch_len h.2.2.2.2.2.2).2
    have h1 := h.1
    exact ⟨h.2.2.2.1, by rw [List.length_cons]; omega⟩
theorem xw_ch_mem {st q : Nat → Nat} {kK pc pl ph : Nat → Int32} : ∀ {p : List (Nat × Nat)} {c : Nat}, xw_ch st q kK pc pl ph p c → ∀ e, e ∈ p → e.1 < c ∧ ¬ kK e.1 = 2 ∧ xw_in st q e
  | [], _, _, e, he => by cases he
  | x :: p, c, h, e, he => by
    rcases List.mem_cons.mp he with z | z
    · rw [z]
      exact ⟨h.1, h.2.1, h.2.2.1⟩
    · have := xw_ch_mem h.2.2.2.2.2.2 e z
      have h1 := h.1
      exact ⟨by omega, this.2⟩
/-- nothing below m has changed -/
def xw_fr (q q' : Nat → Nat) (kK kK' pc pc' pl pl' ph ph' ri ri' ql ql' : Nat → Int32) (m : Nat) : Prop :=
  ∀ j, j < m → q' j = q j ∧ kK' j = kK j ∧ pc' j = pc j ∧ pl' j = pl j ∧ ph' j = ph j ∧ ri' j = ri j ∧ ql' j = ql j
theorem xw_ch_fr {st q q' : Nat → Nat} {kK kK' pc pc' pl pl' ph ph' ri ri' ql ql' : Nat → Int32} {m : Nat} (hf : xw_fr q q' kK kK' pc pc' pl pl' ph ph' ri ri' ql ql' m) :
    ∀ {p : List (Nat × Nat)} {c : Nat}, c < m → xw_ch st q kK pc pl ph p c → xw_ch st q' kK' pc' pl' ph' p c
  | [], c, hc, h => by
    show ph' c = 0
    rw [(hf c hc).2.2.2.2.1]
    exact h
  | e :: p, c, hc, h => by
    obtain ⟨h1, h2, h3, h4, h5, h6, h7⟩ := h
    obtain ⟨_, _, f3, f4, f5, _⟩ := hf c hc
    obtain ⟨g1, g2, _⟩ := hf e.1 (by omega)
    refine ⟨h1, by rw [g2]; exact h2, ?_, by rw [f5]; exact h4, by rw [f3]; exact h5, ?_, xw_ch_fr hf (by omega) h7⟩
    · unfold xw_in at h3 ⊢
      rw [g1]
      exact h3
    · rw [f4, h6]
      unfold xw_lt
      rw [g1]
theorem xw_map_fr {nc : Nat} {st q q' : Nat → Nat} {sg pr a0 a1 ar : Nat → Int32} {p : List (Nat × Nat)} (h : ∀ e, e ∈ p → q' e.1 = q e.1) : p.map (xw_g nc st sg pr a0 a1 ar q') = p.map (xw_g nc st sg pr a0 a1 ar q) := by
  apply List.map_congr_left
  intro e he
  unfold xw_g
  rw [h e he]
theorem xw_goal_fr {nc : Nat} {st q q' : Nat → Nat} {sg pr a0 a1 ar : Nat → Int32} {kK kK' pc pc' pl pl' ph ph' ri ri' ql ql' : Nat → Int32} {m m' : Nat} (hm : m ≤ m') (hf : xw_fr q q' kK kK' pc pc' pl pl' ph ph' ri ri' ql ql' m) {g : ck_G}
    (h : xw_goal nc st sg pr a0 a1 ar q kK pc pl ph ri ql m g) : xw_goal nc st sg pr a0 a1 ar q' kK' pc' pl' ph' ri' ql' m' g := by
  obtain ⟨h1, h2, h3, h4, h5, h6, h7, h8⟩ := h
  obtain ⟨f1, f2, f3, f4, f5, f6, f7⟩ := hf g.1 h1
  have em := xw_map_fr (nc := nc) (st := st) (sg := sg) (pr := pr) (a0 := a0) (a1 := a1) (ar := ar) (q := q) (q' := q') (p := g.2.2) (fun e he => (hf e.1 (by have := (xw_ch_mem h4 e he).1; omega)).1)
  unfold xw_goal
  rw [f2, f6, f7, em]
  refine ⟨by omega, h2, ?_, xw_ch_fr hf h1 h4, h5, h6, h7, ?_⟩
  · unfold xw_in at h3 ⊢
    try dsimp only at h3 ⊢
    rw [f1]
    exact h3
  · unfold xw_g at h8 ⊢
    try dsimp only at h8 ⊢
    rw [f1]
    exact h8
theorem xw_stk_fr {nc : Nat} {st q q' : Nat → Nat} {sg pr a0 a1 ar : Nat → Int32} {kK kK' pc pc' pl pl' ph ph' ri ri' ql ql' oc oc' ol ol' : Nat → Int32} {m m' : Nat} (hm : m ≤ m') (hf : xw_fr q q' kK kK' pc pc' pl pl' ph ph' ri ri' ql ql' m) :
    ∀ {L : List ck_G}, (∀ j, j < L.length → oc' j = oc j ∧ ol' j = ol j) → xw_stk nc st sg pr a0 a1 ar q kK pc pl ph ri ql oc ol m L → xw_stk nc st sg pr a0 a1 ar q' kK' pc' pl' ph' ri' ql' oc' ol' m' L
  | [], _, _ => trivial
  | g :: R, ho, h => by
    obtain ⟨h1, h2, h3, h4⟩ := h
    obtain ⟨o1, o2⟩ := ho R.length (by rw [List.length_cons]; omega)
    have f1 := (hf g.1 h3.1).1
    refine ⟨by rw [o1]; exact h1, ?_, xw_goal_fr hm hf h3, xw_stk_fr hm hf (fun j hj => ho j (by rw [List.length_cons]; omega)) h4⟩
    rw [o2, h2]
    unfold xw_lt
    try dsimp only
    rw [f1]
theorem xg_ls_shift {sk d : Nat} : ∀ (n j : Nat), xg_ls (sk + d) n (j + d) = (xg_ls sk n j).map (fun l => l + d)
  | 0, _ => rfl
  | n + 1, j => by
    have ih := xg_ls_shift (sk := sk) (d := d) n (j + 1)
    have e : j + 1 + d = j + d + 1 := by omega
    rw [e] at ih
    by_cases z : j = sk
    · rw [xg_ls_t z, xg_ls_t (by omega)]
      exact ih
    · rw [xg_ls_f z, xg_ls_f (by omega), List.map_cons, ih]
theorem xw_stk_app {nc : Nat} {st q : Nat → Nat} {sg pr a0 a1 ar : Nat → Int32} {kK pc pl ph ri ql oc ol : Nat → Int32} {m copy F S : Nat} {p : List (Nat × Nat)} {R : List ck_G}
    (eF : F = 3 * q copy) (eS : S = st (q copy / 4)) (hR : xw_stk nc st sg pr a0 a1 ar q kK pc pl ph ri ql oc ol m R) :
    ∀ {ls : List Nat}, (∀ l, l ∈ ls → xw_goal nc st sg pr a0 a1 ar q kK pc pl ph ri ql m (copy, l + S, p)) → xg_rep oc ol (nI copy) R.length (ls.map (fun l => l + F)) →
      xw_stk nc st sg pr a0 a1 ar q kK pc pl ph ri ql oc ol m ((ls.map (fun l => l + S)).map (fun l => (copy, l, p)) ++ R)
  | [], _, _ => hR
  | l :: ls, hg, hr => by
    have e : ((ls.map (fun l => l + S)).map (fun l => ((copy, l, p) : ck_G)) ++ R).length = R.length + (ls.map (fun l => l + F)).length := by
      rw [List.length_append, List.length_map, List.length_map, List.length_map]; omega
    obtain ⟨r1, r2, r3⟩ := hr
    refine ⟨?_, ?_, hg l List.mem_cons_self, xw_stk_app eF eS hR (fun l' h' => hg l' (List.mem_cons_of_mem l h')) r3⟩
    · show oc ((ls.map (fun l => l + S)).map (fun l => ((copy, l, p) : ck_G)) ++ R).length = nI copy
      rw [e]
      exact r1
    · show ol ((ls.map (fun l => l + S)).map (fun l => ((copy, l, p) : ck_G)) ++ R).length = nI (xw_lt st q (copy, l + S))
      rw [e, r2]
      unfold xw_lt
      try dsimp only
      rw [← eS, eF]
      exact congrArg nI (by omega)
theorem xw_row {nc nl : Nat} {st q : Nat → Nat} {sg pr a0 a1 ar il ih : Nat → Int32} (hw : cd_wf nc nl st sg pr a0 a1 ar) (htab : xi_tab nc st sg pr a0 a1 ar il ih) {e : Nat × Nat} (hX : cg_RX nc st a0 a1 (q e.1)) (hin : xw_in st q e) :
    il (xw_lt st q e) = nI (xw_g nc st sg pr a0 a1 ar q e) ∧ xw_lt st q e < 96 ∧ cg_HX nc st sg pr a0 a1 ar (q e.1) (xw_g nc st sg pr a0 a1 ar q e) ∧ e.2 < st nc := by
  have hnc := hw.1
  obtain ⟨i1, i2⟩ := hin
  have hq := hX.1
  obtain ⟨b1, b2, b3⟩ := cd_en_bd hw (show q e.1 / 4 ≤ nc by omega)
  rw [cd_en_lt (by omega)] at b1 b2 b3
  have hst := cd_mono' hw (c := q e.1 / 4 + 1) (d := nc) (by omega) (Nat.le_refl _)
  have r := (htab _ hX).1 (e.2 - st (q e.1 / 4)) (by omega)
  have e1 : st (q e.1 / 4) + (e.2 - st (q e.1 / 4)) = e.2 := by omega
  rw [e1, if_pos i2] at r
  refine ⟨r, ?_, ⟨e.2, i1, i2, rfl⟩, by omega⟩
  unfold xw_lt
  omega
theorem xw_neg : ∀ K, K < 10 → nI K ^^^ 1 = nI (cq_neg K) := by decide
theorem cq_neg_lt {K : Nat} (h : K < 10) : cq_neg K < 10 := by
  unfold cq_neg; split <;> omega
section
variable {f_litCount f_clauseCount f_stepCount f_bufferSealed f_lastCheckStep f_keptCount f_proofKept f_openCount f_universeSize f_neededInstances f_givenLiterals : Int32} {a_litSign a_litPred a_litArg0 a_litArg1 a_clauseStart a_predArity a_stepKind a_stepA a_stepB a_binding a_keptKind a_keptA a_keptB a_keptInstance a_openCopy a_openLit a_parentCopy a_parentLit a_pathLength a_atomBase a_instanceLits a_instanceHolds a_literalHolds a_restInstances a_pathLiterals : Nat → Int32}
theorem xw_find {post : Int32 → Prop} {nc nl : Nat} {st q : Nat → Nat} {sg pr a0 a1 ar kK : Nat → Int32} (hw : cd_wf nc nl st sg pr a0 a1 ar) (htab : xi_tab nc st sg pr a0 a1 ar a_instanceLits a_instanceHolds)
    (h5 : cg_base pr ar (st nc) (cg_oc a0 a1 0 (st nc) && cg_oc a0 a1 1 (st nc)) 4 ≤ 5) {m : Nat} (hm : m < 10) :
    ∀ (p : List (Nat × Nat)) (c : Nat), xw_ch st q kK a_parentCopy a_parentLit a_pathLength p c → c < 256 → (∀ e, e ∈ p → cg_RX nc st a0 a1 (q e.1)) →
      (∀ n, n < p.length → xw_g nc st sg pr a0 a1 ar q (p.getD n (0, 0)) = m → post (nI (p.length - 1 - n))) → ((∀ e, e ∈ p → ¬ xw_g nc st sg pr a0 a1 ar q e = m) → post (-1)) →
      wX_findOnPath_16 post (nI m) f_litCount f_clauseCount f_stepCount f_bufferSealed f_lastCheckStep f_keptCount f_proofKept f_openCount f_universeSize f_neededInstances f_givenLiterals a_litSign a_litPred a_litArg0 a_litArg1 a_clauseStart a_predArity a_stepKind a_stepA a_stepB a_binding a_keptKind a_keptA a_keptB a_keptInstance a_openCopy a_openLit a_parentCopy a_parentLit a_pathLength a_atomBase a_instanceLits a_instanceHolds a_literalHolds a_restInstances a_pathLiterals (p.length + 1) (nI c) (nI p.length + (-1))
  | [], c, _, _, _, _, h0 => br_t (by decide) (h0 (fun e he => by cases he))
  | e :: p, c, hch, hc, hX, h1, h0 => by
    obtain ⟨c1, c2, c3, c4, c5, c6, c7⟩ := hch
    have hlen := (xw_ch_len c7).2
    obtain ⟨r1, r2, r3, _⟩ := xw_row hw htab (hX e List.mem_cons_self) c3
    have hlt := cg_HX_lt hw h5 (hX e List.mem_cons_self).1 r3
    have hin : vp_in (nI c) 256 := vp_in_nI hc (by decide)
    rw [List.length_cons, pk_m1]
    refine br_f (nI_pos (by omega)) ⟨hin, ?_⟩
    rw [nI_clamp (show c < 2 ^ 31 by omega), c5, c6, nI_clamp (show xw_lt st q e < 2 ^ 31 by omega), r1]
    refine ⟨vp_in_nI r2 (by decide), pk_eq (xw_g nc st sg pr a0 a1 ar q e) m (fun z => ?_) (fun z => ⟨hin, nm_e (nm_e ?_)⟩)⟩
    · have := h1 0 (by rw [List.length_cons]; omega) z
      rw [List.length_cons] at this
      exact this
    · refine xw_find hw htab h5 hm p e.1 c7 (by omega) (fun e' he' => hX e' (List.mem_cons_of_mem e he')) (fun n hn z2 => ?_) (fun hall => h0 (fun e' he' => ?_))
      · have := h1 (n + 1) (by rw [List.length_cons]; omega) (by rw [List.getD_cons_succ]; exact z2)
        rw [List.length_cons] at this
        have e2 : p.length + 1 - 1 - (n + 1) = p.length - 1 - n := by omega
        rw [e2] at this
        exact this
      · rcases List.mem_cons.mp he' with y | y
        · rw [y]
          exact z
        · exact hall e' y
theorem xw_copy {post : St1 → Prop} {i inst : Nat} {x1 x3 : Int32} (hi : i < 256) (hq : inst < 32)
    (h : post (f_litCount, f_clauseCount, f_stepCount, f_bufferSealed, f_lastCheckStep, f_keptCount, f_proofKept, f_openCount, f_universeSize, f_neededInstances, f_givenLiterals, a_litSign, a_litPred, a_litArg0, a_litArg1, a_clauseStart, a_predArity, a_stepKind, a_stepA, a_stepB, a_binding, upd a_keptKind i x1, upd a_keptA i (nI (inst / 4)), upd a_keptB i x3, upd a_keptInstance i (nI inst), a_openCopy, a_openLit, a_parentCopy, a_parentLit, a_pathLength, a_atomBase, a_instanceLits, a_instanceHolds, a_literalHolds, upd a_restInstances i (f_neededInstances &&& (((1 : Int32) <<< (nI inst &&& 31)) ^^^ (-1))), upd a_pathLiterals i f_givenLiterals)) :
    wpX_keepCopy post (f_litCount, f_clauseCount, f_stepCount, f_bufferSealed, f_lastCheckStep, f_keptCount, f_proofKept, f_openCount, f_universeSize, f_neededInstances, f_givenLiterals, a_litSign, a_litPred, a_litArg0, a_litArg1, a_clauseStart, a_predArity, a_stepKind, a_stepA, a_stepB, a_binding, a_keptKind, a_keptA, a_keptB, a_keptInstance, a_openCopy, a_openLit, a_parentCopy, a_parentLit, a_pathLength, a_atomBase, a_instanceLits, a_instanceHolds, a_literalHolds, a_restInstances, a_pathLiterals) (nI i) x1 (nI inst) x3 := by
  have hin : vp_in (nI i) 256 := vp_in_nI hi (by decide)
  have ed : nI inst / 4 = nI (inst / 4) := by
    rw [show (4 : Int32) = nI 4 from rfl, pk_div (by omega) (by omega) (by omega)]
  refine ⟨hin, ?_⟩
  rw [nI_clamp (show i < 2 ^ 31 by omega), ed]
  exact nm_e ⟨by decide, hin, nm_e ⟨hin, nm_e ⟨hin, nm_e ⟨hin, nm_e ⟨hin, nm_e h⟩⟩⟩⟩⟩
end
end
section
/-- the writer's state before step m, with the goals L -/
def xw_inv (nc : Nat) (st : Nat → Nat) (sg pr a0 a1 ar : Nat → Int32) (m : Nat) (L : List ck_G) (q : Nat → Nat) (kK kA kB kI oc ol pc pl ph ri ql : Nat → Int32) : Prop :=
  1 ≤ m ∧ m + ck_pot L ≤ 190 ∧ ph 0 = 0 ∧ kK 0 = 0 ∧ kA 0 = nI (q 0 / 4) ∧ (∀ j, j < m → ¬ kK j = 2 → kI j = nI (q j) ∧ cg_RX nc st a0 a1 (q j)) ∧
  xw_stk nc st sg pr a0 a1 ar q kK pc pl ph ri ql oc ol m L ∧
  ck_rch nc st (cd_mk (st nc) sg) (cd_mk (st nc) pr) (cd_mk (st nc) a0) (cd_mk (st nc) a1) kK kA kB (fun j => q j / 2 % 2) (fun j => q j % 2) (ck_gl 0 16 [] (st (q 0 / 4 + 1) - st (q 0 / 4)) (st (q 0 / 4))) m L
theorem xw_pot_len {nc : Nat} {st q : Nat → Nat} {sg pr a0 a1 ar : Nat → Int32} {kK pc pl ph ri ql oc ol : Nat → Int32} {m : Nat} : ∀ {L : List ck_G}, xw_stk nc st sg pr a0 a1 ar q kK pc pl ph ri ql oc ol m L → L.length ≤ ck_pot L
  | [], _ => Nat.le_refl 0
  | g :: R, h => by
    have h1 := xw_pot_len h.2.2.2
    have ho := h.2.2.1.2.2.2.2.1
    have l5 := cq_cnt_le (g.2.2.map (xw_g nc st sg pr a0 a1 ar q))
    rw [cq_cnt_ok ho, List.length_map] at l5
    have h2 := cq_w_pos l5
    show (g :: R).length ≤ cq_w g.2.2.length + ck_pot R
    rw [List.length_cons]
    omega
theorem xw_gmem : ∀ (p : List (Nat × Nat)) (n : Nat), n < p.length → p.getD n (0, 0) ∈ p
  | [], n, h => absurd h (Nat.not_lt_zero n)
  | e :: p, 0, _ => by
    show e ∈ e :: p
    exact List.mem_cons_self
  | e :: p, n + 1, h => by
    rw [List.getD_cons_succ]
    exact List.mem_cons_of_mem e (xw_gmem p n (by rw [List.length_cons] at h; omega))
/-- a goal on top that is reduced -/
theorem xw_red_inv {nc nl : Nat} {st : Nat → Nat} {sg pr a0 a1 ar : Nat → Int32} (hw : cd_wf nc nl st sg pr a0 a1 ar) {m c l n : Nat} {p : List (Nat × Nat)} {R : List ck_G} {q : Nat → Nat} {kK kA kB kI oc ol pc pl ph ri ql : Nat → Int32}
    (hI : xw_inv nc st sg pr a0 a1 ar m ((c, l, p) :: R) q kK kA kB kI oc ol pc pl ph ri ql) (hn : n < p.length) (hg : xw_g nc st sg pr a0 a1 ar q (p.getD n (0, 0)) = cq_neg (xw_g nc st sg pr a0 a1 ar q (c, l))) {x : Int32} :
    xw_inv nc st sg pr a0 a1 ar (m + 1) R q (upd kK m 2) (upd kA m (nI (p.length - 1 - n))) (upd kB m x) kI oc ol pc pl ph ri ql := by
  obtain ⟨h1, h2, h3, h4, h5, h6, ⟨s1, s2, s3, s4⟩, h8⟩ := hI
  obtain ⟨g1, g2, g3, g4, g5, g6, g7, g8⟩ := s3
  try dsimp only at g1 g2 g3 g4 g5 g6 g7 g8
  have l5 := cq_cnt_le (p.map (xw_g nc st sg pr a0 a1 ar q))
  rw [cq_cnt_ok g5, List.length_map] at l5
  have wp := cq_w_pos l5
  have hpot : ck_pot ((c, l, p) :: R) = cq_w p.length + ck_pot R := rfl
  have hmem : p.getD n (0, 0) ∈ p := xw_gmem p n hn
  obtain ⟨e1, e2, e3⟩ := xw_ch_mem g4 _ hmem
  have hcX := (h6 c g1 g2).2
  have heX := (h6 _ (by omega) e2).2
  have kk : ∀ j, j < m → upd kK m 2 j = kK j := fun j hj => pk_un (by omega)
  have agr : ck_agr kK kA kB (fun j => q j / 2 % 2) (fun j => q j % 2) (upd kK m 2) (upd kA m (nI (p.length - 1 - n))) (upd kB m x) (fun j => q j / 2 % 2) (fun j => q j % 2) m := by
    intro j hj
    rw [pk_un (by omega), pk_un (by omega), pk_un (by omega)]
    exact ⟨rfl, rfl, rfl, fun _ => ⟨rfl, rfl⟩⟩
  refine ⟨by omega, by omega, h3, ?_, ?_, fun j hj hK => ?_, ?_, ?_⟩
  · rw [kk 0 (by omega)]
    exact h4
  · rw [pk_un (by omega)]
    exact h5
  · by_cases e : j = m
    · subst e
      rw [pk_us] at hK
      exact absurd rfl hK
    · rw [kk j (by omega)] at hK
      exact h6 j (by omega) hK
  · refine xw_stk_fr (by omega) (fun j hj => ⟨rfl, kk j hj, rfl, rfl, rfl, rfl, rfl⟩) (fun _ _ => ⟨rfl, rfl⟩) s4
  · refine ck_rch_red h8 h1 agr (e := p.length - 1 - n) (c2 := (p.getD n (0, 0)).1) (l2 := (p.getD n (0, 0)).2) pk_us pk_us (by omega) (by omega) ?_ g1 g2 (by omega) e2 (fun j hj hK => ⟨by omega, by omega⟩) ?_
    · have ee : p.length - 1 - (p.length - 1 - n) = n := by omega
      rw [ee]
    · have l1 := (show l < st nc by
        have := cd_mono' hw (c := q c / 4 + 1) (d := nc) (by have := hcX.1; omega) (Nat.le_refl _)
        have := g3.2
        try dsimp only at this
        omega)
      have l2 := (show (p.getD n (0, 0)).2 < st nc by
        have := cd_mono' hw (c := q (p.getD n (0, 0)).1 / 4 + 1) (d := nc) (by have := heX.1; omega) (Nat.le_refl _)
        have := e3.2
        omega)
      refine cg_conn hw l1 l2 hcX.2.1 hcX.2.2 heX.2.1 heX.2.2 ?_
      show xw_g nc st sg pr a0 a1 ar q (c, l) = cq_neg (xw_g nc st sg pr a0 a1 ar q (p.getD n (0, 0)))
      rw [hg, cq_neg_neg]
/-- a goal on top that is extended by the ground clause k / 3 -/
theorem xw_ext_inv {nc nl : Nat} {st : Nat → Nat} {sg pr a0 a1 ar il ih : Nat → Int32} (hw : cd_wf nc nl st sg pr a0 a1 ar) (htab : xi_tab nc st sg pr a0 a1 ar il ih)
    (h5 : cg_base pr ar (st nc) (cg_oc a0 a1 0 (st nc) && cg_oc a0 a1 1 (st nc)) 4 ≤ 5) {m c l k : Nat} {p : List (Nat × Nat)} {R : List ck_G} {q : Nat → Nat} {kK kA kB kI oc ol pc pl ph ri ql : Nat → Int32} {N G : Int32}
    (hI : xw_inv nc st sg pr a0 a1 ar m ((c, l, p) :: R) q kK kA kB kI oc ol pc pl ph ri ql) (hno : ∀ e, e ∈ p → ¬ xw_g nc st sg pr a0 a1 ar q e = cq_neg (xw_g nc st sg pr a0 a1 ar q (c, l)))
    (eG : G = ql c ||| ((1 : Int32) <<< (nI (xw_g nc st sg pr a0 a1 ar q (c, l)) &&& 31))) (hsub : ∀ r, xs_R N r → xs_R (ri c) r) (hun : ¬ cq_sat (cg_HX nc st sg pr a0 a1 ar) (xs_R N) (xs_G G))
    (hmin : ∀ r, xs_R N r → cq_sat (cg_HX nc st sg pr a0 a1 ar) (cq_del (xs_R N) r) (xs_G G)) (hk : k < 96) (hkN : bt N (k / 3) = true) (hkl : il k = nI (cq_neg (xw_g nc st sg pr a0 a1 ar q (c, l)))) :
    (k / 3 < 4 * nc ∧ st (k / 3 / 4) + k % 3 < st (k / 3 / 4 + 1)) ∧
    ∀ oc' ol' : Nat → Int32, (∀ j, j < R.length → oc' j = oc j ∧ ol' j = ol j) → xg_rep oc' ol' (nI m) R.length (xg_ls k (st (k / 3 / 4 + 1) - st (k / 3 / 4)) (3 * (k / 3))) →
      xw_inv nc st sg pr a0 a1 ar (m + 1) (ck_gl m (st (k / 3 / 4) + k % 3) ((c, l) :: p) (st (k / 3 / 4 + 1) - st (k / 3 / 4)) (st (k / 3 / 4)) ++ R) (cd_put q m (k / 3))
        (upd kK m 1) (upd kA m (nI (k / 3 / 4))) (upd kB m (nI (k % 3))) (upd kI m (nI (k / 3))) oc' ol' (upd pc m (nI c)) (upd pl m (nI (xw_lt st q (c, l)))) (upd ph m (nI (p.length + 1)))
        (upd ri m (N &&& (((1 : Int32) <<< (nI (k / 3) &&& 31)) ^^^ (-1)))) (upd ql m G) := by
  obtain ⟨h1, h2, h3, h4, h5', h6, ⟨s1, s2, s3, s4⟩, h8⟩ := hI
  obtain ⟨g1, g2, g3, g4, g5, g6, g7, g8⟩ := s3
  try dsimp only at g1 g2 g3 g4 g5 g6 g7 g8
  have hnc := hw.1
  have hcX := (h6 c g1 g2).2
  obtain ⟨r1, r2, r3, r4⟩ := xw_row (e := (c, l)) hw htab hcX g3
  try dsimp only at r3 r4
  have hK10 := cg_HX_lt hw h5 hcX.1 r3
  generalize hKK : xw_g nc st sg pr a0 a1 ar q (c, l) = K at *
  have hn10 := cq_neg_lt hK10
  have hRi : xs_R N (k / 3) := ⟨by omega, hkN⟩
  have hiX := g7 _ (hsub _ hRi)
  have hi4 := hiX.1
  obtain ⟨b1, b2, b3⟩ := cd_en_bd hw (show k / 3 / 4 ≤ nc by omega)
  rw [cd_en_lt (by omega)] at b1 b2 b3
  have hst := cd_mono' hw (c := k / 3 / 4 + 1) (d := nc) (by omega) (Nat.le_refl _)
  have row := (htab _ hiX).1 (k % 3) (by omega)
  have ek : 3 * (k / 3) + k % 3 = k := by omega
  rw [ek, hkl] at row
  have hlt : st (k / 3 / 4) + k % 3 < st (k / 3 / 4 + 1) := by
    apply Classical.byContradiction
    intro z
    rw [if_neg z] at row
    have := congrArg Int32.toInt row
    rw [nI_toInt (by omega), show (-1 : Int32).toInt = -1 from by decide] at this
    omega
  rw [if_pos hlt] at row
  have hpl := cg_HX_lt (m := cg_L sg pr a0 a1 ar (st nc) (st (k / 3 / 4) + k % 3) (k / 3 / 2 % 2) (k / 3 % 2)) hw h5 hi4 ⟨_, by omega, hlt, rfl⟩
  rw [nI_eq (by omega) (by omega)] at row
  have hKm : K ∉ p.map (xw_g nc st sg pr a0 a1 ar q) := fun z => cq_goal_new g8 ((g6 K).mpr z)
  have hKn : cq_neg K ∉ p.map (xw_g nc st sg pr a0 a1 ar q) := by
    intro z
    obtain ⟨e, he, ee⟩ := List.mem_map.mp z
    exact hno e he ee
  obtain ⟨len4, ok2⟩ := cq_len4 g5 (by omega) hKm hKn
  rw [List.length_map] at len4
  refine ⟨⟨hi4, hlt⟩, fun oc' ol' hag hrep => ?_⟩
  have qlt : ∀ j, j < m → cd_put q m (k / 3) j = q j := fun j hj => cd_put_n (by omega)
  have kk : ∀ j, j < m → upd kK m 1 j = kK j := fun j hj => pk_un (by omega)
  have fr : xw_fr q (cd_put q m (k / 3)) kK (upd kK m 1) pc (upd pc m (nI c)) pl (upd pl m (nI (xw_lt st q (c, l)))) ph (upd ph m (nI (p.length + 1))) ri (upd ri m (N &&& (((1 : Int32) <<< (nI (k / 3) &&& 31)) ^^^ (-1)))) ql (upd ql m G) m := by
    intro j hj
    rw [pk_un (by omega), pk_un (by omega), pk_un (by omega), pk_un (by omega), pk_un (by omega), pk_un (by omega)]
    exact ⟨qlt j hj, rfl, rfl, rfl, rfl, rfl, rfl⟩
  have agr : ck_agr kK kA kB (fun j => q j / 2 % 2) (fun j => q j % 2) (upd kK m 1) (upd kA m (nI (k / 3 / 4))) (upd kB m (nI (k % 3))) (fun j => cd_put q m (k / 3) j / 2 % 2) (fun j => cd_put q m (k / 3) j % 2) m := by
    intro j hj
    rw [pk_un (by omega), pk_un (by omega), pk_un (by omega)]
    refine ⟨rfl, rfl, rfl, fun _ => ?_⟩
    try dsimp only
    rw [qlt j hj]
    exact ⟨rfl, rfl⟩
  have q0 : cd_put q m (k / 3) 0 = q 0 := qlt 0 (by omega)
  have hX' : ∀ j, j < m + 1 → ¬ upd kK m 1 j = 2 → upd kI m (nI (k / 3)) j = nI (cd_put q m (k / 3) j) ∧ cg_RX nc st a0 a1 (cd_put q m (k / 3) j) := by
    intro j hj hK
    by_cases e : j = m
    · subst e
      rw [pk_us, cd_put_s]
      exact ⟨rfl, hiX⟩
    · rw [kk j (by omega)] at hK
      rw [pk_un e, cd_put_n e]
      exact h6 j (by omega) hK
  -- the goals of the new copy
  have em : ((c, l) :: p).map (xw_g nc st sg pr a0 a1 ar (cd_put q m (k / 3))) = K :: p.map (xw_g nc st sg pr a0 a1 ar q) := by
    rw [xw_map_fr (q := q) (fun e he => ?_), List.map_cons, hKK]
    rcases List.mem_cons.mp he with z | z
    · rw [z]
      exact qlt c g1
    · exact qlt e.1 (by have := (xw_ch_mem g4 e z).1; omega)
  have hGm : ∀ x, xs_G G x ↔ x ∈ K :: p.map (xw_g nc st sg pr a0 a1 ar q) := by
    intro x
    rw [eG, xs_G_add hK10 x, List.mem_cons]
    unfold cq_add
    rw [g6 x]
    exact Or.comm
  have newg : ∀ i', i' < st (k / 3 / 4 + 1) - st (k / 3 / 4) → xw_goal nc st sg pr a0 a1 ar (cd_put q m (k / 3)) (upd kK m 1) (upd pc m (nI c)) (upd pl m (nI (xw_lt st q (c, l)))) (upd ph m (nI (p.length + 1))) (upd ri m (N &&& (((1 : Int32) <<< (nI (k / 3) &&& 31)) ^^^ (-1)))) (upd ql m G) (m + 1) (m, i' + st (k / 3 / 4), (c, l) :: p) := by
    intro i' hi'
    unfold xw_goal
    try dsimp only
    rw [em, pk_us, pk_us, pk_us]
    refine ⟨by omega, by decide, ?_, ?_, ok2, hGm, fun r hr => g7 r (hsub r ((xs_R_del (by omega) r).mp hr).1), ?_⟩
    · unfold xw_in
      try dsimp only
      rw [cd_put_s]
      exact ⟨by omega, by omega⟩
    · refine ⟨g1, by rw [kk c g1]; exact g2, ?_, pk_us, pk_us, ?_, xw_ch_fr fr g1 g4⟩
      · unfold xw_in at g3 ⊢
        try dsimp only at g3 ⊢
        rw [qlt c g1]
        exact g3
      · rw [pk_us]
        unfold xw_lt
        try dsimp only
        rw [qlt c g1]
    · refine cq_goal_congr (fun r => (xs_R_del (by omega) r).symm) (fun _ => Iff.rfl) (cq_goal_next hun (hmin _ hRi) ⟨i' + st (k / 3 / 4), by omega, by omega, ?_⟩)
      unfold xw_g
      try dsimp only
      rw [cd_put_s]
  have ls0 : xg_ls (st (k / 3 / 4) + k % 3) (st (k / 3 / 4 + 1) - st (k / 3 / 4)) (st (k / 3 / 4)) = (xg_ls (k % 3) (st (k / 3 / 4 + 1) - st (k / 3 / 4)) 0).map (fun l => l + st (k / 3 / 4)) := by
    have := xg_ls_shift (sk := k % 3) (d := st (k / 3 / 4)) (st (k / 3 / 4 + 1) - st (k / 3 / 4)) 0
    rw [Nat.zero_add, Nat.add_comm (k % 3)] at this
    exact this
  have ls1 : xg_ls k (st (k / 3 / 4 + 1) - st (k / 3 / 4)) (3 * (k / 3)) = (xg_ls (k % 3) (st (k / 3 / 4 + 1) - st (k / 3 / 4)) 0).map (fun l => l + 3 * (k / 3)) := by
    have := xg_ls_shift (sk := k % 3) (d := 3 * (k / 3)) (st (k / 3 / 4 + 1) - st (k / 3 / 4)) 0
    rw [Nat.zero_add, Nat.add_comm (k % 3), ek] at this
    exact this
  have glen : (ck_gl m (st (k / 3 / 4) + k % 3) ((c, l) :: p) (st (k / 3 / 4 + 1) - st (k / 3 / 4)) (st (k / 3 / 4))).length ≤ 2 := by
    have := ck_gl_len' (copy := m) (sk := st (k / 3 / 4) + k % 3) (p := (c, l) :: p) (st (k / 3 / 4 + 1) - st (k / 3 / 4)) (st (k / 3 / 4)) (by omega) (by omega)
    omega
  have hpot : ck_pot ((c, l, p) :: R) = cq_w p.length + ck_pot R := rfl
  have hw1 := cq_w_succ len4
  refine ⟨by omega, ?_, ?_, ?_, ?_, hX', ?_, ?_⟩
  · rw [ck_pot_app, ck_pot_gl, List.length_cons]
    have : (ck_gl m (st (k / 3 / 4) + k % 3) ((c, l) :: p) (st (k / 3 / 4 + 1) - st (k / 3 / 4)) (st (k / 3 / 4))).length * cq_w (p.length + 1) ≤ 2 * cq_w (p.length + 1) := Nat.mul_le_mul_right _ glen
    omega
  · rw [pk_un (by omega)]
    exact h3
  · rw [kk 0 (by omega)]
    exact h4
  · rw [pk_un (by omega), q0]
    exact h5'
  · rw [xg_gl, ls0]
    rw [ls1] at hrep
    refine xw_stk_app (by rw [cd_put_s]) (by rw [cd_put_s]) (xw_stk_fr (by omega) fr hag s4) (fun i' hi' => ?_) hrep
    have := xg_ls_mem hi'
    exact newg i' (by omega)
  · rw [q0]
    refine ck_rch_ext h8 h1 agr (a := k / 3 / 4) (bb := k % 3) pk_us pk_us pk_us hnc (by omega) (by omega) (by omega) g1 g2 (fun j hj hK => ⟨by omega, by omega⟩) ?_
    have hcX' := hX' c (by omega) (by rw [kk c g1]; exact g2)
    have hmX' := hX' m (by omega) (by rw [pk_us]; decide)
    refine cg_conn hw r4 (show st (k / 3 / 4) + k % 3 < st nc by omega) hcX'.2.2.1 hcX'.2.2.2 hmX'.2.2.1 hmX'.2.2.2 ?_
    show xw_g nc st sg pr a0 a1 ar (cd_put q m (k / 3)) (c, l) = cq_neg (xw_g nc st sg pr a0 a1 ar (cd_put q m (k / 3)) (m, st (k / 3 / 4) + k % 3))
    have x1 : xw_g nc st sg pr a0 a1 ar (cd_put q m (k / 3)) (c, l) = K := by
      rw [← hKK]
      unfold xw_g
      try dsimp only
      rw [qlt c g1]
    have x2 : xw_g nc st sg pr a0 a1 ar (cd_put q m (k / 3)) (m, st (k / 3 / 4) + k % 3) = cq_neg K := by
      unfold xw_g
      try dsimp only
      rw [cd_put_s]
      exact row.symm
    rw [x1, x2, cq_neg_neg]
end
section
section
variable {f_litCount f_clauseCount f_stepCount f_bufferSealed f_lastCheckStep f_keptCount f_proofKept f_openCount f_universeSize f_neededInstances f_givenLiterals : Int32} {a_litSign a_litPred a_litArg0 a_litArg1 a_clauseStart a_predArity a_stepKind a_stepA a_stepB a_binding a_keptKind a_keptA a_keptB a_keptInstance a_openCopy a_openLit a_parentCopy a_parentLit a_pathLength a_atomBase a_instanceLits a_instanceHolds a_literalHolds a_restInstances a_pathLiterals : Nat → Int32}
theorem xw_loop {post : St1 → Prop} {nc nl : Nat} {st : Nat → Nat} (hw : cd_wf nc nl st a_litSign a_litPred a_litArg0 a_litArg1 a_predArity) (hcs : ∀ c, c ≤ nc → a_clauseStart c = nI (st c))
    (hfx : ∀ ph : Nat → Int32, ph 0 = 0 → cr_fix a_literalHolds ph)
    (h5 : cg_base a_litPred a_predArity (st nc) (cg_oc a_litArg0 a_litArg1 0 (st nc) && cg_oc a_litArg0 a_litArg1 1 (st nc)) 4 ≤ 5)
    (htab : xi_tab nc st a_litSign a_litPred a_litArg0 a_litArg1 a_predArity a_instanceLits a_instanceHolds)
    (h : ∀ (n : Nat) (x0 x2 x3 : Int32) (kK kA kB kI oc ol pc pl ph ri ql : Nat → Int32), ph 0 = 0 → cr_kx nc st a_litSign a_litPred a_litArg0 a_litArg1 n kK kA kB kI →
      post (nI nl, nI nc, f_stepCount, f_bufferSealed, f_lastCheckStep, nI n, f_proofKept, x0, f_universeSize, x2, x3, a_litSign, a_litPred, a_litArg0, a_litArg1, a_clauseStart, a_predArity, a_stepKind, a_stepA, a_stepB, a_binding, kK, kA, kB, kI, oc, ol, pc, pl, ph, a_atomBase, a_instanceLits, a_instanceHolds, a_literalHolds, ri, ql)) :
    ∀ (r m : Nat) (L : List ck_G) (q : Nat → Nat) (x0 x2 x3 : Int32) (kK kA kB kI oc ol pc pl ph ri ql : Nat → Int32), ck_pot L ≤ r → x0 = nI L.length →
      xw_inv nc st a_litSign a_litPred a_litArg0 a_litArg1 a_predArity m L q kK kA kB kI oc ol pc pl ph ri ql →
      wX_writeProof_35 post (r + 1) (nI m) (nI nl) (nI nc) f_stepCount f_bufferSealed f_lastCheckStep f_keptCount f_proofKept x0 f_universeSize x2 x3 a_litSign a_litPred a_litArg0 a_litArg1 a_clauseStart a_predArity a_stepKind a_stepA a_stepB a_binding kK kA kB kI oc ol pc pl ph a_atomBase a_instanceLits a_instanceHolds a_literalHolds ri ql := by
  have hnc := hw.1
  intro r
  induction r with
  | zero =>
    intro m L q x0 x2 x3 kK kA kB kI oc ol pc pl ph ri ql hr ex hI
    have hlen := xw_pot_len hI.2.2.2.2.2.2.1
    have hL : L = [] := List.eq_nil_of_length_eq_zero (by omega)
    subst hL ex
    obtain ⟨h1, h2, h3, h4, h6, h7, h8, h9⟩ := hI
    have fin := h m (nI 0) x2 x3 kK kA kB kI oc ol pc pl ph ri ql h3 ⟨q, by omega, fun j hj hK => ⟨by have := (h7 j hj hK).2.1; omega, (h7 j hj hK).1⟩, ck_rch_end h1 h4 h6 hnc (by have := (h7 0 (by omega) (by rw [h4]; decide)).2.1; omega) h9⟩
    exact br_f (nI_ge (b := 256) (by omega) (by decide)) (br_t (by decide) fin)
  | succ r IH =>
    intro m L q x0 x2 x3 kK kA kB kI oc ol pc pl ph ri ql hr ex hI
    subst ex
    have hlen := xw_pot_len hI.2.2.2.2.2.2.1
    have hm2 := hI.2.1
    refine br_f (nI_ge (b := 256) (by omega) (by decide)) ?_
    match L, hI, hr, hlen, hm2 with
    | [], hI, _, _, _ =>
      obtain ⟨h1, h2, h3, h4, h6, h7, h8, h9⟩ := hI
      have fin := h m (nI 0) x2 x3 kK kA kB kI oc ol pc pl ph ri ql h3 ⟨q, by omega, fun j hj hK => ⟨by have := (h7 j hj hK).2.1; omega, (h7 j hj hK).1⟩, ck_rch_end h1 h4 h6 hnc (by have := (h7 0 (by omega) (by rw [h4]; decide)).2.1; omega) h9⟩
      exact br_t (by decide) fin
    | (c, l, p) :: R, hI, hr, hlen, hm2 =>
      obtain ⟨h1, h2, h3, h4, h6, h7, ⟨s1, s2, s3, s4⟩, h9⟩ := id hI
      obtain ⟨g1, g2, g3, g4, g5, g6, g7, g8⟩ := s3
      try dsimp only at g1 g2 g3 g4 g5 g6 g7 g8 s1 s2
      rw [List.length_cons] at hlen
      have hpot : ck_pot ((c, l, p) :: R) = cq_w p.length + ck_pot R := rfl
      have l5 := cq_cnt_le (p.map (xw_g nc st a_litSign a_litPred a_litArg0 a_litArg1 a_predArity q))
      rw [cq_cnt_ok g5, List.length_map] at l5
      have wp := cq_w_pos l5
      have hcX := (h7 c g1 g2).2
      obtain ⟨r1, r2, r3, r4⟩ := xw_row (e := (c, l)) hw htab hcX g3
      have hK10 := cg_HX_lt hw h5 hcX.1 r3
      have hinR : vp_in (nI R.length) 258 := vp_in_nI (by omega) (by decide)
      refine br_f (nI_nle (by rw [List.length_cons]; omega) (by rw [List.length_cons]; omega)) ?_
      refine nm_r (by rw [List.length_cons]; exact nI_pred R.length) ⟨hinR, hinR, ?_⟩
      rw [nI_clamp (show R.length < 2 ^ 31 by omega), s1, s2, nI_clamp (show xw_lt st q (c, l) < 2 ^ 31 by omega), r1, xw_neg _ hK10]
      refine ⟨vp_in_nI r2 (by decide), vp_in_nI (show c < 256 by omega) (by decide), ?_⟩
      rw [nI_clamp (show c < 2 ^ 31 by omega), (xw_ch_len g4).1]
      refine nm_e (nm_r (Int32.sub_eq_add_neg _ _) ⟨_, xw_find hw htab h5 (cq_neg_lt hK10) p c g4 (by omega) (fun e he => ?_) (fun n hn hg => ?_) (fun hno => ?_)⟩)
      · obtain ⟨e1, e2, _⟩ := xw_ch_mem g4 e he
        exact (h7 e.1 (by omega) e2).2
      · -- a reduction
        have hne : ¬ nI (p.length - 1 - n) = -1 := by
          intro z
          have := congrArg Int32.toInt z
          rw [nI_toInt (by omega), show (-1 : Int32).toInt = -1 from by decide] at this
          omega
        have hinm : vp_in (nI m) 256 := vp_in_nI (by omega) (by decide)
        refine br_f hne ⟨hinm, ?_⟩
        rw [nI_clamp (show m < 2 ^ 31 by omega)]
        refine nm_e ⟨hinm, nm_e ⟨hinm, nm_e (nm_r (nI_1 m) ?_)⟩⟩
        exact IH (m + 1) R q _ _ _ _ _ _ _ _ _ _ _ _ _ _ (by omega) rfl (xw_red_inv hw hI hn hg)
      · -- an extension
        refine br_t rfl ⟨hinR, hinR, ?_⟩
        refine ⟨vp_in_nI r2 (by decide), ?_⟩
        rw [nI_clamp (show xw_lt st q (c, l) < 2 ^ 31 by omega), r1, nI_clamp (show c < 2 ^ 31 by omega)]
        have hinc : vp_in (nI c) 256 := vp_in_nI (by omega) (by decide)
        refine nm_e ⟨hinc, nm_e ⟨hinc, nm_e ?_⟩⟩
        have hGa := xs_G_add (G := ql c) hK10
        refine xs_keep hw (hfx ph h3) h5 htab g7 (fun z => g8.2 (cq_sat_mono (fun _ y => y) (fun k y => (hGa k).mpr y) z)) (fun N hsub hun hmin => ?_)
        have hun2 : ¬ cq_sat (cg_HX nc st a_litSign a_litPred a_litArg0 a_litArg1 a_predArity) (xs_R N) (cq_add (xs_G (ql c)) (xw_g nc st a_litSign a_litPred a_litArg0 a_litArg1 a_predArity q (c, l))) :=
          fun z => hun (cq_sat_mono (fun _ y => y) (fun k y => (hGa k).mp y) z)
        have hnot : ¬ xs_G (ql c) (cq_neg (xw_g nc st a_litSign a_litPred a_litArg0 a_litArg1 a_predArity q (c, l))) := by
          intro z
          obtain ⟨e, he, ee⟩ := List.mem_map.mp ((g6 _).mp z)
          exact hno e he ee
        obtain ⟨i0, hi0, j0, j1, j2, j3⟩ := cq_partner g8.1 hun2 hsub hnot
        have hX0 := g7 _ (hsub _ hi0)
        have hX04 := hX0.1
        obtain ⟨b1, b2, b3⟩ := cd_en_bd hw (show i0 / 4 ≤ nc by omega)
        rw [cd_en_lt (by omega)] at b1 b2 b3
        have k0d : (3 * i0 + (j0 - st (i0 / 4))) / 3 = i0 := by omega
        have hil0 : a_instanceLits (3 * i0 + (j0 - st (i0 / 4))) = nI (cq_neg (xw_g nc st a_litSign a_litPred a_litArg0 a_litArg1 a_predArity q (c, l))) := by
          have row := (htab _ hX0).1 (j0 - st (i0 / 4)) (by omega)
          have ej : st (i0 / 4) + (j0 - st (i0 / 4)) = j0 := by omega
          rw [ej, if_pos j2, ← j3] at row
          exact row
        rw [xw_neg _ hK10]
        refine xs_find (k0 := 3 * i0 + (j0 - st (i0 / 4))) (by omega) (by rw [k0d]; exact hi0.2) hil0 (fun k hk hkN hkl => ?_)
        obtain ⟨⟨x4, xlt⟩, hinv⟩ := xw_ext_inv hw htab h5 hI hno rfl hsub hun hmin hk hkN hkl
        have e3 : nI k / 3 = nI (k / 3) := by
          rw [show (3 : Int32) = nI 3 from rfl, pk_div (by omega) (by omega) (by omega)]
        have e33 : 3 * nI (k / 3) = nI (3 * (k / 3)) := by
          rw [show (3 : Int32) = nI 3 from rfl, pk_mul]
        have esub : nI k - nI (3 * (k / 3)) = nI (k % 3) := by
          rw [pk_sub (by omega)]
          exact congrArg nI (by omega)
        refine ⟨by decide, nm_r e3 (nm_r e33 ?_)⟩
        rw [esub]
        refine xw_copy (show m < 256 by omega) (by omega) ?_
        refine xj_par (show m < 256 by omega) (show c < 256 by omega) (xw_ch_len g4).1 ?_
        refine ⟨by decide, ?_⟩
        have e34 : nI (k / 3) / 4 = nI (k / 3 / 4) := by
          rw [show (4 : Int32) = nI 4 from rfl, pk_div (by omega) (by omega) (by omega)]
        rw [e34]
        refine xl_len hw hcs (by omega) ?_
        rw [cd_en_lt (show k / 3 / 4 < nc by omega)]
        obtain ⟨d1, d2, d3⟩ := cd_en_bd hw (show k / 3 / 4 ≤ nc by omega)
        rw [cd_en_lt (by omega)] at d1 d2 d3
        have lsl : (xg_ls k (st (k / 3 / 4 + 1) - st (k / 3 / 4)) (3 * (k / 3))).length ≤ 3 := by
          have := ck_gl_len (copy := 0) (sk := k) (p := []) (st (k / 3 / 4 + 1) - st (k / 3 / 4)) (3 * (k / 3))
          rw [xg_gl, List.length_map] at this
          omega
        refine xg_open (sk := k) (fun j hj1 hj2 => nI_eq (by omega) (by omega)) (by omega) (by omega) (fun oc' ol' hag hrep => nm_r (nI_1 m) ?_)
        refine IH (m + 1) _ _ _ _ _ _ _ _ _ _ _ _ _ _ _ _ ?_ ?_ (hinv oc' ol' hag hrep)
        · have := (hinv oc' ol' hag hrep).2.1
          rw [ck_pot_app, ck_pot_gl, List.length_cons]
          have glen : (ck_gl m (st (k / 3 / 4) + k % 3) ((c, l) :: p) (st (k / 3 / 4 + 1) - st (k / 3 / 4)) (st (k / 3 / 4))).length ≤ 2 := by
            have := ck_gl_len' (copy := m) (sk := st (k / 3 / 4) + k % 3) (p := (c, l) :: p) (st (k / 3 / 4 + 1) - st (k / 3 / 4)) (st (k / 3 / 4)) (by omega) (by omega)
            omega
          have hKm : xw_g nc st a_litSign a_litPred a_litArg0 a_litArg1 a_predArity q (c, l) ∉ p.map (xw_g nc st a_litSign a_litPred a_litArg0 a_litArg1 a_predArity q) := fun z => cq_goal_new g8 ((g6 _).mpr z)
          have hKn : cq_neg (xw_g nc st a_litSign a_litPred a_litArg0 a_litArg1 a_predArity q (c, l)) ∉ p.map (xw_g nc st a_litSign a_litPred a_litArg0 a_litArg1 a_predArity q) := fun z => hnot ((g6 _).mpr z)
          have l4 := (cq_len4 g5 (by omega) hKm hKn).1
          rw [List.length_map] at l4
          have hw1 := cq_w_succ l4
          have : (ck_gl m (st (k / 3 / 4) + k % 3) ((c, l) :: p) (st (k / 3 / 4 + 1) - st (k / 3 / 4)) (st (k / 3 / 4))).length * cq_w (p.length + 1) ≤ 2 * cq_w (p.length + 1) := Nat.mul_le_mul_right _ glen
          omega
        · rw [List.length_append, xg_gl, List.length_map]
          have z1 := xg_ls_shift (sk := k % 3) (d := st (k / 3 / 4)) (st (k / 3 / 4 + 1) - st (k / 3 / 4)) 0
          have z2 := xg_ls_shift (sk := k % 3) (d := 3 * (k / 3)) (st (k / 3 / 4 + 1) - st (k / 3 / 4)) 0
          rw [Nat.zero_add, Nat.add_comm (k % 3)] at z1 z2
          have ek : 3 * (k / 3) + k % 3 = k := by omega
          rw [ek] at z2
          rw [z1, z2, List.length_map, List.length_map, Nat.add_comm]
theorem xw_write {post : St1 → Prop} {nc nl : Nat} {st : Nat → Nat} (hw : cd_wf nc nl st a_litSign a_litPred a_litArg0 a_litArg1 a_predArity) (hcs : ∀ c, c ≤ nc → a_clauseStart c = nI (st c))
    (hfx : cr_fix a_literalHolds a_pathLength)
    (h5 : cg_base a_litPred a_predArity (st nc) (cg_oc a_litArg0 a_litArg1 0 (st nc) && cg_oc a_litArg0 a_litArg1 1 (st nc)) 4 ≤ 5)
    (htab : xi_tab nc st a_litSign a_litPred a_litArg0 a_litArg1 a_predArity a_instanceLits a_instanceHolds)
    {N : Int32} (hN : ∀ r, xs_R N r → cg_RX nc st a_litArg0 a_litArg1 r) (hu : ¬ cq_sat (cg_HX nc st a_litSign a_litPred a_litArg0 a_litArg1 a_predArity) (xs_R N) (xs_G 0))
    (h : ∀ (n : Nat) (x0 x2 x3 : Int32) (kK kA kB kI oc ol pc pl ph ri ql : Nat → Int32), ph 0 = 0 → cr_kx nc st a_litSign a_litPred a_litArg0 a_litArg1 n kK kA kB kI →
      post (nI nl, nI nc, f_stepCount, f_bufferSealed, f_lastCheckStep, nI n, f_proofKept, x0, f_universeSize, x2, x3, a_litSign, a_litPred, a_litArg0, a_litArg1, a_clauseStart, a_predArity, a_stepKind, a_stepA, a_stepB, a_binding, kK, kA, kB, kI, oc, ol, pc, pl, ph, a_atomBase, a_instanceLits, a_instanceHolds, a_literalHolds, ri, ql)) :
    wpX_writeProof post (nI nl, nI nc, f_stepCount, f_bufferSealed, f_lastCheckStep, f_keptCount, f_proofKept, f_openCount, f_universeSize, N, 0, a_litSign, a_litPred, a_litArg0, a_litArg1, a_clauseStart, a_predArity, a_stepKind, a_stepA, a_stepB, a_binding, a_keptKind, a_keptA, a_keptB, a_keptInstance, a_openCopy, a_openLit, a_parentCopy, a_parentLit, a_pathLength, a_atomBase, a_instanceLits, a_instanceHolds, a_literalHolds, a_restInstances, a_pathLiterals) := by
  have hnc := hw.1
  refine xs_keep hw hfx h5 htab hN hu (fun R hsub hun hmin => ?_)
  have hex : ∃ r, xs_R R r := by
    apply Classical.byContradiction
    intro hno
    exact hun ⟨fun _ => true, fun r hr => absurd ⟨r, hr⟩ hno, fun m hm => absurd hm (xs_G_0 m)⟩
  obtain ⟨r0, hr0⟩ := hex
  refine xs_low hr0 (fun i hi => ?_)
  have hiX := hN _ (hsub _ hi)
  have hi4 := hiX.1
  obtain ⟨b1, b2, b3⟩ := cd_en_bd hw (show i / 4 ≤ nc by omega)
  rw [cd_en_lt (by omega)] at b1 b2 b3
  refine xw_copy (i := 0) (by omega) hi.1 ?_
  have e4 : nI i / 4 = nI (i / 4) := by
    rw [show (4 : Int32) = nI 4 from rfl, pk_div (by omega) (by omega) (by omega)]
  refine ⟨by decide, ?_⟩
  rw [e4]
  refine xl_len hw hcs (by omega) ?_
  rw [cd_en_lt (show i / 4 < nc by omega)]
  have e3 : 3 * nI i = nI (3 * i) := by
    rw [show (3 : Int32) = nI 3 from rfl, pk_mul]
  rw [e3]
  have lsl : (xg_ls 1000 (st (i / 4 + 1) - st (i / 4)) (3 * i)).length ≤ 3 := by
    have := ck_gl_len (copy := 0) (sk := 1000) (p := []) (st (i / 4 + 1) - st (i / 4)) (3 * i)
    rw [xg_gl, List.length_map] at this
    omega
  refine xg_open (base := 0) (sk := 1000) (fun j hj1 hj2 => ?_) (by omega) (by omega) (fun oc ol hag hrep => ?_)
  · constructor
    · intro z
      have := congrArg Int32.toInt z
      rw [nI_toInt (by omega), show (-1 : Int32).toInt = -1 from by decide] at this
      omega
    · intro z
      omega
  · have noskip : ∀ (sk n j : Nat), j + n ≤ sk → ∀ d, xg_ls (sk + d) n (j + d) = (xg_ls sk n j).map (fun l => l + d) := fun sk n j _ d => xg_ls_shift n j
    -- the literals 0 .. len - 1, none left out
    have free : ∀ (n j sk sk' : Nat), j + n ≤ sk → j + n ≤ sk' → xg_ls sk n j = xg_ls sk' n j := by
      intro n
      induction n with
      | zero => intro j sk sk' _ _; rfl
      | succ n ih =>
        intro j sk sk' h1 h2
        rw [xg_ls_f (by omega), xg_ls_f (by omega), ih (j + 1) sk sk' (by omega) (by omega)]
    have hst := cd_mono' hw (c := i / 4 + 1) (d := nc) (by omega) (Nat.le_refl _)
    have hnl := hw.2.1
    have hM := hw.2.2.2.2.1
    have ls0 : xg_ls 16 (st (i / 4 + 1) - st (i / 4)) (st (i / 4)) = (xg_ls 1000 (st (i / 4 + 1) - st (i / 4)) 0).map (fun l => l + st (i / 4)) := by
      have := xg_ls_shift (sk := 1000) (d := st (i / 4)) (st (i / 4 + 1) - st (i / 4)) 0
      rw [Nat.zero_add] at this
      rw [← this]
      exact free _ _ _ _ (by omega) (by omega)
    have ls1 : xg_ls 1000 (st (i / 4 + 1) - st (i / 4)) (3 * i) = (xg_ls 1000 (st (i / 4 + 1) - st (i / 4)) 0).map (fun l => l + 3 * i) := by
      have := xg_ls_shift (sk := 1000) (d := 3 * i) (st (i / 4 + 1) - st (i / 4)) 0
      rw [Nat.zero_add] at this
      rw [← this]
      exact free _ _ _ _ (by omega) (by omega)
    rw [ls1] at hrep lsl ⊢
    rw [List.length_map] at lsl ⊢
    refine ⟨191, ?_⟩
    have inv : xw_inv nc st a_litSign a_litPred a_litArg0 a_litArg1 a_predArity 1 (ck_gl 0 16 [] (st (i / 4 + 1) - st (i / 4)) (st (i / 4))) (fun _ => i)
        (upd a_keptKind 0 0) (upd a_keptA 0 (nI (i / 4))) (upd a_keptB 0 0) (upd a_keptInstance 0 (nI i)) oc ol a_parentCopy a_parentLit a_pathLength
        (upd a_restInstances 0 (R &&& (((1 : Int32) <<< (nI i &&& 31)) ^^^ (-1)))) (upd a_pathLiterals 0 0) := by
      refine ⟨by omega, ?_, hfx.2, pk_us, pk_us, fun j hj hK => ?_, ?_, ck_rch_1⟩
      · rw [ck_pot_gl, xg_gl, List.length_map, ls0, List.length_map]
        have e63 : cq_w ([] : List (Nat × Nat)).length = 63 := by decide
        rw [e63]
        omega
      · have : j = 0 := by omega
        subst this
        exact ⟨pk_us, hiX⟩
      · rw [xg_gl, ls0, ← List.append_nil (((xg_ls 1000 (st (i / 4 + 1) - st (i / 4)) 0).map (fun l => l + st (i / 4))).map (fun l => ((0, l, []) : ck_G)))]
        refine xw_stk_app (R := []) rfl rfl trivial (fun l' hl' => ?_) hrep
        have hl2 := xg_ls_mem hl'
        unfold xw_goal
        try dsimp only
        rw [pk_us, pk_us, pk_us]
        refine ⟨by omega, by decide, ⟨by dsimp only; omega, by dsimp only; omega⟩, hfx.2, trivial, fun k => ?_, fun r hr => hN r (hsub r ((xs_R_del hi.1 r).mp hr).1), ?_⟩
        · constructor
          · intro z
            exact absurd z (xs_G_0 k)
          · intro z
            cases z
        · exact cq_goal_congr (fun r => (xs_R_del hi.1 r).symm) (fun _ => Iff.rfl) (cq_goal_next hun (hmin _ hi) ⟨l' + st (i / 4), by omega, by omega, rfl⟩)
    refine xw_loop hw hcs (fun ph hph => ⟨hfx.1, hph⟩) h5 htab h 190 1 _ _ _ _ _ _ _ _ _ _ _ _ _ _ _ _ ?_ ?_ inv
    · have := inv.2.1
      omega
    · rw [xg_gl, List.length_map, ls0, List.length_map, Nat.zero_add]
theorem xw_prove {post : Int32 → St1 → Prop} {nc nl : Nat} {st : Nat → Nat} (hw : cd_wf nc nl st a_litSign a_litPred a_litArg0 a_litArg1 a_predArity) (hcs : ∀ c, c ≤ nc → a_clauseStart c = nI (st c))
    (hfx : cr_fix a_literalHolds a_pathLength)
    (hbig : ¬ cg_base a_litPred a_predArity (st nc) (cg_oc a_litArg0 a_litArg1 0 (st nc) && cg_oc a_litArg0 a_litArg1 1 (st nc)) 4 ≤ 5 → post (-4) (nI nl, nI nc, f_stepCount, f_bufferSealed, f_lastCheckStep, f_keptCount, f_proofKept, f_openCount, f_universeSize, f_neededInstances, f_givenLiterals, a_litSign, a_litPred, a_litArg0, a_litArg1, a_clauseStart, a_predArity, a_stepKind, a_stepA, a_stepB, a_binding, a_keptKind, a_keptA, a_keptB, a_keptInstance, a_openCopy, a_openLit, a_parentCopy, a_parentLit, a_pathLength, a_atomBase, a_instanceLits, a_instanceHolds, a_literalHolds, a_restInstances, a_pathLiterals))
    (hno : cg_base a_litPred a_predArity (st nc) (cg_oc a_litArg0 a_litArg1 0 (st nc) && cg_oc a_litArg0 a_litArg1 1 (st nc)) 4 ≤ 5 →
      cq_sat (cg_HX nc st a_litSign a_litPred a_litArg0 a_litArg1 a_predArity) (cg_RX nc st a_litArg0 a_litArg1) (fun _ => False) → ∀ (x1 x2 x3 : Int32) (ab il ih : Nat → Int32),
      post 2 (nI nl, nI nc, f_stepCount, f_bufferSealed, f_lastCheckStep, f_keptCount, 0, f_openCount, x1, x2, x3, a_litSign, a_litPred, a_litArg0, a_litArg1, a_clauseStart, a_predArity, a_stepKind, a_stepA, a_stepB, a_binding, a_keptKind, a_keptA, a_keptB, a_keptInstance, a_openCopy, a_openLit, a_parentCopy, a_parentLit, a_pathLength, ab, il, ih, a_literalHolds, a_restInstances, a_pathLiterals))
    (hyes : cg_base a_litPred a_predArity (st nc) (cg_oc a_litArg0 a_litArg1 0 (st nc) && cg_oc a_litArg0 a_litArg1 1 (st nc)) 4 ≤ 5 →
      ¬ cq_sat (cg_HX nc st a_litSign a_litPred a_litArg0 a_litArg1 a_predArity) (cg_RX nc st a_litArg0 a_litArg1) (fun _ => False) → ∀ (n : Nat) (x0 x1 x2 x3 : Int32) (kK kA kB kI oc ol pc pl ph ab il ih ri ql : Nat → Int32), ph 0 = 0 → cr_kx nc st a_litSign a_litPred a_litArg0 a_litArg1 n kK kA kB kI →
      post 1 (nI nl, nI nc, f_stepCount, f_bufferSealed, f_lastCheckStep, nI n, 1, x0, x1, x2, x3, a_litSign, a_litPred, a_litArg0, a_litArg1, a_clauseStart, a_predArity, a_stepKind, a_stepA, a_stepB, a_binding, kK, kA, kB, kI, oc, ol, pc, pl, ph, ab, il, ih, a_literalHolds, ri, ql)) :
    wpX_prove post (nI nl, nI nc, f_stepCount, f_bufferSealed, f_lastCheckStep, f_keptCount, f_proofKept, f_openCount, f_universeSize, f_neededInstances, f_givenLiterals, a_litSign, a_litPred, a_litArg0, a_litArg1, a_clauseStart, a_predArity, a_stepKind, a_stepA, a_stepB, a_binding, a_keptKind, a_keptA, a_keptB, a_keptInstance, a_openCopy, a_openLit, a_parentCopy, a_parentLit, a_pathLength, a_atomBase, a_instanceLits, a_instanceHolds, a_literalHolds, a_restInstances, a_pathLiterals) := by
  refine xu_count hw hcs ?_
  have b16 : cg_base a_litPred a_predArity (st nc) (cg_oc a_litArg0 a_litArg1 0 (st nc) && cg_oc a_litArg0 a_litArg1 1 (st nc)) 4 < 2 ^ 31 := cg_base_16 hw
  refine pk_le _ 5 (fun h5 => ?_) (fun h5 => hbig (by omega)) rfl rfl b16 (by omega)
  refine xi_all hw hcs hfx h5 (fun R x1 ab il ih hR htab => ?_)
  have conv : cq_sat (cg_HX nc st a_litSign a_litPred a_litArg0 a_litArg1 a_predArity) (xs_R R) (xs_G 0) ↔ cq_sat (cg_HX nc st a_litSign a_litPred a_litArg0 a_litArg1 a_predArity) (cg_RX nc st a_litArg0 a_litArg1) (fun _ => False) :=
    ⟨cq_sat_mono (fun r hr => (hR r).mpr hr) (fun _ z => z.elim), cq_sat_mono (fun r hr => (hR r).mp hr) (fun m z => absurd z (xs_G_0 m))⟩
  refine xs_test hw hfx h5 htab (fun r hr => (hR r).mp hr) (fun z => br_t rfl ?_) (fun w hw0 z => br_f hw0 ?_)
  · refine ⟨rfl, rfl, br_f (by decide) ?_⟩
    exact xw_write hw hcs hfx h5 htab (fun r hr => (hR r).mp hr) z (fun n x0 x2 x3 kK kA kB kI oc ol pc pl ph ri ql hp hk => hyes h5 (fun y => z (conv.mpr y)) n x0 x1 x2 x3 kK kA kB kI oc ol pc pl ph ab il ih ri ql hp hk)
  · exact ⟨rfl, rfl, br_t rfl (hno h5 (conv.mp z) x1 R 0 ab il ih)⟩
end
end
section
section
variable {f_litCount f_clauseCount f_stepCount f_bufferSealed f_lastCheckStep f_keptCount f_proofKept f_openCount f_universeSize f_neededInstances f_givenLiterals : Int32} {a_litSign a_litPred a_litArg0 a_litArg1 a_clauseStart a_predArity a_stepKind a_stepA a_stepB a_binding a_keptKind a_keptA a_keptB a_keptInstance a_openCopy a_openLit a_parentCopy a_parentLit a_pathLength a_atomBase a_instanceLits a_instanceHolds a_literalHolds a_restInstances a_pathLiterals : Nat → Int32}
theorem xt_tab {post : St1 → Prop} (h : ∀ lh : Nat → Int32, (∀ a, a < 5 → lh (2 * a) = xt_in a 32 ∧ lh (2 * a + 1) = xt_in a 32 ^^^ (-1)) → post (f_litCount, f_clauseCount, f_stepCount, f_bufferSealed, f_lastCheckStep, f_keptCount, f_proofKept, f_openCount, f_universeSize, f_neededInstances, f_givenLiterals, a_litSign, a_litPred, a_litArg0, a_litArg1, a_clauseStart, a_predArity, a_stepKind, a_stepA, a_stepB, a_binding, a_keptKind, a_keptA, a_keptB, a_keptInstance, a_openCopy, a_openLit, a_parentCopy, a_parentLit, a_pathLength, a_atomBase, a_instanceLits, a_instanceHolds, lh, a_restInstances, a_pathLiterals)) : wpX_tabulateLiterals post (f_litCount, f_clauseCount, f_stepCount, f_bufferSealed, f_lastCheckStep, f_keptCount, f_proofKept, f_openCount, f_universeSize, f_neededInstances, f_givenLiterals, a_litSign, a_litPred, a_litArg0, a_litArg1, a_clauseStart, a_predArity, a_stepKind, a_stepA, a_stepB, a_binding, a_keptKind, a_keptA, a_keptB, a_keptInstance, a_openCopy, a_openLit, a_parentCopy, a_parentLit, a_pathLength, a_atomBase, a_instanceLits, a_instanceHolds, a_literalHolds, a_restInstances, a_pathLiterals) := by
  refine loop_0 (fun n i s => wX_tabulateLiterals_2 post f_litCount f_clauseCount f_stepCount f_bufferSealed f_lastCheckStep f_keptCount f_proofKept f_openCount f_universeSize f_neededInstances f_givenLiterals n (nI i) a_litSign a_litPred a_litArg0 a_litArg1 a_clauseStart a_predArity a_stepKind a_stepA a_stepB a_binding a_keptKind a_keptA a_keptB a_keptInstance a_openCopy a_openLit a_parentCopy a_parentLit a_pathLength a_atomBase a_instanceLits a_instanceHolds s a_restInstances a_pathLiterals) (fun i s => ∀ a, a < i → s (2 * a) = xt_in a 32 ∧ s (2 * a + 1) = xt_in a 32 ^^^ (-1)) 5 a_literalHolds (fun a ha => absurd ha (Nat.not_lt_zero a)) ?_ ?_
  · intro n s hs
    exact br_t (nI_le (a := 5) (b := 5) (Nat.le_refl _) (by decide)) (h s hs)
  · intro n i s hi hs ih
    refine br_f (nI_ge (b := 5) hi (by decide)) ?_
    have key : ∀ d k : Nat, k + d = 32 → wX_tabulateLiterals_11 post (wX_tabulateLiterals_2 post f_litCount f_clauseCount f_stepCount f_bufferSealed f_lastCheckStep f_keptCount f_proofKept f_openCount f_universeSize f_neededInstances f_givenLiterals n) (nI i) f_litCount f_clauseCount f_stepCount f_bufferSealed f_lastCheckStep f_keptCount f_proofKept f_openCount f_universeSize f_neededInstances f_givenLiterals a_litSign a_litPred a_litArg0 a_litArg1 a_clauseStart a_predArity a_stepKind a_stepA a_stepB a_binding a_keptKind a_keptA a_keptB a_keptInstance a_openCopy a_openLit a_parentCopy a_parentLit a_pathLength a_atomBase a_instanceLits a_instanceHolds s a_restInstances a_pathLiterals (d + 1) (xt_in i k) (nI k) := by
      intro d
      induction d with
      | zero =>
        intro k hk
        have : k = 32 := by omega
        subst this
        have e2 : (2 : Int32) * nI i = nI (2 * i) := by
          rw [show (2 : Int32) = nI 2 from rfl, pk_mul]
        refine br_t (nI_le (a := 32) (b := 32) (Nat.le_refl _) (by decide)) ?_
        rw [e2, nI_1, nI_clamp (show 2 * i < 2 ^ 31 by omega), nI_clamp (show 2 * i + 1 < 2 ^ 31 by omega)]
        refine ⟨vp_in_nI (by omega) (by decide), nm_e ⟨vp_in_nI (by omega) (by decide), nm_e (nm_r (nI_1 i) (ih _ (fun a ha => ?_)))⟩⟩
        by_cases e : a = i
        · subst e
          rw [pk_us, pk_un (by omega), pk_us]
          exact ⟨rfl, rfl⟩
        · rw [pk_un (by omega), pk_un (by omega), pk_un (by omega), pk_un (by omega)]
          exact hs a (by omega)
      | succ d IH =>
        intro k hk
        exact br_f (nI_ge (b := 32) (by omega) (by decide)) (nm_e (nm_r (nI_1 k) (IH (k + 1) (by omega))))
    exact ⟨_, key 32 0 (by omega)⟩
end
end
section
/-! a buffer that checks as valid refutes the clauses -/
def sd_val (o0 o1 : Bool) (r : Nat) : Nat := if (o0 && o1) = true then (if r = 1 then 1 else 0) else if o1 = true then 1 else 0
theorem sd_val_U (o0 o1 : Bool) (r : Nat) : cg_U o0 o1 (sd_val o0 o1 r) := by
  unfold cg_U sd_val
  by_cases e : r = 1
  · cases o0 <;> cases o1 <;> simp [e]
  · cases o0 <;> cases o1 <;> simp [e]
theorem sd_val_c {o0 o1 : Bool} {t : Nat} (ht : t < 2) (h0 : t = 0 → o0 = true) (h1 : t = 1 → o1 = true) : sd_val o0 o1 t = t := by
  have : t = 0 ∨ t = 1 := by omega
  rcases this with e | e
  · subst e
    have := h0 rfl
    subst this
    cases o1 <;> rfl
  · subst e
    have := h1 rfl
    subst this
    cases o0 <;> rfl
def sd_rt (b : Nat → Nat) (t : Nat) : Nat := match ck_res b 513 t with
  | some x => x
  | none => 0
def sd_v (o0 o1 : Bool) (b : Nat → Nat) (t : Nat) : Nat := sd_val o0 o1 (sd_rt b t)
theorem sd_v_eq {o0 o1 : Bool} {b : Nat → Nat} {s t v : Nat} (h1 : ck_res b 513 s = some v) (h2 : ck_res b 513 t = some v) : sd_v o0 o1 b s = sd_v o0 o1 b t := by
  unfold sd_v sd_rt
  rw [h1, h2]
/-- the ground literal of l in the copy c -/
def sd_g (nc : Nat) (st : Nat → Nat) (sg pr a0 a1 ar : Nat → Int32) (b : Nat → Nat) (c l : Nat) : Nat :=
  cg_L sg pr a0 a1 ar (st nc) l (sd_v (cg_oc a0 a1 0 (st nc)) (cg_oc a0 a1 1 (st nc)) b (2 * c + 2)) (sd_v (cg_oc a0 a1 0 (st nc)) (cg_oc a0 a1 1 (st nc)) b (2 * c + 3))
theorem sd_arg {nc nl : Nat} {st : Nat → Nat} {sg pr a0 a1 ar : Nat → Int32} (hw : cd_wf nc nl st sg pr a0 a1 ar) {b : Nat → Nat} (b0 : b 0 = 0) (b1 : b 1 = 1) {l : Nat} (hl : l < st nc) {pos : Nat} (hp : pos < ck_ar (a0 l) (a1 l)) (c : Nat) :
    cg_vl (if pos = 0 then a0 l else a1 l) (sd_v (cg_oc a0 a1 0 (st nc)) (cg_oc a0 a1 1 (st nc)) b (2 * c + 2)) (sd_v (cg_oc a0 a1 0 (st nc)) (cg_oc a0 a1 1 (st nc)) b (2 * c + 3)) =
      sd_v (cg_oc a0 a1 0 (st nc)) (cg_oc a0 a1 1 (st nc)) b (ck_tm c (ck_ag a0 a1 l pos)) := by
  obtain ⟨n, hn, e, g⟩ := (cd_arg hw (Nat.lt_of_lt_of_le hl hw.2.2.2.2.1)).2 pos hp
  have occ : a0 l = nI n ∨ a1 l = nI n := by
    by_cases z : pos = 0
    · rw [if_pos z] at e
      exact Or.inl e
    · rw [if_neg z] at e
      exact Or.inr e
  rw [g, e]
  have cn : n < 2 ∨ n = 2 ∨ n = 3 := by omega
  rcases cn with h | h | h
  · have e1 : ck_tm c n = n := by unfold ck_tm; rw [if_pos h]
    have bn : b n = n := by
      have : n = 0 ∨ n = 1 := by omega
      rcases this with z | z <;> rw [z] <;> assumption
    have e2 : sd_rt b n = n := by
      unfold sd_rt
      rw [ck_res0 (n := 512) bn]
    have h2 : ¬ nI n = 2 := by
      rw [show (2 : Int32) = nI 2 from rfl, nI_eq (by omega) (by omega)]
      omega
    have h3 : ¬ nI n = 3 := by
      rw [show (3 : Int32) = nI 3 from rfl, nI_eq (by omega) (by omega)]
      omega
    rw [e1]
    unfold cg_vl
    rw [if_neg h2, if_neg h3, nI_clamp (by omega)]
    unfold sd_v
    rw [e2, sd_val_c h]
    · intro z
      subst z
      exact (cg_oc_iff _).mpr ⟨l, hl, occ⟩
    · intro z
      subst z
      exact (cg_oc_iff _).mpr ⟨l, hl, occ⟩
  · subst h
    have e1 : ck_tm c 2 = 2 * c + 2 := by unfold ck_tm; rw [if_neg (by omega)]
    rw [e1]
    rfl
  · subst h
    have e1 : ck_tm c 3 = 2 * c + 3 := by unfold ck_tm; rw [if_neg (by omega)]
    rw [e1]
    rfl
theorem sd_ps {b A1 A2 : Nat → Nat} : ∀ (r p : Nat), ck_ps b A1 A2 r p = 0 → ∀ q, p ≤ q → q < p + r → ∃ v, ck_res b 513 (A1 q) = some v ∧ ck_res b 513 (A2 q) = some v
  | 0, p, _, q, h1, h2 => by omega
  | r + 1, p, h, q, h1, h2 => by
    unfold ck_ps at h
    cases o1 : ck_res b 513 (A1 p) with
    | none =>
      rw [o1] at h
      exact absurd (show (-17 : Int32) = 0 from h) (by decide)
    | some x =>
      cases o2 : ck_res b 513 (A2 p) with
      | none =>
        rw [o1, o2] at h
        exact absurd (show (-17 : Int32) = 0 from h) (by decide)
      | some y =>
        rw [o1, o2] at h
        have h' : (if x = y then ck_ps b A1 A2 r (p + 1) else -16) = 0 := h
        by_cases e : x = y
        · rw [if_pos e] at h'
          by_cases z : q = p
          · subst z
            exact ⟨x, o1, by rw [o2, e]⟩
          · exact sd_ps r (p + 1) h' q (by omega) (by omega)
        · rw [if_neg e] at h'
          exact absurd h' (by decide)
theorem sd_conn {nc nl : Nat} {st : Nat → Nat} {sg pr a0 a1 ar : Nat → Int32} (hw : cd_wf nc nl st sg pr a0 a1 ar) {b : Nat → Nat} (b0 : b 0 = 0) (b1 : b 1 = 1) {c1 l1 c2 l2 : Nat} (h1 : l1 < st nc) (h2 : l2 < st nc)
    (h : ck_conn (cd_mk (st nc) sg) (cd_mk (st nc) pr) (cd_mk (st nc) a0) (cd_mk (st nc) a1) b c1 l1 c2 l2 = 0) :
    sd_g nc st sg pr a0 a1 ar b c1 l1 = cq_neg (sd_g nc st sg pr a0 a1 ar b c2 l2) := by
  have M0 : ∀ l, l < st nc → ∀ p, ck_ag (cd_mk (st nc) a0) (cd_mk (st nc) a1) l p = ck_ag a0 a1 l p := by
    intro l hl p
    unfold ck_ag
    rw [cd_mk_lt hl, cd_mk_lt hl]
  unfold ck_conn at h
  rw [cd_mk_lt h1, cd_mk_lt h1, cd_mk_lt h1, cd_mk_lt h1, cd_mk_lt h2, cd_mk_lt h2] at h
  by_cases hs : sg l1 = sg l2 ∨ ¬ pr l1 = pr l2
  · rw [if_pos hs] at h
    exact absurd h (by decide)
  · rw [if_neg hs] at h
    have hsg : ¬ sg l1 = sg l2 := fun z => hs (Or.inl z)
    have hpr : pr l1 = pr l2 := Classical.byContradiction (fun z => hs (Or.inr z))
    have hM := hw.2.2.2.2.1
    have eA := cd_ar_eq hw (Nat.lt_of_lt_of_le h1 hM) (Nat.lt_of_lt_of_le h2 hM) hpr
    obtain ⟨s1, es1, _, _, _, _, _, _, le1⟩ := cg_lit hw h1
    obtain ⟨s2, es2, _⟩ := cg_lit hw h2
    have val : ∀ pos, pos < ck_ar (a0 l1) (a1 l1) → cg_vl (if pos = 0 then a0 l1 else a1 l1) (sd_v (cg_oc a0 a1 0 (st nc)) (cg_oc a0 a1 1 (st nc)) b (2 * c1 + 2)) (sd_v (cg_oc a0 a1 0 (st nc)) (cg_oc a0 a1 1 (st nc)) b (2 * c1 + 3)) =
        cg_vl (if pos = 0 then a0 l2 else a1 l2) (sd_v (cg_oc a0 a1 0 (st nc)) (cg_oc a0 a1 1 (st nc)) b (2 * c2 + 2)) (sd_v (cg_oc a0 a1 0 (st nc)) (cg_oc a0 a1 1 (st nc)) b (2 * c2 + 3)) := by
      intro pos hp
      rw [sd_arg hw b0 b1 h1 hp c1, sd_arg hw b0 b1 h2 (by rw [← eA]; exact hp) c2]
      obtain ⟨v, v1, v2⟩ := sd_ps _ 0 h pos (Nat.zero_le _) (by omega)
      rw [M0 l1 h1] at v1
      rw [M0 l2 h2] at v2
      exact sd_v_eq v1 v2
    have etup : cg_tup a0 a1 (cg_oc a0 a1 0 (st nc) && cg_oc a0 a1 1 (st nc)) l1 (sd_v (cg_oc a0 a1 0 (st nc)) (cg_oc a0 a1 1 (st nc)) b (2 * c1 + 2)) (sd_v (cg_oc a0 a1 0 (st nc)) (cg_oc a0 a1 1 (st nc)) b (2 * c1 + 3)) =
        cg_tup a0 a1 (cg_oc a0 a1 0 (st nc) && cg_oc a0 a1 1 (st nc)) l2 (sd_v (cg_oc a0 a1 0 (st nc)) (cg_oc a0 a1 1 (st nc)) b (2 * c2 + 2)) (sd_v (cg_oc a0 a1 0 (st nc)) (cg_oc a0 a1 1 (st nc)) b (2 * c2 + 3)) := by
      unfold cg_tup
      rw [← eA]
      by_cases t : (cg_oc a0 a1 0 (st nc) && cg_oc a0 a1 1 (st nc)) = true
      · rw [if_pos t, if_pos t]
        by_cases e0 : ck_ar (a0 l1) (a1 l1) = 0
        · rw [if_pos e0, if_pos e0]
        · rw [if_neg e0, if_neg e0]
          have v0 := val 0 (by omega)
          rw [if_pos rfl, if_pos rfl] at v0
          by_cases e1 : ck_ar (a0 l1) (a1 l1) = 1
          · rw [if_pos e1, if_pos e1]
            exact v0
          · rw [if_neg e1, if_neg e1]
            have v1 := val 1 (by omega)
            rw [if_neg (by decide), if_neg (by decide)] at v1
            rw [v0, v1]
      · rw [if_neg t, if_neg t]
    unfold sd_g cg_L cg_gl
    rw [etup, hpr]
    have hne : ¬ (sg l1).toNatClampNeg = (sg l2).toNatClampNeg := fun z => hsg (by rw [es1, es2, z])
    unfold cq_neg
    split <;> omega
theorem sd_neg {f : Nat → Bool} {m k : Nat} (e : m = cq_neg k) (h1 : cq_tr f m) (h2 : cq_tr f k) : False := by
  subst e
  unfold cq_tr at h1 h2
  rw [cq_neg_div, cq_neg_mod, h2] at h1
  have : k % 2 = 0 ∨ k % 2 = 1 := by omega
  rcases this with z | z <;> rw [z] at h1 <;> exact absurd h1 (by decide)
theorem sd_gl_in {copy sk : Nat} {p : List (Nat × Nat)} : ∀ (n j k : Nat), j ≤ k → k < j + n → ¬ k = sk → (copy, k, p) ∈ ck_gl copy sk p n j
  | 0, j, k, h1, h2, _ => by omega
  | n + 1, j, k, h1, h2, h3 => by
    unfold ck_gl
    by_cases e : j = sk
    · rw [if_pos e]
      exact sd_gl_in n (j + 1) k (by omega) (by omega) h3
    · rw [if_neg e]
      by_cases z : k = j
      · subst z
        exact List.mem_cons_self
      · exact List.mem_cons_of_mem _ (sd_gl_in n (j + 1) k (by omega) (by omega) h3)
def sd_wit (nc : Nat) (st : Nat → Nat) (sg pr a0 a1 ar : Nat → Int32) (b : Nat → Nat) (f : Nat → Bool) (L : List ck_G) : Prop :=
  ∃ g, g ∈ L ∧ g.2.1 < st nc ∧ cq_tr f (sd_g nc st sg pr a0 a1 ar b g.1 g.2.1) ∧ ∀ e, e ∈ g.2.2 → e.2 < st nc ∧ cq_tr f (sd_g nc st sg pr a0 a1 ar b e.1 e.2)
theorem sd_step {nc nl : Nat} {st : Nat → Nat} {sg pr a0 a1 ar : Nat → Int32} (hw : cd_wf nc nl st sg pr a0 a1 ar) {b : Nat → Nat} (b0 : b 0 = 0) (b1 : b 1 = 1) {f : Nat → Bool}
    (hs : ∀ a, a < nc → ∀ i, ∃ j, st a ≤ j ∧ j < st (a + 1) ∧ cq_tr f (sd_g nc st sg pr a0 a1 ar b i j)) {K A B : Nat → Int32} {i : Nat} {L : List ck_G}
    (h : (ck_step nc st (cd_mk (st nc) sg) (cd_mk (st nc) pr) (cd_mk (st nc) a0) (cd_mk (st nc) a1) K A B b i L).1 = 0) (w : sd_wit nc st sg pr a0 a1 ar b f L) :
    sd_wit nc st sg pr a0 a1 ar b f (ck_step nc st (cd_mk (st nc) sg) (cd_mk (st nc) pr) (cd_mk (st nc) a0) (cd_mk (st nc) a1) K A B b i L).2 := by
  have hnc := hw.1
  match L, h, w with
  | [], _, w =>
    obtain ⟨g, hg, _⟩ := w
    cases hg
  | (c, l, p) :: R, h, w =>
    obtain ⟨g, hg, g1, g2, g3⟩ := w
    unfold ck_step at h ⊢
    dsimp only at h ⊢
    by_cases k0 : K i = 0
    · rw [ck_if_t k0] at h
      exact absurd (show (-11 : Int32) = 0 from h) (by decide)
    · rw [ck_if_f k0] at h ⊢
      by_cases k1 : K i = 1
      · rw [ck_if_t k1] at h ⊢
        by_cases ho : ck_out (A i) nc
        · rw [ck_if_t ho] at h
          exact absurd (show (-12 : Int32) = 0 from h) (by decide)
        · rw [ck_if_f ho] at h ⊢
          obtain ⟨a, ha, ea⟩ := (ck_out_or (A i) (n := nc) (by omega)).resolve_left ho |>.2
          rw [ea, nI_clamp (show a < 2 ^ 31 by omega)] at h ⊢
          have hst := cd_mono' hw (c := a + 1) (d := nc) (by omega) (Nat.le_refl _)
          obtain ⟨q1, q2⟩ := hw.2.2.2.1 a ha
          by_cases hob : ck_out (B i) (st (a + 1) - st a)
          · rw [ck_if_t hob] at h
            exact absurd (show (-13 : Int32) = 0 from h) (by decide)
          · rw [ck_if_f hob] at h ⊢
            obtain ⟨bb, hbb, eb⟩ := (ck_out_or (B i) (n := st (a + 1) - st a) (by omega)).resolve_left hob |>.2
            rw [eb, nI_clamp (show bb < 2 ^ 31 by omega)] at h ⊢
            by_cases hcn : ck_conn (cd_mk (st nc) sg) (cd_mk (st nc) pr) (cd_mk (st nc) a0) (cd_mk (st nc) a1) b c l i (st a + bb) = 0
            · rw [ck_if_t hcn]
              rcases List.mem_cons.mp hg with e | hg
              · subst e
                dsimp only at g1 g2 g3
                have hneg := sd_conn hw b0 b1 g1 (show st a + bb < st nc by omega) hcn
                obtain ⟨j, j1, j2, jt⟩ := hs a ha i
                have hj : ¬ j = st a + bb := fun z => sd_neg hneg g2 (by rw [← z]; exact jt)
                refine ⟨(i, j, (c, l) :: p), List.mem_append_left _ (sd_gl_in _ _ _ (by omega) (by omega) hj), by dsimp only; omega, jt, fun e he => ?_⟩
                rcases List.mem_cons.mp he with e2 | he
                · rw [e2]
                  exact ⟨g1, g2⟩
                · exact g3 e he
              · exact ⟨g, List.mem_append_right _ hg, g1, g2, g3⟩
            · rw [ck_if_f hcn] at h
              exact absurd h hcn
      · rw [ck_if_f k1] at h ⊢
        by_cases ho : ck_out (A i) p.length
        · rw [ck_if_t ho] at h
          exact absurd (show (-14 : Int32) = 0 from h) (by decide)
        · rw [ck_if_f ho] at h ⊢
          rcases List.mem_cons.mp hg with e | hg
          · exfalso
            subst e
            dsimp only at g1 g2 g3 h
            have hlen : 0 < p.length := by
              apply Classical.byContradiction
              intro z
              have z0 : p.length = 0 := by omega
              rw [z0] at ho
              apply ho
              by_cases n0 : A i < 0
              · exact Or.inl n0
              · obtain ⟨k, hk, ek⟩ := nI_of n0
                exact Or.inr (by rw [ek]; exact nI_le (Nat.zero_le k) hk)
            have hm := xw_gmem p (p.length - 1 - (A i).toNatClampNeg) (by omega)
            obtain ⟨e1, e2⟩ := g3 _ hm
            exact sd_neg (sd_conn hw b0 b1 g1 e1 h) g2 e2
          · exact ⟨g, hg, g1, g2, g3⟩
theorem sd_go {nc nl : Nat} {st : Nat → Nat} {sg pr a0 a1 ar : Nat → Int32} (hw : cd_wf nc nl st sg pr a0 a1 ar) {b : Nat → Nat} (b0 : b 0 = 0) (b1 : b 1 = 1) {f : Nat → Bool}
    (hs : ∀ a, a < nc → ∀ i, ∃ j, st a ≤ j ∧ j < st (a + 1) ∧ cq_tr f (sd_g nc st sg pr a0 a1 ar b i j)) {K A B : Nat → Int32} : ∀ (r i : Nat) (L : List ck_G), sd_wit nc st sg pr a0 a1 ar b f L →
    ¬ ck_go nc st (cd_mk (st nc) sg) (cd_mk (st nc) pr) (cd_mk (st nc) a0) (cd_mk (st nc) a1) K A B b r i L = (0, -1)
  | 0, i, L, w => by
    obtain ⟨g, hg, _⟩ := w
    unfold ck_go
    match L, hg with
    | x :: R, _ =>
      intro z
      have := congrArg Prod.fst z
      exact absurd (show (-19 : Int32) = 0 from this) (by decide)
  | r + 1, i, L, w => by
    rw [ck_go]
    by_cases z : (ck_step nc st (cd_mk (st nc) sg) (cd_mk (st nc) pr) (cd_mk (st nc) a0) (cd_mk (st nc) a1) K A B b i L).1 = 0
    · rw [if_pos z]
      exact sd_go hw b0 b1 hs r (i + 1) _ (sd_step hw b0 b1 hs z w)
    · rw [if_neg z]
      intro y
      exact z (congrArg Prod.fst y)
theorem sd_all {nc nl : Nat} {st : Nat → Nat} {sg pr a0 a1 ar : Nat → Int32} (hw : cd_wf nc nl st sg pr a0 a1 ar) {b : Nat → Nat} (b0 : b 0 = 0) (b1 : b 1 = 1) {K A B : Nat → Int32} {n : Nat}
    (h : ck_all nc st (cd_mk (st nc) sg) (cd_mk (st nc) pr) (cd_mk (st nc) a0) (cd_mk (st nc) a1) K A B b n = (0, -1)) :
    ¬ cq_sat (cg_HX nc st sg pr a0 a1 ar) (cg_RX nc st a0 a1) (fun _ => False) := by
  intro ⟨f, hf, _⟩
  have hnc := hw.1
  have hs : ∀ a, a < nc → ∀ i, ∃ j, st a ≤ j ∧ j < st (a + 1) ∧ cq_tr f (sd_g nc st sg pr a0 a1 ar b i j) := by
    intro a ha i
    have u0 := sd_val_U (cg_oc a0 a1 0 (st nc)) (cg_oc a0 a1 1 (st nc)) (sd_rt b (2 * i + 2))
    have u1 := sd_val_U (cg_oc a0 a1 0 (st nc)) (cg_oc a0 a1 1 (st nc)) (sd_rt b (2 * i + 3))
    have l0 := cg_U_lt u0
    have l1 := cg_U_lt u1
    unfold sd_g sd_v
    generalize sd_val (cg_oc a0 a1 0 (st nc)) (cg_oc a0 a1 1 (st nc)) (sd_rt b (2 * i + 2)) = x at u0 l0 ⊢
    generalize sd_val (cg_oc a0 a1 0 (st nc)) (cg_oc a0 a1 1 (st nc)) (sd_rt b (2 * i + 3)) = y at u1 l1 ⊢
    have q1 : (4 * a + 2 * x + y) / 4 = a := by omega
    have q2 : (4 * a + 2 * x + y) / 2 % 2 = x := by omega
    have q3 : (4 * a + 2 * x + y) % 2 = y := by omega
    obtain ⟨m, ⟨j, j1, j2, em⟩, t⟩ := hf (4 * a + 2 * x + y) ⟨by omega, by rw [q2]; exact u0, by rw [q3]; exact u1⟩
    rw [q1] at j1 j2
    rw [q2, q3] at em
    rw [em] at t
    exact ⟨j, j1, j2, t⟩
  unfold ck_all at h
  by_cases e0 : n = 0
  · rw [if_pos e0] at h
    exact absurd (show (-10 : Int32) = 0 from congrArg Prod.fst h) (by decide)
  · rw [if_neg e0] at h
    by_cases k0 : K 0 = 0
    · rw [if_pos k0] at h
      by_cases ho : ck_out (A 0) nc
      · rw [ck_if_t ho] at h
        exact absurd (show (-12 : Int32) = 0 from congrArg Prod.fst h) (by decide)
      · rw [ck_if_f ho] at h
        obtain ⟨a, ha, ea⟩ := (ck_out_or (A 0) (n := nc) (by omega)).resolve_left ho |>.2
        rw [ea, nI_clamp (show a < 2 ^ 31 by omega)] at h
        have hst := cd_mono' hw (c := a + 1) (d := nc) (by omega) (Nat.le_refl _)
        have hM := hw.2.2.2.2.1
        have hnl := hw.2.1
        obtain ⟨j, j1, j2, t⟩ := hs a ha 0
        refine sd_go hw b0 b1 hs _ _ _ ⟨(0, j, []), sd_gl_in _ _ _ (by omega) (by omega) (by omega), by dsimp only; omega, t, fun e he => by cases he⟩ h
    · rw [if_neg k0] at h
      exact absurd (show (-11 : Int32) = 0 from congrArg Prod.fst h) (by decide)
/-- an answer 0 comes with the step -1 -/
theorem lk_go1 {nc : Nat} {st : Nat → Nat} {sg pr a0 a1 K A B : Nat → Int32} {b : Nat → Nat} : ∀ (r i : Nat) (L : List ck_G), (ck_go nc st sg pr a0 a1 K A B b r i L).1 = 0 → ck_go nc st sg pr a0 a1 K A B b r i L = (0, -1)
  | 0, i, L, h => by
    unfold ck_go at h ⊢
    by_cases e : L.isEmpty = true
    · rw [if_pos e]
    · rw [if_neg e] at h
      exact absurd (show (-19 : Int32) = 0 from h) (by decide)
  | r + 1, i, L, h => by
    rw [ck_go] at h ⊢
    by_cases z : (ck_step nc st sg pr a0 a1 K A B b i L).1 = 0
    · rw [if_pos z] at h ⊢
      exact lk_go1 r (i + 1) _ h
    · rw [if_neg z] at h
      exact absurd h z
theorem lk_all1 {nc : Nat} {st : Nat → Nat} {sg pr a0 a1 K A B : Nat → Int32} {b : Nat → Nat} {n : Nat} (h : (ck_all nc st sg pr a0 a1 K A B b n).1 = 0) : ck_all nc st sg pr a0 a1 K A B b n = (0, -1) := by
  unfold ck_all at h ⊢
  by_cases e0 : n = 0
  · rw [if_pos e0] at h
    exact absurd (show (-10 : Int32) = 0 from h) (by decide)
  · rw [if_neg e0] at h ⊢
    by_cases k0 : K 0 = 0
    · rw [if_pos k0] at h ⊢
      by_cases ho : ck_out (A 0) nc
      · rw [ck_if_t ho] at h
        exact absurd (show (-12 : Int32) = 0 from h) (by decide)
      · rw [ck_if_f ho] at h ⊢
        exact lk_go1 _ _ _ h
    · rw [if_neg k0] at h
      exact absurd (show (-11 : Int32) = 0 from h) (by decide)
end
section
/-! what holds of the object between the law's turns -/
def lj_buf (nc : Nat) (st : Nat → Nat) (sg pr a0 a1 : Nat → Int32) (sl : Int32) (ns : Nat) (xK xA xB bd : Nat → Int32) : Prop :=
  ns ≤ 256 ∧ ∃ b, cr_bx b bd ∧ (sl = 0 ∨ (sl = 1 ∧ cr_ok nc st sg pr a0 a1 xK xA xB b ns))
def lj_kept (nc : Nat) (st : Nat → Nat) (sg pr a0 a1 : Nat → Int32) (kp : Int32) (kc : Nat) (kK kA kB kI : Nat → Int32) : Prop :=
  kp = 0 ∨ (kp = 1 ∧ cr_kx nc st sg pr a0 a1 kc kK kA kB kI)
def lj_Q (nc nl : Nat) (st : Nat → Nat) (sl kp : Int32) (ns kc : Nat) (sg pr a0 a1 ar cs ow xK xA xB bd kK kA kB kI lh ph : Nat → Int32) : Prop :=
  cr_cls nc nl st cs ow sg pr a0 a1 ar ∧ cr_fix lh ph ∧ lj_buf nc st sg pr a0 a1 sl ns xK xA xB bd ∧ lj_kept nc st sg pr a0 a1 kp kc kK kA kB kI
theorem lj_sl {nc : Nat} {st : Nat → Nat} {sg pr a0 a1 : Nat → Int32} {sl : Int32} {ns : Nat} {xK xA xB bd : Nat → Int32} (h : lj_buf nc st sg pr a0 a1 sl ns xK xA xB bd) : sl = 0 ∨ sl = 1 := by
  obtain ⟨_, _, _, h | h⟩ := h
  · exact Or.inl h
  · exact Or.inr h.1
theorem lj_kp {nc : Nat} {st : Nat → Nat} {sg pr a0 a1 : Nat → Int32} {kp : Int32} {kc : Nat} {kK kA kB kI : Nat → Int32} (h : lj_kept nc st sg pr a0 a1 kp kc kK kA kB kI) : kp = 0 ∨ kp = 1 := by
  rcases h with h | h
  · exact Or.inl h
  · exact Or.inr h.1
theorem lj_buf0 {nc : Nat} {st : Nat → Nat} {sg pr a0 a1 xK xA xB bd : Nat → Int32} : lj_buf nc st sg pr a0 a1 0 0 xK xA xB (xe_fill 514 bd) :=
  ⟨Nat.zero_le _, _, cr_bx_id bd, Or.inl rfl⟩
theorem lj_buf_u {nc nc' : Nat} {st st' : Nat → Nat} {sg pr a0 a1 sg' pr' a0' a1' xK xA xB bd : Nat → Int32} {ns : Nat} (h : lj_buf nc st sg pr a0 a1 0 ns xK xA xB bd) : lj_buf nc' st' sg' pr' a0' a1' 0 ns xK xA xB bd := by
  obtain ⟨h1, b, hb, _⟩ := h
  exact ⟨h1, b, hb, Or.inl rfl⟩
theorem lj_buf_add {nc nl : Nat} {st : Nat → Nat} {sg pr a0 a1 : Nat → Int32} {v1 v2 v3 v4 : Int32} {sl : Int32} {ns : Nat} {xK xA xB bd : Nat → Int32} (hM : st nc ≤ nl)
    (h : lj_buf nc st sg pr a0 a1 sl ns xK xA xB bd) : lj_buf nc st (upd sg nl v1) (upd pr nl v2) (upd a0 nl v3) (upd a1 nl v4) sl ns xK xA xB bd := by
  unfold lj_buf cr_ok at h ⊢
  rw [cd_mk_upd hM, cd_mk_upd hM, cd_mk_upd hM, cd_mk_upd hM]
  exact h
theorem lj_kept_add {nc nl : Nat} {st : Nat → Nat} {sg pr a0 a1 : Nat → Int32} {v1 v2 v3 v4 : Int32} {kp : Int32} {kc : Nat} {kK kA kB kI : Nat → Int32} (hM : st nc ≤ nl)
    (h : lj_kept nc st sg pr a0 a1 kp kc kK kA kB kI) : lj_kept nc st (upd sg nl v1) (upd pr nl v2) (upd a0 nl v3) (upd a1 nl v4) kp kc kK kA kB kI := by
  unfold lj_kept cr_kx at h ⊢
  rw [cd_mk_upd hM, cd_mk_upd hM, cd_mk_upd hM, cd_mk_upd hM]
  exact h
section
variable {nc nl : Nat} {st : Nat → Nat} {sl kp ls : Int32} {ns kc : Nat} {sg pr a0 a1 ar cs ow xK xA xB bd kK kA kB kI lh ph : Nat → Int32} {w0 w1 w2 w3 : Int32} {X0 X1 X2 X3 X4 X5 X6 X7 X8 : Nat → Int32}
theorem lm_endClause {post : Int32 → St1 → Prop} (Q : lj_Q nc nl st sl kp ns kc sg pr a0 a1 ar cs ow xK xA xB bd kK kA kB kI lh ph) (h : ∀ (r : Int32) {nc nl : Nat} {st : Nat → Nat} {sl kp ls : Int32} {ns kc : Nat} {sg pr a0 a1 ar cs ow xK xA xB bd kK kA kB kI lh ph : Nat → Int32} {w0 w1 w2 w3 : Int32} {X0 X1 X2 X3 X4 X5 X6 X7 X8 : Nat → Int32}, lj_Q nc nl st sl kp ns kc sg pr a0 a1 ar cs ow xK xA xB bd kK kA kB kI lh ph → post r (nI nl, nI nc, nI ns, sl, ls, nI kc, kp, w0, w1, w2, w3, sg, pr, a0, a1, cs, ar, xK, xA, xB, bd, kK, kA, kB, kI, X0, X1, X2, X3, ph, X4, X5, X6, lh, X7, X8)) : wpX_endClause post (nI nl, nI nc, nI ns, sl, ls, nI kc, kp, w0, w1, w2, w3, sg, pr, a0, a1, cs, ar, xK, xA, xB, bd, kK, kA, kB, kI, X0, X1, X2, X3, ph, X4, X5, X6, lh, X7, X8) := by
  obtain ⟨h1, h2, h3, h4⟩ := id Q
  have hnc := h1.1.1
  by_cases hc : nc < 8
  · refine br_t (nI_lt (b := 8) hc (by decide)) ?_
    refine nm_r (nI_1 nc) ⟨vp_in_nI (by omega) (by decide), ?_⟩
    rw [nI_clamp (show nc + 1 < 2 ^ 31 by omega)]
    refine nm_e ?_
    have hcl := cr_cls_end h1 hc
    rcases lj_sl h3 with rfl | rfl
    · refine xe_forget (fun _ => ?_) (fun e => absurd rfl e)
      exact h _ (nc := nc + 1) ⟨hcl, h2, lj_buf_u h3, Or.inl rfl⟩
    · refine xe_forget (fun e => absurd e (by decide)) (fun _ => ?_)
      exact h _ (nc := nc + 1) (ns := 0) ⟨hcl, h2, lj_buf0, Or.inl rfl⟩
  · have e8 : nc = 8 := by omega
    subst e8
    exact br_f (nI_nlt (b := 8) (a := 8) (Nat.le_refl _) (by decide)) (h _ Q)
theorem lm_addLiteral {post : Int32 → St1 → Prop} (v1 v2 v3 v4 : Int32) (Q : lj_Q nc nl st sl kp ns kc sg pr a0 a1 ar cs ow xK xA xB bd kK kA kB kI lh ph) (h : ∀ (r : Int32) {nc nl : Nat} {st : Nat → Nat} {sl kp ls : Int32} {ns kc : Nat} {sg pr a0 a1 ar cs ow xK xA xB bd kK kA kB kI lh ph : Nat → Int32} {w0 w1 w2 w3 : Int32} {X0 X1 X2 X3 X4 X5 X6 X7 X8 : Nat → Int32}, lj_Q nc nl st sl kp ns kc sg pr a0 a1 ar cs ow xK xA xB bd kK kA kB kI lh ph → post r (nI nl, nI nc, nI ns, sl, ls, nI kc, kp, w0, w1, w2, w3, sg, pr, a0, a1, cs, ar, xK, xA, xB, bd, kK, kA, kB, kI, X0, X1, X2, X3, ph, X4, X5, X6, lh, X7, X8)) : wpX_addLiteral post (nI nl, nI nc, nI ns, sl, ls, nI kc, kp, w0, w1, w2, w3, sg, pr, a0, a1, cs, ar, xK, xA, xB, bd, kK, kA, kB, kI, X0, X1, X2, X3, ph, X4, X5, X6, lh, X7, X8) v1 v2 v3 v4 := by
  obtain ⟨h1, h2, h3, h4⟩ := id Q
  obtain ⟨hw, hcs, how⟩ := id h1
  obtain ⟨w1', w2', w3', w4', w5, w6, w7, w8⟩ := id hw
  refine xa_add (fun hz => h _ Q) (fun hz => ?_)
  by_cases hc : nc < 8
  · refine br_t (nI_lt (b := 8) hc (by decide)) ⟨vp_in_nI (by omega) (by decide), ?_⟩
    rw [nI_clamp (show nc < 2 ^ 31 by omega), hcs nc (Nat.le_refl _), pk_sub w5]
    refine pk_le 3 (nl - st nc) (fun e3 => h _ Q) (fun e3 => ?_)
    refine pk_lt nl 16 (fun e16 => ?_) (fun e16 => h _ Q)
    obtain ⟨p, hp, ep⟩ := hz.2.1
    subst ep
    have hin : vp_in (nI p) 4 := vp_in_nI hp (by decide)
    have hil : vp_in (nI nl) 16 := vp_in_nI e16 (by decide)
    have cp : (nI p).toNatClampNeg = p := nI_clamp (by omega)
    have cl : (nI nl).toNatClampNeg = nl := nI_clamp (by omega)
    have good : (ar p = -1 ∨ ar p = nI (ck_ar v3 v4)) → wX_addLiteral_132 post v1 (nI p) v3 v4 (nI (ck_ar v3 v4)) (nI nl) (nI nc) (nI ns) sl ls (nI kc) kp w0 w1 w2 w3 sg pr a0 a1 cs ar xK xA xB bd kK kA kB kI X0 X1 X2 X3 ph X4 X5 X6 lh X7 X8 := by
      intro har
      have hcl := cr_cls_add h1 hz hp hc (by omega) e16 har
      unfold wX_addLiteral_132
      rw [cp, cl]
      refine ⟨hin, nm_e ⟨hil, nm_e ⟨hil, nm_e ⟨hil, nm_e ⟨hil, nm_e (nm_r (nI_1 nl) ?_)⟩⟩⟩⟩⟩
      exact h _ (nl := nl + 1) ⟨hcl, h2, lj_buf_add w5 h3, lj_kept_add w5 h4⟩
    refine xa_arity ⟨hin, ?_⟩
    rw [cp]
    exact br_c (fun e => good (Or.inl e)) (fun e => ⟨hin, br_c (fun e2 => good (Or.inr e2)) (fun e2 => h _ Q)⟩)
  · have e8 : nc = 8 := by omega
    subst e8
    exact br_f (nI_nlt (b := 8) (a := 8) (Nat.le_refl _) (by decide)) (h _ Q)
theorem lm_clearProof {post : St1 → Prop} (Q : lj_Q nc nl st sl kp ns kc sg pr a0 a1 ar cs ow xK xA xB bd kK kA kB kI lh ph) (h : ∀ {nc nl : Nat} {st : Nat → Nat} {sl kp ls : Int32} {ns kc : Nat} {sg pr a0 a1 ar cs ow xK xA xB bd kK kA kB kI lh ph : Nat → Int32} {w0 w1 w2 w3 : Int32} {X0 X1 X2 X3 X4 X5 X6 X7 X8 : Nat → Int32}, lj_Q nc nl st sl kp ns kc sg pr a0 a1 ar cs ow xK xA xB bd kK kA kB kI lh ph → post (nI nl, nI nc, nI ns, sl, ls, nI kc, kp, w0, w1, w2, w3, sg, pr, a0, a1, cs, ar, xK, xA, xB, bd, kK, kA, kB, kI, X0, X1, X2, X3, ph, X4, X5, X6, lh, X7, X8)) : wpX_clearProof post (nI nl, nI nc, nI ns, sl, ls, nI kc, kp, w0, w1, w2, w3, sg, pr, a0, a1, cs, ar, xK, xA, xB, bd, kK, kA, kB, kI, X0, X1, X2, X3, ph, X4, X5, X6, lh, X7, X8) := by
  obtain ⟨h1, h2, h3, h4⟩ := id Q
  unfold wpX_clearProof
  dsimp only
  refine xe_empty (post := fun u' => post u') ?_
  exact h (ns := 0) ⟨h1, h2, lj_buf0, h4⟩
theorem lm_clearClauses {post : St1 → Prop} (Q : lj_Q nc nl st sl kp ns kc sg pr a0 a1 ar cs ow xK xA xB bd kK kA kB kI lh ph) (h : ∀ {nc nl : Nat} {st : Nat → Nat} {sl kp ls : Int32} {ns kc : Nat} {sg pr a0 a1 ar cs ow xK xA xB bd kK kA kB kI lh ph : Nat → Int32} {w0 w1 w2 w3 : Int32} {X0 X1 X2 X3 X4 X5 X6 X7 X8 : Nat → Int32}, lj_Q nc nl st sl kp ns kc sg pr a0 a1 ar cs ow xK xA xB bd kK kA kB kI lh ph → post (nI nl, nI nc, nI ns, sl, ls, nI kc, kp, w0, w1, w2, w3, sg, pr, a0, a1, cs, ar, xK, xA, xB, bd, kK, kA, kB, kI, X0, X1, X2, X3, ph, X4, X5, X6, lh, X7, X8)) : wpX_clearClauses post (nI nl, nI nc, nI ns, sl, ls, nI kc, kp, w0, w1, w2, w3, sg, pr, a0, a1, cs, ar, xK, xA, xB, bd, kK, kA, kB, kI, X0, X1, X2, X3, ph, X4, X5, X6, lh, X7, X8) := by
  obtain ⟨⟨hw, hcs, how⟩, h2, h3, h4⟩ := id Q
  have e0 : cs 0 = nI 0 := by rw [hcs 0 (Nat.zero_le _), hw.2.2.1]
  have hwf : cr_cls 0 0 (fun _ => 0) cs ow sg pr a0 a1 (xe_m1 4 ar) := by
    refine ⟨⟨Nat.zero_le _, Nat.zero_le _, rfl, fun c hc => absurd hc (Nat.not_lt_zero c), Nat.zero_le _, Nat.zero_le _, fun j hj => absurd hj (Nat.not_lt_zero j), fun p hp => Or.inl (if_pos hp)⟩, fun c hc => ?_, fun j hj => absurd hj (Nat.not_lt_zero j)⟩
    have : c = 0 := by omega
    rw [this]
    exact e0
  unfold wpX_clearClauses
  dsimp only
  refine xe_remove (post := fun u => wpX_forgetProofs (fun u' => post u') u) ?_
  rcases lj_sl h3 with rfl | rfl
  · refine xe_forget (fun _ => ?_) (fun e => absurd rfl e)
    exact h (nl := 0) (nc := 0) (st := fun _ => 0) ⟨hwf, h2, lj_buf_u h3, Or.inl rfl⟩
  · refine xe_forget (fun e => absurd e (by decide)) (fun _ => ?_)
    exact h (nl := 0) (nc := 0) (st := fun _ => 0) (ns := 0) ⟨hwf, h2, lj_buf0, Or.inl rfl⟩
theorem lm_addStep {post : Int32 → St1 → Prop} (v1 v2 v3 : Int32) (Q : lj_Q nc nl st sl kp ns kc sg pr a0 a1 ar cs ow xK xA xB bd kK kA kB kI lh ph) (h : ∀ (r : Int32) {nc nl : Nat} {st : Nat → Nat} {sl kp ls : Int32} {ns kc : Nat} {sg pr a0 a1 ar cs ow xK xA xB bd kK kA kB kI lh ph : Nat → Int32} {w0 w1 w2 w3 : Int32} {X0 X1 X2 X3 X4 X5 X6 X7 X8 : Nat → Int32}, lj_Q nc nl st sl kp ns kc sg pr a0 a1 ar cs ow xK xA xB bd kK kA kB kI lh ph → post r (nI nl, nI nc, nI ns, sl, ls, nI kc, kp, w0, w1, w2, w3, sg, pr, a0, a1, cs, ar, xK, xA, xB, bd, kK, kA, kB, kI, X0, X1, X2, X3, ph, X4, X5, X6, lh, X7, X8)) : wpX_addStep post (nI nl, nI nc, nI ns, sl, ls, nI kc, kp, w0, w1, w2, w3, sg, pr, a0, a1, cs, ar, xK, xA, xB, bd, kK, kA, kB, kI, X0, X1, X2, X3, ph, X4, X5, X6, lh, X7, X8) v1 v2 v3 := by
  obtain ⟨h1, h2, h3, h4⟩ := id Q
  rcases lj_sl h3 with rfl | rfl
  · refine br_t rfl ?_
    refine br_c (fun e => h _ Q) (fun e1 => br_c (fun e2 => ?_) (fun e2 => h _ Q))
    have hns := h3.1
    refine pk_lt ns 256 (fun hlt => ?_) (fun hge => h _ Q)
    have hin : vp_in (nI ns) 256 := vp_in_nI hlt (by decide)
    have cl : (nI ns).toNatClampNeg = ns := nI_clamp (by omega)
    rw [cl]
    refine ⟨hin, nm_e ⟨hin, nm_e ⟨hin, nm_e (nm_r (nI_1 ns) ?_)⟩⟩⟩
    obtain ⟨_, b, hb, _⟩ := h3
    exact h _ (ns := ns + 1) ⟨h1, h2, ⟨by omega, b, hb, Or.inl rfl⟩, h4⟩
  · exact br_f (by decide) (h _ Q)
theorem lm_bind {post : Int32 → St1 → Prop} (v1 v2 v3 v4 : Int32) (Q : lj_Q nc nl st sl kp ns kc sg pr a0 a1 ar cs ow xK xA xB bd kK kA kB kI lh ph) (h : ∀ (r : Int32) {nc nl : Nat} {st : Nat → Nat} {sl kp ls : Int32} {ns kc : Nat} {sg pr a0 a1 ar cs ow xK xA xB bd kK kA kB kI lh ph : Nat → Int32} {w0 w1 w2 w3 : Int32} {X0 X1 X2 X3 X4 X5 X6 X7 X8 : Nat → Int32}, lj_Q nc nl st sl kp ns kc sg pr a0 a1 ar cs ow xK xA xB bd kK kA kB kI lh ph → post r (nI nl, nI nc, nI ns, sl, ls, nI kc, kp, w0, w1, w2, w3, sg, pr, a0, a1, cs, ar, xK, xA, xB, bd, kK, kA, kB, kI, X0, X1, X2, X3, ph, X4, X5, X6, lh, X7, X8)) : wpX_bind post (nI nl, nI nc, nI ns, sl, ls, nI kc, kp, w0, w1, w2, w3, sg, pr, a0, a1, cs, ar, xK, xA, xB, bd, kK, kA, kB, kI, X0, X1, X2, X3, ph, X4, X5, X6, lh, X7, X8) v1 v2 v3 v4 := by
  obtain ⟨h1, h2, h3, h4⟩ := id Q
  rcases lj_sl h3 with rfl | rfl
  · refine xb_bind (fun hz => h _ Q) (fun hz => ?_)
    obtain ⟨⟨c, hc, rfl⟩, hw, ⟨t, ht, rfl⟩, hd⟩ := hz
    obtain ⟨w, hw2, rfl⟩ : ∃ w, (w = 2 ∨ w = 3) ∧ v2 = nI w := by
      rcases hw with e | e
      · exact ⟨2, Or.inl rfl, e⟩
      · exact ⟨3, Or.inr rfl, e⟩
    have hw3 : 2 ≤ w ∧ w ≤ 3 := by omega
    have eX : (2 : Int32) * nI c + nI w = nI (2 * c + w) := by
      rw [show (2 : Int32) = nI 2 from rfl, pk_mul, nI_add]
    have inX : vp_in (nI (2 * c + w)) 514 := vp_in_nI (by omega) (by decide)
    have cX : (nI (2 * c + w)).toNatClampNeg = 2 * c + w := nI_clamp (by omega)
    obtain ⟨hn, b, hb, _⟩ := h3
    by_cases hlt : t < 2
    · have n2 : nI t < 2 := nI_lt (b := 2) hlt (by decide)
      refine br_t n2 ?_
      rw [eX, cX]
      refine ⟨inX, nm_e ?_⟩
      exact h _ ⟨h1, h2, ⟨hn, _, cr_bx_put hb (by omega) (by omega), Or.inl rfl⟩, h4⟩
    · have n2 : ¬ nI t < 2 := nI_nlt (b := 2) (by omega) (by omega)
      obtain ⟨d, hd2, rfl⟩ := hd n2
      have eT : (2 : Int32) * nI d + nI t = nI (2 * d + t) := by
        rw [show (2 : Int32) = nI 2 from rfl, pk_mul, nI_add]
      refine br_f n2 ?_
      rw [eX, cX, eT]
      refine ⟨inX, nm_e ?_⟩
      exact h _ ⟨h1, h2, ⟨hn, _, cr_bx_put hb (by omega) (by omega), Or.inl rfl⟩, h4⟩
  · exact br_f (by decide) (h _ Q)
/-- the check: its answer with its step; valid if sealed; if valid, the clauses are refuted -/
theorem lm_check {post : Int32 → St1 → Prop} (Q : lj_Q nc nl st sl kp ns kc sg pr a0 a1 ar cs ow xK xA xB bd kK kA kB kI lh ph)
    (h : ∀ (r ls' x0 : Int32) (oc ol pc pl ph' : Nat → Int32), (sl = 1 → r = 0) → (r = 0 → ls' = -1 ∧ ¬ cq_sat (cg_HX nc st sg pr a0 a1 ar) (cg_RX nc st a0 a1) (fun _ => False)) → lj_Q nc nl st sl kp ns kc sg pr a0 a1 ar cs ow xK xA xB bd kK kA kB kI lh ph' → post r (nI nl, nI nc, nI ns, sl, ls', nI kc, kp, x0, w1, w2, w3, sg, pr, a0, a1, cs, ar, xK, xA, xB, bd, kK, kA, kB, kI, oc, ol, pc, pl, ph', X4, X5, X6, lh, X7, X8)) :
    wpX_check post (nI nl, nI nc, nI ns, sl, ls, nI kc, kp, w0, w1, w2, w3, sg, pr, a0, a1, cs, ar, xK, xA, xB, bd, kK, kA, kB, kI, X0, X1, X2, X3, ph, X4, X5, X6, lh, X7, X8) := by
  obtain ⟨⟨hw, hcs, how⟩, ⟨h2a, h2b⟩, ⟨hns, b, hb, hsl⟩, h4⟩ := id Q
  refine xk_check hw hcs hb hns h2b (fun x0 oc ol pc pl ph' hp0 => ?_)
  refine h _ _ _ _ _ _ _ _ (fun e => ?_) (fun e => ?_) ⟨⟨hw, hcs, how⟩, ⟨h2a, hp0⟩, ⟨hns, b, hb, hsl⟩, h4⟩
  · rcases hsl with z | ⟨_, z⟩
    · rw [z] at e
      exact absurd e (by decide)
    · unfold cr_ok at z
      rw [z]
  · have hall := lk_all1 e
    exact ⟨by rw [hall], sd_all hw hb.1 hb.2.1 hall⟩
end
end
section
/-! the law's small encodings -/
theorem le_pm : ∀ k, k < 16 → ∀ p, p < 4 → nI k ||| ((1 : Int32) <<< ((nI p &&& 3) &&& 31)) = nI (k ||| 2 ^ p) := by decide +kernel
theorem le_pm_b : ∀ k, k < 16 → ∀ p, p < 4 → (k ||| 2 ^ p) < 16 ∧ ∀ q, q < 4 → (k ||| 2 ^ p).testBit q = (k.testBit q || decide (q = p)) := by decide +kernel
theorem le_pm_r : ∀ k, k < 16 → ∀ q, q < 4 → ((nI k >>> (nI q &&& 31)) &&& 1) = if k.testBit q = true then 1 else 0 := by decide +kernel
def le_put (k p a : Nat) : Nat := if k / 4 ^ p % 4 = 0 then k + a * 4 ^ p else k
theorem le_ar : ∀ p, p < 4 → ∀ a, a < 3 → ∀ k, k < 256 → (k / 4 ^ p % 4 = 0 ∨ k / 4 ^ p % 4 = a) → nI k ||| (nI a <<< ((2 * (nI p &&& 3)) &&& 31)) = nI (le_put k p a) := by decide +kernel
theorem le_ar_d : ∀ p, p < 4 → ∀ a, a < 3 → ∀ k, k < 256 → (k / 4 ^ p % 4 = 0 ∨ k / 4 ^ p % 4 = a) → le_put k p a < 256 ∧ ∀ q, q < 4 → le_put k p a / 4 ^ q % 4 = if q = p then a else k / 4 ^ q % 4 := by decide +kernel
theorem le_ar_r : ∀ q, q < 4 → ∀ k, k < 256 → ((nI k >>> ((2 * nI q) &&& 31)) &&& 3) = nI (k / 4 ^ q % 4) := by decide +kernel
/-! a literal's number -/
def ll_A (x : Int32) : Nat := (x + 1).toNatClampNeg
theorem ll_A_eq {x : Int32} (h : cd_at x) : x + 1 = nI (ll_A x) ∧ ll_A x < 5 ∧ nI (ll_A x) - 1 = x := by
  unfold ll_A
  rcases h with e | ⟨t, ht, e⟩
  · subst e
    decide
  · subst e
    rw [nI_1, nI_clamp (by omega)]
    exact ⟨rfl, by omega, nI_pred t⟩
def ll_code (sg pr a0 a1 : Nat → Int32) (j : Nat) : Nat := 1000 * (sg j).toNatClampNeg + 100 * (pr j).toNatClampNeg + 10 * ll_A (a0 j) + ll_A (a1 j)
theorem ll_eq {s p : Nat} {u v : Int32} (hu : cd_at u) (hv : cd_at v) : ((((nI s * 1000) + (nI p * 100)) + ((u + 1) * 10)) + v) + 1 = nI (1000 * s + 100 * p + 10 * ll_A u + ll_A v) := by
  rw [Int32.add_assoc _ v 1, (ll_A_eq hu).1, (ll_A_eq hv).1, show (1000 : Int32) = nI 1000 from rfl, show (100 : Int32) = nI 100 from rfl, show (10 : Int32) = nI 10 from rfl, pk_mul, pk_mul, pk_mul, nI_add, nI_add, nI_add]
  exact congrArg nI (by omega)
theorem ll_d100 {k : Nat} (h : k < 10000) : (nI k / 100) - (nI k / 100) / 10 * 10 = nI (k / 100 % 10) := by
  rw [show (100 : Int32) = nI 100 from rfl, show (10 : Int32) = nI 10 from rfl, pk_div (by omega) (by omega) (by omega), pk_rem (by omega) (by omega) (by omega)]
theorem ll_d10 {k : Nat} (h : k < 10000) : (nI k / 10) - (nI k / 10) / 10 * 10 = nI (k / 10 % 10) := by
  rw [show (10 : Int32) = nI 10 from rfl, pk_div (by omega) (by omega) (by omega), pk_rem (by omega) (by omega) (by omega)]
theorem ll_d1 {k : Nat} (h : k < 10000) : nI k - nI k / 10 * 10 = nI (k % 10) := by
  rw [show (10 : Int32) = nI 10 from rfl, pk_rem (by omega) (by omega) (by omega)]
theorem ll_d1000 {k : Nat} (h : k < 10000) : nI k / 1000 = nI (k / 1000) := by
  rw [show (1000 : Int32) = nI 1000 from rfl, pk_div (by omega) (by omega) (by omega)]
/-- what the law reads out of a literal's number -/
theorem ll_dec {nc nl : Nat} {st : Nat → Nat} {sg pr a0 a1 ar : Nat → Int32} (hw : cd_wf nc nl st sg pr a0 a1 ar) {j : Nat} (hj : j < st nc) :
    nI (ll_code sg pr a0 a1 j) / 1000 = nI (sg j).toNatClampNeg ∧ (nI (ll_code sg pr a0 a1 j) / 100) - (nI (ll_code sg pr a0 a1 j) / 100) / 10 * 10 = nI (pr j).toNatClampNeg ∧
    ((nI (ll_code sg pr a0 a1 j) / 10) - (nI (ll_code sg pr a0 a1 j) / 10) / 10 * 10) - 1 = a0 j ∧ (nI (ll_code sg pr a0 a1 j) - nI (ll_code sg pr a0 a1 j) / 10 * 10) - 1 = a1 j := by
  have hjl : j < nl := Nat.lt_of_lt_of_le hj hw.2.2.2.2.1
  obtain ⟨l1, _, l3, l4, l5⟩ := hw.2.2.2.2.2.2.1 j hjl
  obtain ⟨s1, _, p1, _⟩ := cg_lit hw hj
  obtain ⟨_, A5, eA⟩ := ll_A_eq l3
  obtain ⟨_, B5, eB⟩ := ll_A_eq l4
  have hk : ll_code sg pr a0 a1 j < 10000 := by
    unfold ll_code
    omega
  rw [ll_d1000 hk, ll_d100 hk, ll_d10 hk, ll_d1 hk]
  unfold ll_code
  refine ⟨congrArg nI (by omega), congrArg nI (by omega), ?_, ?_⟩
  · rw [show (1000 * (sg j).toNatClampNeg + 100 * (pr j).toNatClampNeg + 10 * ll_A (a0 j) + ll_A (a1 j)) / 10 % 10 = ll_A (a0 j) by omega]
    exact eA
  · rw [show (1000 * (sg j).toNatClampNeg + 100 * (pr j).toNatClampNeg + 10 * ll_A (a0 j) + ll_A (a1 j)) % 10 = ll_A (a1 j) by omega]
    exact eB
theorem ll_sg {u : Int32} (h : cd_at u) : (0 ≤ u ↔ ¬ u = -1) := by
  rcases h with e | ⟨t, ht, e⟩
  · subst e
    decide
  · subst e
    have : t = 0 ∨ t = 1 ∨ t = 2 ∨ t = 3 := by omega
    rcases this with z | z | z | z <;> subst z <;> decide
theorem ll_ar {u v : Int32} (hu : cd_at u) (hv : cd_at v) {P : Int32 → Prop} (h : P (nI (ck_ar u v))) : ((0 ≤ u → (((0 ≤ v → P 2) ∧ (¬ 0 ≤ v → P 1)))) ∧ (¬ 0 ≤ u → P 0)) := by
  unfold ck_ar at h
  refine ek_if (ll_sg hu) (fun e => ek_if (ll_sg hv) (fun e2 => ?_) (fun e2 => ?_)) (fun e => ?_)
  · rw [if_neg e, if_neg e2] at h
    exact h
  · rw [if_neg e, if_pos (Classical.byContradiction e2)] at h
    exact h
  · rw [if_pos (Classical.byContradiction e)] at h
    exact h
section
variable {nc nl : Nat} {st : Nat → Nat} {sl kp ls : Int32} {ns kc : Nat} {sg pr a0 a1 ar cs ow xK xA xB bd kK kA kB kI lh ph : Nat → Int32} {w0 w1 w2 w3 : Int32} {X0 X1 X2 X3 X4 X5 X6 X7 X8 : Nat → Int32}
theorem ll_get {post : Int32 → Prop} (Q : lj_Q nc nl st sl kp ns kc sg pr a0 a1 ar cs ow xK xA xB bd kK kA kB kI lh ph) {c i : Nat} (hc : c < nc) (hi : i < st (c + 1) - st c) (h : post (nI (ll_code sg pr a0 a1 (st c + i)))) : wpX_getLiteral post (nI nl, nI nc, nI ns, sl, ls, nI kc, kp, w0, w1, w2, w3, sg, pr, a0, a1, cs, ar, xK, xA, xB, bd, kK, kA, kB, kI, X0, X1, X2, X3, ph, X4, X5, X6, lh, X7, X8) (nI c) (nI i) := by
  obtain ⟨⟨hw, hcs, how⟩, _⟩ := id Q
  have hnc := hw.1
  have hnl := hw.2.1
  have hM := hw.2.2.2.2.1
  have hst := cd_mono' hw (c := c + 1) (d := nc) (by omega) (Nat.le_refl _)
  have l3 := (hw.2.2.2.2.2.2.1 (st c + i) (by omega)).2.2.1
  have l4 := (hw.2.2.2.2.2.2.1 (st c + i) (by omega)).2.2.2.1
  have es := (cg_lit hw (show st c + i < st nc by omega)).2.1
  have ep := (cg_lit hw (show st c + i < st nc by omega)).2.2.2.1
  refine br_f (nI_pos (by omega)) ?_
  refine xl_len hw hcs (by omega) ?_
  rw [cd_en_lt hc]
  refine br_t (nI_lt hi (by omega)) ⟨vp_in_nI (by omega) (by decide), ?_⟩
  rw [nI_clamp (show c < 2 ^ 31 by omega), hcs c (by omega)]
  refine nm_r (nI_add _ _) ?_
  have hin : vp_in (nI (st c + i)) 16 := vp_in_nI (by omega) (by decide)
  rw [nI_clamp (show st c + i < 2 ^ 31 by omega)]
  refine ⟨hin, hin, hin, hin, ?_⟩
  have e := ll_eq (s := (sg (st c + i)).toNatClampNeg) (p := (pr (st c + i)).toNatClampNeg) l3 l4
  rw [← es, ← ep] at e
  rw [e]
  exact h
theorem ll_len {post : Int32 → Prop} (Q : lj_Q nc nl st sl kp ns kc sg pr a0 a1 ar cs ow xK xA xB bd kK kA kB kI lh ph) {c : Nat} (hc : c < nc) (h : post (nI (st (c + 1) - st c))) : wpX_getClauseLength post (nI nl, nI nc, nI ns, sl, ls, nI kc, kp, w0, w1, w2, w3, sg, pr, a0, a1, cs, ar, xK, xA, xB, bd, kK, kA, kB, kI, X0, X1, X2, X3, ph, X4, X5, X6, lh, X7, X8) (nI c) := by
  obtain ⟨⟨hw, hcs, how⟩, _⟩ := id Q
  refine xl_len hw hcs (by omega) ?_
  rw [cd_en_lt hc]
  exact h
end
/-! what the law counts -/
def lp_pm (pr : Nat → Int32) : Nat → Nat
  | 0 => 0
  | j + 1 => lp_pm pr j ||| 2 ^ (pr j).toNatClampNeg
def lp_ar (pr a0 a1 : Nat → Int32) : Nat → Nat
  | 0 => 0
  | j + 1 => le_put (lp_ar pr a0 a1 j) (pr j).toNatClampNeg (ck_ar (a0 j) (a1 j))
theorem lp_pm_ok {nc nl : Nat} {st : Nat → Nat} {sg pr a0 a1 ar : Nat → Int32} (hw : cd_wf nc nl st sg pr a0 a1 ar) : ∀ j, j ≤ st nc → lp_pm pr j < 16 ∧ ∀ q, q < 4 → (lp_pm pr j).testBit q = cg_op pr q j
  | 0, _ => ⟨show 0 < 16 by decide, fun q _ => Nat.zero_testBit q⟩
  | j + 1, hj => by
    obtain ⟨h1, h2⟩ := lp_pm_ok hw j (by omega)
    obtain ⟨_, _, p1, ep, _⟩ := cg_lit hw (show j < st nc by omega)
    obtain ⟨k1, k2⟩ := le_pm_b _ h1 _ p1
    refine ⟨k1, fun q hq => ?_⟩
    show (lp_pm pr j ||| 2 ^ (pr j).toNatClampNeg).testBit q = (cg_op pr q j || decide (pr j = nI q))
    rw [k2 q hq, h2 q hq]
    have : decide (q = (pr j).toNatClampNeg) = decide (pr j = nI q) := by
      apply decide_eq_decide.mpr
      constructor
      · intro e
        rw [e]
        exact ep
      · intro e
        rw [e, nI_clamp (by omega)]
    rw [this]
theorem lp_ar_ok {nc nl : Nat} {st : Nat → Nat} {sg pr a0 a1 ar : Nat → Int32} (hw : cd_wf nc nl st sg pr a0 a1 ar) : ∀ j, j ≤ st nc → lp_ar pr a0 a1 j < 256 ∧ ∀ q, q < 4 → lp_ar pr a0 a1 j / 4 ^ q % 4 = if cg_op pr q j = true then (ar q).toNatClampNeg else 0
  | 0, _ => ⟨show 0 < 256 by decide, fun q _ => by
      show 0 / 4 ^ q % 4 = if false = true then _ else 0
      rw [Nat.zero_div, if_neg (by decide)]⟩
  | j + 1, hj => by
    obtain ⟨h1, h2⟩ := lp_ar_ok hw j (by omega)
    obtain ⟨_, _, p1, ep, ea, _, _, _, a2⟩ := cg_lit hw (show j < st nc by omega)
    have hd : lp_ar pr a0 a1 j / 4 ^ (pr j).toNatClampNeg % 4 = 0 ∨ lp_ar pr a0 a1 j / 4 ^ (pr j).toNatClampNeg % 4 = ck_ar (a0 j) (a1 j) := by
      rw [h2 _ p1]
      by_cases o : cg_op pr (pr j).toNatClampNeg j = true
      · rw [if_pos o, ea]
        exact Or.inr rfl
      · rw [if_neg o]
        exact Or.inl rfl
    obtain ⟨k1, k2⟩ := le_ar_d _ p1 _ (show ck_ar (a0 j) (a1 j) < 3 by omega) _ h1 hd
    refine ⟨k1, fun q hq => ?_⟩
    show le_put (lp_ar pr a0 a1 j) (pr j).toNatClampNeg (ck_ar (a0 j) (a1 j)) / 4 ^ q % 4 = if (cg_op pr q j || decide (pr j = nI q)) = true then (ar q).toNatClampNeg else 0
    rw [k2 q hq]
    by_cases e : q = (pr j).toNatClampNeg
    · rw [if_pos e, decide_eq_true (show pr j = nI q by rw [e]; exact ep), Bool.or_true, if_pos rfl, e, ea]
    · have ne : ¬ pr j = nI q := by
        intro z
        apply e
        rw [z, nI_clamp (by omega)]
      rw [if_neg e, h2 q hq, decide_eq_false ne, Bool.or_false]
theorem lp_ar_step {nc nl : Nat} {st : Nat → Nat} {sg pr a0 a1 ar : Nat → Int32} (hw : cd_wf nc nl st sg pr a0 a1 ar) {j : Nat} (hj : j < st nc) :
    nI (lp_ar pr a0 a1 j) ||| (nI (ck_ar (a0 j) (a1 j)) <<< ((2 * (nI (pr j).toNatClampNeg &&& 3)) &&& 31)) = nI (lp_ar pr a0 a1 (j + 1)) := by
  obtain ⟨h1, h2⟩ := lp_ar_ok hw j (by omega)
  obtain ⟨_, _, p1, ep, ea, _, _, _, a2⟩ := cg_lit hw hj
  refine le_ar _ p1 _ (by omega) _ h1 ?_
  rw [h2 _ p1]
  by_cases o : cg_op pr (pr j).toNatClampNeg j = true
  · rw [if_pos o, ea]
    exact Or.inr rfl
  · rw [if_neg o]
    exact Or.inl rfl
theorem lp_pm_step {nc nl : Nat} {st : Nat → Nat} {sg pr a0 a1 ar : Nat → Int32} (hw : cd_wf nc nl st sg pr a0 a1 ar) {j : Nat} (hj : j < st nc) :
    nI (lp_pm pr j) ||| ((1 : Int32) <<< ((nI (pr j).toNatClampNeg &&& 3) &&& 31)) = nI (lp_pm pr (j + 1)) := by
  obtain ⟨h1, h2⟩ := lp_pm_ok hw j (by omega)
  obtain ⟨_, _, p1, _⟩ := cg_lit hw hj
  exact le_pm _ h1 _ p1
end
section
/-! the law's own functions -/
theorem lf_pw {post : Int32 → Prop} {u e : Nat} (he : e < 2 ^ 30) (h : post (nI (u ^ e))) : wpL_pw post () (nI u) (nI e) := by
  have key : ∀ d k : Nat, k + d = e → wL_pw_4 post (nI u) (nI e) (d + 1) (nI (u ^ k)) (nI k) := by
    intro d
    induction d with
    | zero =>
      intro k hk
      have : k = e := by omega
      subst this
      exact br_t (nI_le (Nat.le_refl k) (by omega)) h
    | succ d ih =>
      intro k hk
      have em : nI (u ^ k) * nI u = nI (u ^ (k + 1)) := by rw [pk_mul, Nat.pow_succ]
      exact br_f (nI_ge (show k < e by omega) (by omega)) (nm_r em (nm_r (nI_1 k) (ih (k + 1) (by omega))))
  exact ⟨e + 1, key e 0 (by omega)⟩
def lf_ok (pr ar : Nat → Int32) (M PM AR : Nat) : Prop :=
  (PM < 16 ∧ ∀ q, q < 4 → PM.testBit q = cg_op pr q M) ∧ (AR < 256 ∧ ∀ q, q < 4 → AR / 4 ^ q % 4 = if cg_op pr q M = true then (ar q).toNatClampNeg else 0)
theorem lf_dig {k q : Nat} : k / 4 ^ q % 4 < 4 := Nat.mod_lt _ (by decide)
theorem lf_off {post : Int32 → Prop} {pr ar : Nat → Int32} {M PM AR : Nat} {two : Bool} (ho : lf_ok pr ar M PM AR) {p : Nat} (hp : p < 4) (h : post (nI (cg_base pr ar M two p))) :
    wpL_offset post () (nI p) (nI PM) (nI AR) (nI (cg_sz two)) := by
  obtain ⟨⟨p1, p2⟩, r1, r2⟩ := ho
  have key : ∀ d q : Nat, q + d = p → wL_offset_6 post (nI p) (nI PM) (nI AR) (nI (cg_sz two)) (d + 1) (nI (cg_base pr ar M two q)) (nI q) := by
    intro d
    induction d with
    | zero =>
      intro q hq
      have : q = p := by omega
      subst this
      exact br_t (nI_le (Nat.le_refl q) (by omega)) h
    | succ d ih =>
      intro q hq
      have ih2 := ih (q + 1) (by omega)
      rw [cg_base] at ih2
      unfold cg_at at ih2
      refine br_f (nI_ge (show q < p by omega) (by omega)) ?_
      rw [le_pm_r PM p1 q (by omega), p2 q (by omega), le_ar_r q (by omega) AR r1, r2 q (by omega)]
      by_cases o : cg_op pr q M = true
      · rw [if_pos o] at ih2
        rw [if_pos o, if_pos o]
        have l4 : (ar q).toNatClampNeg < 4 := by
          have := lf_dig (k := AR) (q := q)
          rw [r2 q (by omega), if_pos o] at this
          exact this
        exact br_f (by decide) (lf_pw (by omega) (nm_r (nI_add _ _) (nm_r (nI_1 q) ih2)))
      · rw [if_neg o, Nat.add_zero] at ih2
        rw [if_neg o, if_neg o]
        exact br_t rfl (nm_r (nI_1 q) ih2)
  exact ⟨p + 1, key p 0 (by omega)⟩
theorem lf_cb3 (o0 o1 : Bool) : nI (cg_cb o0 o1) = 3 ↔ (o0 && o1) = true := by
  cases o0 <;> cases o1 <;> decide
theorem lf_ti {post : Int32 → Prop} {o0 o1 : Bool} {t : Int32} {n : Nat} (hn : n < 4) (e : t = nI n) {x y : Nat} (hxy : ¬ (o0 && o1) = true → x = 0 ∧ y = 0) (h : post (nI (if (o0 && o1) = true then cg_vl t x y else 0))) :
    wpL_ti post () t (nI x) (nI y) (nI (cg_cb o0 o1)) := by
  unfold cg_vl at h
  refine br_c (fun e2 => ?_) (fun e2 => br_c (fun e3 => ?_) (fun e3 => ek_if (lf_cb3 o0 o1) (fun z => ?_) (fun z => ?_)))
  · by_cases z : (o0 && o1) = true
    · rw [if_pos z, if_pos e2] at h
      exact h
    · rw [if_neg z] at h
      rw [(hxy z).1]
      exact h
  · by_cases z : (o0 && o1) = true
    · rw [if_pos z, if_neg e2, if_pos e3] at h
      exact h
    · rw [if_neg z] at h
      rw [(hxy z).2]
      exact h
  · rw [if_pos z, if_neg e2, if_neg e3, e, nI_clamp (by omega)] at h
    rw [e]
    exact h
  · rw [if_neg z] at h
    exact h
theorem lf_bit : ∀ m, m < 32 → ∀ a, a < 5 → ((nI m >>> (nI a &&& 31)) &&& 1) = (if m.testBit a = true then 1 else 0) := by decide +kernel
theorem lf_105 {post : Int32 → Prop} {pr ar : Nat → Int32} {M PM AR : Nat} {two : Bool} (ho : lf_ok pr ar M PM AR) {p t s tup : Nat} (hp : p < 4) (ht : t < 32) (hs : s < 2) (ha : cg_base pr ar M two p + tup < 5)
    (h1 : cq_tr (cg_tb t) (2 * (cg_base pr ar M two p + tup) + s) → post 1) (h0 : ¬ cq_tr (cg_tb t) (2 * (cg_base pr ar M two p + tup) + s) → post 0) :
    wL_holds_105 post (nI t) (nI (cg_sz two)) (nI PM) (nI AR) (nI s) (nI p) (nI tup) := by
  refine lf_off ho hp (nm_r (nI_add _ _) (nm_r (lf_bit t ht _ ha) ?_))
  unfold cq_tr cg_tb at h1 h0
  rw [show (2 * (cg_base pr ar M two p + tup) + s) / 2 = cg_base pr ar M two p + tup by omega, show (2 * (cg_base pr ar M two p + tup) + s) % 2 = s by omega] at h1 h0
  have cs : s = 0 ∨ s = 1 := by omega
  rcases cs with z | z
  · subst z
    refine br_t rfl ?_
    by_cases b : t.testBit (cg_base pr ar M two p + tup) = true
    · rw [if_pos b]
      exact br_t rfl (h1 (by rw [b]; rfl))
    · rw [if_neg b]
      exact br_f (by decide) (h0 (fun y => b (by rw [y]; rfl)))
  · subst z
    refine br_f (by decide) ?_
    by_cases b : t.testBit (cg_base pr ar M two p + tup) = true
    · rw [if_pos b]
      exact br_f (by decide) (h0 (fun y => by rw [b] at y; exact absurd y (by decide)))
    · rw [if_neg b]
      exact br_t rfl (h1 (by rw [Bool.not_eq_true] at b; rw [b]; rfl))
theorem lf_holds {post : Int32 → Prop} {nc nl : Nat} {st : Nat → Nat} {sg pr a0 a1 ar : Nat → Int32} (hw : cd_wf nc nl st sg pr a0 a1 ar) {PM AR : Nat} (ho : lf_ok pr ar (st nc) PM AR) (h5 : cg_base pr ar (st nc) (cg_oc a0 a1 0 (st nc) && cg_oc a0 a1 1 (st nc)) 4 ≤ 5) {j : Nat} (hj : j < st nc)
    {t x y : Nat} (ht : t < 32) (hx : x < 2) (hy : y < 2) (hxy : ¬ (cg_oc a0 a1 0 (st nc) && cg_oc a0 a1 1 (st nc)) = true → x = 0 ∧ y = 0)
    (h1 : cq_tr (cg_tb t) (cg_gl sg pr a0 a1 ar (st nc) (cg_oc a0 a1 0 (st nc) && cg_oc a0 a1 1 (st nc)) j x y) → post 1) (h0 : ¬ cq_tr (cg_tb t) (cg_gl sg pr a0 a1 ar (st nc) (cg_oc a0 a1 0 (st nc) && cg_oc a0 a1 1 (st nc)) j x y) → post 0) :
    wpL_holds post () (nI (ll_code sg pr a0 a1 j)) (nI t) (nI x) (nI y) (nI (cg_sz (cg_oc a0 a1 0 (st nc) && cg_oc a0 a1 1 (st nc)))) (nI (cg_cb (cg_oc a0 a1 0 (st nc)) (cg_oc a0 a1 1 (st nc)))) (nI PM) (nI AR) := by
  have hjl : j < nl := Nat.lt_of_lt_of_le hj hw.2.2.2.2.1
  obtain ⟨_, _, l3, l4, l5⟩ := hw.2.2.2.2.2.2.1 j hjl
  obtain ⟨s1, _, p1, _, _, _, f0, f1, a2⟩ := cg_lit hw hj
  obtain ⟨d1, d2, d3, d4⟩ := ll_dec hw hj
  have hlt := cg_tup_lt (two := (cg_oc a0 a1 0 (st nc) && cg_oc a0 a1 1 (st nc))) hw hj hx hy
  have hb := cg_base_lt (pr := pr) (ar := ar) (M := st nc) (two := (cg_oc a0 a1 0 (st nc) && cg_oc a0 a1 1 (st nc))) p1
  refine ⟨by decide, nm_r d1 ⟨by decide, by decide, nm_r d2 ⟨by decide, by decide, nm_r d3 ⟨by decide, nm_r d4 ?_⟩⟩⟩⟩
  refine ll_ar l3 l4 (P := fun z => wL_holds_54 post (nI t) (nI x) (nI y) (nI (cg_sz (cg_oc a0 a1 0 (st nc) && cg_oc a0 a1 1 (st nc)))) (nI (cg_cb (cg_oc a0 a1 0 (st nc)) (cg_oc a0 a1 1 (st nc)))) (nI PM) (nI AR) (nI (sg j).toNatClampNeg) (nI (pr j).toNatClampNeg) (a0 j) (a1 j) z) ?_
  have fin : wL_holds_105 post (nI t) (nI (cg_sz (cg_oc a0 a1 0 (st nc) && cg_oc a0 a1 1 (st nc)))) (nI PM) (nI AR) (nI (sg j).toNatClampNeg) (nI (pr j).toNatClampNeg) (nI (cg_tup a0 a1 (cg_oc a0 a1 0 (st nc) && cg_oc a0 a1 1 (st nc)) j x y)) :=
    lf_105 ho p1 ht s1 (by omega) h1 h0
  have c : ck_ar (a0 j) (a1 j) = 0 ∨ ck_ar (a0 j) (a1 j) = 1 ∨ ck_ar (a0 j) (a1 j) = 2 := by omega
  have ez : ∀ {A B : Nat}, (if (cg_oc a0 a1 0 (st nc) && cg_oc a0 a1 1 (st nc)) = true then A else 0) = B → (if (cg_oc a0 a1 0 (st nc) && cg_oc a0 a1 1 (st nc)) = true then A else 0) = B := fun h => h
  rcases c with c | c | c
  · have et : cg_tup a0 a1 (cg_oc a0 a1 0 (st nc) && cg_oc a0 a1 1 (st nc)) j x y = 0 := by
      unfold cg_tup
      rw [c, if_pos rfl]
      split <;> rfl
    rw [et] at fin
    rw [c]
    exact br_t rfl fin
  · obtain ⟨n, hn, e⟩ := f0 (by omega)
    have et : cg_tup a0 a1 (cg_oc a0 a1 0 (st nc) && cg_oc a0 a1 1 (st nc)) j x y = if (cg_oc a0 a1 0 (st nc) && cg_oc a0 a1 1 (st nc)) = true then cg_vl (a0 j) x y else 0 := by
      unfold cg_tup
      rw [c, if_neg (show ¬ (1 : Nat) = 0 by decide), if_pos (show (1 : Nat) = 1 from rfl)]
    rw [et] at fin
    rw [c]
    exact br_f (by decide) (br_t rfl (lf_ti hn e hxy fin))
  · obtain ⟨n, hn, e⟩ := f0 (by omega)
    obtain ⟨n2, hn2, e2⟩ := f1 (by omega)
    have et : cg_tup a0 a1 (cg_oc a0 a1 0 (st nc) && cg_oc a0 a1 1 (st nc)) j x y = (if (cg_oc a0 a1 0 (st nc) && cg_oc a0 a1 1 (st nc)) = true then cg_vl (a0 j) x y else 0) * cg_sz (cg_oc a0 a1 0 (st nc) && cg_oc a0 a1 1 (st nc)) + (if (cg_oc a0 a1 0 (st nc) && cg_oc a0 a1 1 (st nc)) = true then cg_vl (a1 j) x y else 0) := by
      unfold cg_tup
      rw [c, if_neg (show ¬ (2 : Nat) = 0 by decide), if_neg (show ¬ (2 : Nat) = 1 by decide)]
      by_cases z : (cg_oc a0 a1 0 (st nc) && cg_oc a0 a1 1 (st nc)) = true
      · rw [if_pos z, if_pos z, if_pos z]
        unfold cg_sz
        rw [if_pos z]
        omega
      · rw [if_neg z, if_neg z, if_neg z]
        omega
    rw [et] at fin
    rw [c]
    refine br_f (by decide) (br_f (by decide) (lf_ti hn e hxy (lf_ti hn2 e2 hxy ?_)))
    rw [pk_mul, nI_add]
    exact fin
theorem lf_cell {post : Int32 → Prop} {L : Nat} {xs : Nat → Int32} {i : Nat} (hL : L ≤ 260) (hi : i < 1000) (h : ∀ r, post r) : wpL_cell post L xs () (nI i) := by
  refine pk_le L i (fun e => h _) (fun e => ⟨vp_in_nI e (by omega), h _⟩) rfl rfl (by omega) (by omega)
end
section
/-! the law counts predicates, arities and constants -/
section
variable {f_litCount f_clauseCount f_stepCount f_bufferSealed f_lastCheckStep f_keptCount f_proofKept f_openCount f_universeSize f_neededInstances f_givenLiterals : Int32} {a_litSign a_litPred a_litArg0 a_litArg1 a_clauseStart a_predArity a_stepKind a_stepA a_stepB a_binding a_keptKind a_keptA a_keptB a_keptInstance a_openCopy a_openLit a_parentCopy a_parentLit a_pathLength a_atomBase a_instanceLits a_instanceHolds a_literalHolds a_restInstances a_pathLiterals : Nat → Int32}
theorem lc_517 {post : Int32 → Prop} {L : Nat} {xs : Nat → Int32} {J10 : Int32 → Int32 → Int32 → Int32 → Int32 → Int32 → Int32 → Int32 → Int32 → Int32 → Int32 → Int32 → (Nat → Int32) → (Nat → Int32) → (Nat → Int32) → (Nat → Int32) → (Nat → Int32) → (Nat → Int32) → (Nat → Int32) → (Nat → Int32) → (Nat → Int32) → (Nat → Int32) → (Nat → Int32) → (Nat → Int32) → (Nat → Int32) → (Nat → Int32) → (Nat → Int32) → (Nat → Int32) → (Nat → Int32) → (Nat → Int32) → (Nat → Int32) → (Nat → Int32) → (Nat → Int32) → (Nat → Int32) → (Nat → Int32) → (Nat → Int32) → (Nat → Int32) → Prop} {J389 J407 : Int32 → Int32 → Int32 → Int32 → Prop} {y2 y6 y7 y8 y9 y11 y12 y13 y16 y17 : Int32} {mc ms : Nat} {o0 o1 : Bool}
    (h : J407 y8 y9 (nI (cg_cb o0 (o1 || decide (y16 = 1 ∨ y17 = 1)))) (y13 + 1)) :
    wL_law_517 post L xs J10 J389 J407 y2 y6 y7 y8 y9 (nI (cg_cb o0 o1)) y11 y12 y13 y16 y17 mc ms f_litCount f_clauseCount f_stepCount f_bufferSealed f_lastCheckStep f_keptCount f_proofKept f_openCount f_universeSize f_neededInstances f_givenLiterals a_litSign a_litPred a_litArg0 a_litArg1 a_clauseStart a_predArity a_stepKind a_stepA a_stepB a_binding a_keptKind a_keptA a_keptB a_keptInstance a_openCopy a_openLit a_parentCopy a_parentLit a_pathLength a_atomBase a_instanceLits a_instanceHolds a_literalHolds a_restInstances a_pathLiterals := by
  refine br_c (fun e => ?_) (fun e => br_c (fun e2 => ?_) (fun e2 => ?_))
  · have hd : decide (y16 = 1 ∨ y17 = 1) = true := decide_eq_true (Or.inl e)
    rw [hd, Bool.or_true] at h
    exact nm_r (cg_or2 o0 o1) (nm_e h)
  · have hd : decide (y16 = 1 ∨ y17 = 1) = true := decide_eq_true (Or.inr e2)
    rw [hd, Bool.or_true] at h
    exact nm_r (cg_or2 o0 o1) (nm_e h)
  · have hn : ¬ (y16 = 1 ∨ y17 = 1) := fun z => z.elim e e2
    rw [decide_eq_false hn, Bool.or_false] at h
    exact nm_e h
theorem lc_474 {post : Int32 → Prop} {L : Nat} {xs : Nat → Int32} {J10 : Int32 → Int32 → Int32 → Int32 → Int32 → Int32 → Int32 → Int32 → Int32 → Int32 → Int32 → Int32 → (Nat → Int32) → (Nat → Int32) → (Nat → Int32) → (Nat → Int32) → (Nat → Int32) → (Nat → Int32) → (Nat → Int32) → (Nat → Int32) → (Nat → Int32) → (Nat → Int32) → (Nat → Int32) → (Nat → Int32) → (Nat → Int32) → (Nat → Int32) → (Nat → Int32) → (Nat → Int32) → (Nat → Int32) → (Nat → Int32) → (Nat → Int32) → (Nat → Int32) → (Nat → Int32) → (Nat → Int32) → (Nat → Int32) → (Nat → Int32) → (Nat → Int32) → Prop} {J389 J407 : Int32 → Int32 → Int32 → Int32 → Prop} {y2 y6 y7 y8 y9 y11 y12 y13 y15 y16 y17 z0 : Int32} {mc ms : Nat} {o0 o1 : Bool}
    (h : J407 (y8 ||| ((1 : Int32) <<< ((y15 &&& 3) &&& 31))) (y9 ||| (z0 <<< ((2 * (y15 &&& 3)) &&& 31))) (nI (cg_cb (o0 || decide (y16 = 0 ∨ y17 = 0)) (o1 || decide (y16 = 1 ∨ y17 = 1)))) (y13 + 1)) :
    wL_law_474 post L xs J10 J389 J407 y2 y6 y7 y8 y9 (nI (cg_cb o0 o1)) y11 y12 y13 y15 y16 y17 z0 mc ms f_litCount f_clauseCount f_stepCount f_bufferSealed f_lastCheckStep f_keptCount f_proofKept f_openCount f_universeSize f_neededInstances f_givenLiterals a_litSign a_litPred a_litArg0 a_litArg1 a_clauseStart a_predArity a_stepKind a_stepA a_stepB a_binding a_keptKind a_keptA a_keptB a_keptInstance a_openCopy a_openLit a_parentCopy a_parentLit a_pathLength a_atomBase a_instanceLits a_instanceHolds a_literalHolds a_restInstances a_pathLiterals := by
  refine nm_e (nm_e (br_c (fun e => ?_) (fun e => br_c (fun e2 => ?_) (fun e2 => ?_))))
  · have hd : decide (y16 = 0 ∨ y17 = 0) = true := decide_eq_true (Or.inl e)
    rw [hd, Bool.or_true] at h
    exact nm_r (cg_or1 o0 o1) (lc_517 h)
  · have hd : decide (y16 = 0 ∨ y17 = 0) = true := decide_eq_true (Or.inr e2)
    rw [hd, Bool.or_true] at h
    exact nm_r (cg_or1 o0 o1) (lc_517 h)
  · have hn : ¬ (y16 = 0 ∨ y17 = 0) := fun z => z.elim e e2
    rw [decide_eq_false hn, Bool.or_false] at h
    exact lc_517 h
end
section
variable {nc nl : Nat} {st : Nat → Nat} {sl kp ls : Int32} {ns kc : Nat} {sg pr a0 a1 ar cs ow xK xA xB bd kK kA kB kI lh ph : Nat → Int32} {w0 w1 w2 w3 : Int32} {X0 X1 X2 X3 X4 X5 X6 X7 X8 : Nat → Int32}
theorem lc_407 {post : Int32 → Prop} {L : Nat} {xs : Nat → Int32} {J10 : Int32 → Int32 → Int32 → Int32 → Int32 → Int32 → Int32 → Int32 → Int32 → Int32 → Int32 → Int32 → (Nat → Int32) → (Nat → Int32) → (Nat → Int32) → (Nat → Int32) → (Nat → Int32) → (Nat → Int32) → (Nat → Int32) → (Nat → Int32) → (Nat → Int32) → (Nat → Int32) → (Nat → Int32) → (Nat → Int32) → (Nat → Int32) → (Nat → Int32) → (Nat → Int32) → (Nat → Int32) → (Nat → Int32) → (Nat → Int32) → (Nat → Int32) → (Nat → Int32) → (Nat → Int32) → (Nat → Int32) → (Nat → Int32) → (Nat → Int32) → (Nat → Int32) → Prop} {J389 : Int32 → Int32 → Int32 → Int32 → Prop} {y2 y6 y7 : Int32} {mc ms : Nat} (Q : lj_Q nc nl st sl kp ns kc sg pr a0 a1 ar cs ow xK xA xB bd kK kA kB kI lh ph) {c : Nat} (hc : c < nc)
    (h : J389 (nI (lp_pm pr (st (c + 1)))) (nI (lp_ar pr a0 a1 (st (c + 1)))) (nI (cg_cb (cg_oc a0 a1 0 (st (c + 1))) (cg_oc a0 a1 1 (st (c + 1))))) (nI (c + 1))) :
    ∀ d i : Nat, i + d = st (c + 1) - st c → wL_law_407 post L xs J10 J389 y2 y6 y7 (nI c) (nI (st (c + 1) - st c)) mc ms (nI nl) (nI nc) (nI ns) sl ls (nI kc) kp w0 w1 w2 w3 sg pr a0 a1 cs ar xK xA xB bd kK kA kB kI X0 X1 X2 X3 ph X4 X5 X6 lh X7 X8 (d + 1) (nI (lp_pm pr (st c + i))) (nI (lp_ar pr a0 a1 (st c + i))) (nI (cg_cb (cg_oc a0 a1 0 (st c + i)) (cg_oc a0 a1 1 (st c + i)))) (nI i) := by
  obtain ⟨⟨hw, hcs, how⟩, _⟩ := id Q
  have hnc := hw.1
  have hnl := hw.2.1
  have hM := hw.2.2.2.2.1
  have hst := cd_mono' hw (c := c + 1) (d := nc) (by omega) (Nat.le_refl _)
  have hcc := (hw.2.2.2.1 c hc).1
  intro d
  induction d with
  | zero =>
    intro i hi
    have e : st c + i = st (c + 1) := by omega
    rw [e]
    exact br_t (nI_le (by omega) (by omega)) (nm_r (nI_1 c) h)
  | succ d ih =>
    intro i hi
    have hj : st c + i < st nc := by omega
    obtain ⟨_, _, l3, l4, _⟩ := hw.2.2.2.2.2.2.1 (st c + i) (by omega)
    obtain ⟨d1, d2, d3, d4⟩ := ll_dec hw hj
    refine br_f (nI_ge (show i < st (c + 1) - st c by omega) (by omega)) (ll_get Q hc (show i < st (c + 1) - st c by omega) ?_)
    refine ⟨by decide, by decide, nm_r d2 ⟨by decide, by decide, nm_r d3 ⟨by decide, nm_r d4 ?_⟩⟩⟩
    refine ll_ar l3 l4 (P := fun z => wL_law_474 post L xs J10 J389 (wL_law_407 post L xs J10 J389 y2 y6 y7 (nI c) (nI (st (c + 1) - st c)) mc ms (nI nl) (nI nc) (nI ns) sl ls (nI kc) kp w0 w1 w2 w3 sg pr a0 a1 cs ar xK xA xB bd kK kA kB kI X0 X1 X2 X3 ph X4 X5 X6 lh X7 X8 (d + 1)) y2 y6 y7 (nI (lp_pm pr (st c + i))) (nI (lp_ar pr a0 a1 (st c + i))) (nI (cg_cb (cg_oc a0 a1 0 (st c + i)) (cg_oc a0 a1 1 (st c + i)))) (nI c) (nI (st (c + 1) - st c)) (nI i) (nI (pr (st c + i)).toNatClampNeg) (a0 (st c + i)) (a1 (st c + i)) z mc ms (nI nl) (nI nc) (nI ns) sl ls (nI kc) kp w0 w1 w2 w3 sg pr a0 a1 cs ar xK xA xB bd kK kA kB kI X0 X1 X2 X3 ph X4 X5 X6 lh X7 X8) ?_
    refine lc_474 ?_
    rw [lp_pm_step hw hj, lp_ar_step hw hj, nI_1]
    exact ih (i + 1) (by omega)
theorem lc_389 {post : Int32 → Prop} {L : Nat} {xs : Nat → Int32} {J10 : Int32 → Int32 → Int32 → Int32 → Int32 → Int32 → Int32 → Int32 → Int32 → Int32 → Int32 → Int32 → (Nat → Int32) → (Nat → Int32) → (Nat → Int32) → (Nat → Int32) → (Nat → Int32) → (Nat → Int32) → (Nat → Int32) → (Nat → Int32) → (Nat → Int32) → (Nat → Int32) → (Nat → Int32) → (Nat → Int32) → (Nat → Int32) → (Nat → Int32) → (Nat → Int32) → (Nat → Int32) → (Nat → Int32) → (Nat → Int32) → (Nat → Int32) → (Nat → Int32) → (Nat → Int32) → (Nat → Int32) → (Nat → Int32) → (Nat → Int32) → (Nat → Int32) → Prop} {y2 y6 : Int32} {mc ms : Nat} (Q : lj_Q nc nl st sl kp ns kc sg pr a0 a1 ar cs ow xK xA xB bd kK kA kB kI lh ph)
    (h : ∃ n, wL_law_566 post L xs J10 y2 y6 (nI nc) (nI (lp_pm pr (st nc))) (nI (lp_ar pr a0 a1 (st nc))) (nI (cg_cb (cg_oc a0 a1 0 (st nc)) (cg_oc a0 a1 1 (st nc)))) (nI (cg_sz (cg_oc a0 a1 0 (st nc) && cg_oc a0 a1 1 (st nc)))) mc ms (nI nl) (nI nc) (nI ns) sl ls (nI kc) kp w0 w1 w2 w3 sg pr a0 a1 cs ar xK xA xB bd kK kA kB kI X0 X1 X2 X3 ph X4 X5 X6 lh X7 X8 n 0 0) :
    ∀ d c : Nat, c + d = nc → wL_law_389 post L xs J10 y2 y6 (nI nc) mc ms (nI nl) (nI nc) (nI ns) sl ls (nI kc) kp w0 w1 w2 w3 sg pr a0 a1 cs ar xK xA xB bd kK kA kB kI X0 X1 X2 X3 ph X4 X5 X6 lh X7 X8 (d + 1) (nI (lp_pm pr (st c))) (nI (lp_ar pr a0 a1 (st c))) (nI (cg_cb (cg_oc a0 a1 0 (st c)) (cg_oc a0 a1 1 (st c)))) (nI c) := by
  obtain ⟨⟨hw, hcs, how⟩, _⟩ := id Q
  have hnc := hw.1
  intro d
  induction d with
  | zero =>
    intro c hc
    have e : c = nc := by omega
    subst e
    refine br_t (nI_le (Nat.le_refl c) (by omega)) (ek_if (lf_cb3 _ _) (fun z => ?_) (fun z => ?_))
    · unfold cg_sz at h
      rw [if_pos z] at h
      exact h
    · unfold cg_sz at h
      rw [if_neg z] at h
      exact h
  | succ d ih =>
    intro c hc
    exact br_f (nI_ge (show c < nc by omega) (by omega)) (ll_len Q (show c < nc by omega) ⟨_, lc_407 Q (show c < nc by omega) (ih (c + 1) (by omega)) (st (c + 1) - st c) 0 (by omega)⟩)
theorem lc_566 {post : Int32 → Prop} {L : Nat} {xs : Nat → Int32} {J10 : Int32 → Int32 → Int32 → Int32 → Int32 → Int32 → Int32 → Int32 → Int32 → Int32 → Int32 → Int32 → (Nat → Int32) → (Nat → Int32) → (Nat → Int32) → (Nat → Int32) → (Nat → Int32) → (Nat → Int32) → (Nat → Int32) → (Nat → Int32) → (Nat → Int32) → (Nat → Int32) → (Nat → Int32) → (Nat → Int32) → (Nat → Int32) → (Nat → Int32) → (Nat → Int32) → (Nat → Int32) → (Nat → Int32) → (Nat → Int32) → (Nat → Int32) → (Nat → Int32) → (Nat → Int32) → (Nat → Int32) → (Nat → Int32) → (Nat → Int32) → (Nat → Int32) → Prop} {y2 y6 : Int32} {mc ms : Nat} (Q : lj_Q nc nl st sl kp ns kc sg pr a0 a1 ar cs ow xK xA xB bd kK kA kB kI lh ph)
    (hbig : ¬ cg_base pr ar (st nc) (cg_oc a0 a1 0 (st nc) && cg_oc a0 a1 1 (st nc)) 4 ≤ 5 → wL_law_636 post L xs J10 y2 y6 (nI nc) (nI (lp_pm pr (st nc))) (nI (lp_ar pr a0 a1 (st nc))) (nI (cg_cb (cg_oc a0 a1 0 (st nc)) (cg_oc a0 a1 1 (st nc)))) (nI (cg_sz (cg_oc a0 a1 0 (st nc) && cg_oc a0 a1 1 (st nc)))) (nI (cg_base pr ar (st nc) (cg_oc a0 a1 0 (st nc) && cg_oc a0 a1 1 (st nc)) 4)) (-4) 1 mc ms (nI nl) (nI nc) (nI ns) sl ls (nI kc) kp w0 w1 w2 w3 sg pr a0 a1 cs ar xK xA xB bd kK kA kB kI X0 X1 X2 X3 ph X4 X5 X6 lh X7 X8)
    (hno : cg_base pr ar (st nc) (cg_oc a0 a1 0 (st nc) && cg_oc a0 a1 1 (st nc)) 4 ≤ 5 → cq_sat (cg_HX nc st sg pr a0 a1 ar) (cg_RX nc st a0 a1) (fun _ => False) → ∀ (w1 w2 w3 : Int32) (X4 X5 X6 : Nat → Int32), wL_law_636 post L xs J10 y2 y6 (nI nc) (nI (lp_pm pr (st nc))) (nI (lp_ar pr a0 a1 (st nc))) (nI (cg_cb (cg_oc a0 a1 0 (st nc)) (cg_oc a0 a1 1 (st nc)))) (nI (cg_sz (cg_oc a0 a1 0 (st nc) && cg_oc a0 a1 1 (st nc)))) (nI (cg_base pr ar (st nc) (cg_oc a0 a1 0 (st nc) && cg_oc a0 a1 1 (st nc)) 4)) 2 0 mc ms (nI nl) (nI nc) (nI ns) sl ls (nI kc) 0 w0 w1 w2 w3 sg pr a0 a1 cs ar xK xA xB bd kK kA kB kI X0 X1 X2 X3 ph X4 X5 X6 lh X7 X8)
    (hyes : cg_base pr ar (st nc) (cg_oc a0 a1 0 (st nc) && cg_oc a0 a1 1 (st nc)) 4 ≤ 5 → ¬ cq_sat (cg_HX nc st sg pr a0 a1 ar) (cg_RX nc st a0 a1) (fun _ => False) → ∀ (kc : Nat) (w0 w1 w2 w3 : Int32) (kK kA kB kI X0 X1 X2 X3 ph X4 X5 X6 X7 X8 : Nat → Int32), ph 0 = 0 → cr_kx nc st sg pr a0 a1 kc kK kA kB kI →
      wL_law_636 post L xs J10 y2 y6 (nI nc) (nI (lp_pm pr (st nc))) (nI (lp_ar pr a0 a1 (st nc))) (nI (cg_cb (cg_oc a0 a1 0 (st nc)) (cg_oc a0 a1 1 (st nc)))) (nI (cg_sz (cg_oc a0 a1 0 (st nc) && cg_oc a0 a1 1 (st nc)))) (nI (cg_base pr ar (st nc) (cg_oc a0 a1 0 (st nc) && cg_oc a0 a1 1 (st nc)) 4)) 1 0 mc ms (nI nl) (nI nc) (nI ns) sl ls (nI kc) 1 w0 w1 w2 w3 sg pr a0 a1 cs ar xK xA xB bd kK kA kB kI X0 X1 X2 X3 ph X4 X5 X6 lh X7 X8) :
    ∃ n, wL_law_566 post L xs J10 y2 y6 (nI nc) (nI (lp_pm pr (st nc))) (nI (lp_ar pr a0 a1 (st nc))) (nI (cg_cb (cg_oc a0 a1 0 (st nc)) (cg_oc a0 a1 1 (st nc)))) (nI (cg_sz (cg_oc a0 a1 0 (st nc) && cg_oc a0 a1 1 (st nc)))) mc ms (nI nl) (nI nc) (nI ns) sl ls (nI kc) kp w0 w1 w2 w3 sg pr a0 a1 cs ar xK xA xB bd kK kA kB kI X0 X1 X2 X3 ph X4 X5 X6 lh X7 X8 n 0 0 := by
  obtain ⟨⟨hw, hcs, how⟩, hfx, _⟩ := id Q
  obtain ⟨p1, p2⟩ := lp_pm_ok hw (st nc) (Nat.le_refl _)
  obtain ⟨r1, r2⟩ := lp_ar_ok hw (st nc) (Nat.le_refl _)
  have key : ∀ d q : Nat, q + d = 4 → wL_law_566 post L xs J10 y2 y6 (nI nc) (nI (lp_pm pr (st nc))) (nI (lp_ar pr a0 a1 (st nc))) (nI (cg_cb (cg_oc a0 a1 0 (st nc)) (cg_oc a0 a1 1 (st nc)))) (nI (cg_sz (cg_oc a0 a1 0 (st nc) && cg_oc a0 a1 1 (st nc)))) mc ms (nI nl) (nI nc) (nI ns) sl ls (nI kc) kp w0 w1 w2 w3 sg pr a0 a1 cs ar xK xA xB bd kK kA kB kI X0 X1 X2 X3 ph X4 X5 X6 lh X7 X8 (d + 1) (nI (cg_base pr ar (st nc) (cg_oc a0 a1 0 (st nc) && cg_oc a0 a1 1 (st nc)) q)) (nI q) := by
    intro d
    induction d with
    | zero =>
      intro q hq
      have e : q = 4 := by omega
      subst e
      refine br_t (nI_le (a := 4) (b := 4) (Nat.le_refl _) (by decide)) (xu_count hw hcs (br_t rfl ?_))
      refine xw_prove hw hcs hfx (fun h5 => br_t rfl (hbig h5)) (fun h5 hs v1 v2 v3 ab il ih => br_f (by decide) (hno h5 hs _ _ _ _ _ _)) (fun h5 hs n v0 v1 v2 v3 kK' kA' kB' kI' oc ol pc pl ph' ab il ih ri ql hp hk => br_f (by decide) (hyes h5 hs _ _ _ _ _ _ _ _ _ _ _ _ _ _ _ _ _ _ _ hp hk))
    | succ d ih =>
      intro q hq
      have ih2 := ih (q + 1) (by omega)
      rw [cg_base] at ih2
      unfold cg_at at ih2
      refine br_f (nI_ge (b := 4) (by omega) (by decide)) ?_
      rw [le_pm_r _ p1 q (by omega), p2 q (by omega), le_ar_r q (by omega) _ r1, r2 q (by omega)]
      by_cases o : cg_op pr q (st nc) = true
      · rw [if_pos o] at ih2
        rw [if_pos o, if_pos o]
        have l4 : (ar q).toNatClampNeg < 4 := by
          have := lf_dig (k := lp_ar pr a0 a1 (st nc)) (q := q)
          rw [r2 q (by omega), if_pos o] at this
          exact this
        exact br_f (by decide) (lf_pw (by omega) (nm_r (nI_add _ _) (nm_r (nI_1 q) ih2)))
      · rw [if_neg o, Nat.add_zero] at ih2
        rw [if_neg o, if_neg o]
        exact br_t rfl (nm_r (nI_1 q) ih2)
  exact ⟨_, key 4 0 (by omega)⟩
end
end
section
/-! the law tries every interpretation -/
def lb_s (nc : Nat) (st : Nat → Nat) (sg pr a0 a1 ar : Nat → Int32) (t c x y : Nat) : Prop :=
  ∃ j, st c ≤ j ∧ j < st (c + 1) ∧ cq_tr (cg_tb t) (cg_gl sg pr a0 a1 ar (st nc) (cg_oc a0 a1 0 (st nc) && cg_oc a0 a1 1 (st nc)) j x y)
theorem lb_cg {P P' : Prop} (h : P ↔ P') : ck_if P (1 : Int32) 0 = ck_if P' 1 0 := by rw [propext h]
theorem lb_sz (two : Bool) : cg_sz two ≤ 2 ∧ 1 ≤ cg_sz two ∧ (two = true → cg_sz two = 2) ∧ (¬ two = true → cg_sz two = 1) := by
  cases two <;> decide
theorem lb_ok {nc nl : Nat} {st : Nat → Nat} {sg pr a0 a1 ar : Nat → Int32} (hw : cd_wf nc nl st sg pr a0 a1 ar) : lf_ok pr ar (st nc) (lp_pm pr (st nc)) (lp_ar pr a0 a1 (st nc)) :=
  ⟨lp_pm_ok hw (st nc) (Nat.le_refl _), lp_ar_ok hw (st nc) (Nat.le_refl _)⟩
section
variable {nc nl : Nat} {st : Nat → Nat} {sl kp ls : Int32} {ns kc : Nat} {sg pr a0 a1 ar cs ow xK xA xB bd kK kA kB kI lh ph : Nat → Int32} {w0 w1 w2 w3 : Int32} {X0 X1 X2 X3 X4 X5 X6 X7 X8 : Nat → Int32}
theorem lb_764 {post : Int32 → Prop} {L : Nat} {xs : Nat → Int32} {J10 : Int32 → Int32 → Int32 → Int32 → Int32 → Int32 → Int32 → Int32 → Int32 → Int32 → Int32 → Int32 → (Nat → Int32) → (Nat → Int32) → (Nat → Int32) → (Nat → Int32) → (Nat → Int32) → (Nat → Int32) → (Nat → Int32) → (Nat → Int32) → (Nat → Int32) → (Nat → Int32) → (Nat → Int32) → (Nat → Int32) → (Nat → Int32) → (Nat → Int32) → (Nat → Int32) → (Nat → Int32) → (Nat → Int32) → (Nat → Int32) → (Nat → Int32) → (Nat → Int32) → (Nat → Int32) → (Nat → Int32) → (Nat → Int32) → (Nat → Int32) → (Nat → Int32) → Prop} {J698 J718 J741 J751 : Int32 → Int32 → Prop} {y2 y12 y13 y14 : Int32} {mc ms : Nat} (Q : lj_Q nc nl st sl kp ns kc sg pr a0 a1 ar cs ow xK xA xB bd kK kA kB kI lh ph) (h5 : cg_base pr ar (st nc) (cg_oc a0 a1 0 (st nc) && cg_oc a0 a1 1 (st nc)) 4 ≤ 5)
    {t c x y : Nat} (ht : t < 32) (hc : c < nc) (hx : x < 2) (hy : y < 2) (hxy : ¬ (cg_oc a0 a1 0 (st nc) && cg_oc a0 a1 1 (st nc)) = true → x = 0 ∧ y = 0) {P : Prop} (h : J751 (ck_if (P ∧ lb_s nc st sg pr a0 a1 ar t c x y) 1 0) (nI (y + 1))) :
    ∀ d i : Nat, i + d = st (c + 1) - st c → ∀ F : Int32, ((F = 0 ∧ ∀ j, st c ≤ j → j < st c + i → ¬ cq_tr (cg_tb t) (cg_gl sg pr a0 a1 ar (st nc) (cg_oc a0 a1 0 (st nc) && cg_oc a0 a1 1 (st nc)) j x y)) ∨ (F = 1 ∧ ∃ j, st c ≤ j ∧ j < st c + i ∧ cq_tr (cg_tb t) (cg_gl sg pr a0 a1 ar (st nc) (cg_oc a0 a1 0 (st nc) && cg_oc a0 a1 1 (st nc)) j x y))) →
      wL_law_764 post L xs J10 J698 J718 J741 J751 y2 (nI nc) (nI (lp_pm pr (st nc))) (nI (lp_ar pr a0 a1 (st nc))) (nI (cg_cb (cg_oc a0 a1 0 (st nc)) (cg_oc a0 a1 1 (st nc)))) (nI (cg_sz (cg_oc a0 a1 0 (st nc) && cg_oc a0 a1 1 (st nc)))) y12 y13 y14 (nI t) (ck_if P 1 0) (nI c) (nI (st (c + 1) - st c)) (nI x) (nI y) mc ms (nI nl) (nI nc) (nI ns) sl ls (nI kc) kp w0 w1 w2 w3 sg pr a0 a1 cs ar xK xA xB bd kK kA kB kI X0 X1 X2 X3 ph X4 X5 X6 lh X7 X8 (d + 1) F (nI i) := by
  obtain ⟨⟨hw, hcs, how⟩, _⟩ := id Q
  have hnc := hw.1
  have hnl := hw.2.1
  have hM := hw.2.2.2.2.1
  have hst := cd_mono' hw (c := c + 1) (d := nc) (by omega) (Nat.le_refl _)
  have hcc := (hw.2.2.2.1 c hc).1
  intro d
  induction d with
  | zero =>
    intro i hi F hF
    have e : st c + i = st (c + 1) := by omega
    rw [e] at hF
    refine br_t (nI_le (by omega) (by omega)) ?_
    rcases hF with ⟨eF, hno⟩ | ⟨eF, j, j1, j2, j3⟩
    · have hs : ¬ (P ∧ lb_s nc st sg pr a0 a1 ar t c x y) := fun ⟨_, j, j1, j2, j3⟩ => hno j j1 j2 j3
      rw [ck_if_f hs] at h
      exact br_t eF (nm_r (nI_1 y) h)
    · have hs : (P ∧ lb_s nc st sg pr a0 a1 ar t c x y) ↔ P := ⟨fun z => z.1, fun z => ⟨z, j, j1, j2, j3⟩⟩
      rw [lb_cg hs] at h
      exact br_f (by rw [eF]; decide) (nm_r (nI_1 y) h)
  | succ d ih =>
    intro i hi F hF
    have hj : st c + i < st nc := by omega
    have hil : i < st (c + 1) - st c := by omega
    refine br_f (nI_ge hil (by omega)) (ll_get Q hc hil ?_)
    refine lf_holds hw (lb_ok hw) h5 hj ht hx hy hxy (fun tr => br_f (by decide) (nm_r (nI_1 i) (ih (i + 1) (by omega) 1 (Or.inr ⟨rfl, st c + i, by omega, by omega, tr⟩)))) (fun ntr => br_t rfl (nm_r (nI_1 i) (ih (i + 1) (by omega) F ?_)))
    rcases hF with ⟨eF, hno⟩ | ⟨eF, j, j1, j2, j3⟩
    · refine Or.inl ⟨eF, fun j j1 j2 => ?_⟩
      by_cases e : j = st c + i
      · rw [e]
        exact ntr
      · exact hno j j1 (by omega)
    · exact Or.inr ⟨eF, j, j1, by omega, j3⟩
theorem lb_751 {post : Int32 → Prop} {L : Nat} {xs : Nat → Int32} {J10 : Int32 → Int32 → Int32 → Int32 → Int32 → Int32 → Int32 → Int32 → Int32 → Int32 → Int32 → Int32 → (Nat → Int32) → (Nat → Int32) → (Nat → Int32) → (Nat → Int32) → (Nat → Int32) → (Nat → Int32) → (Nat → Int32) → (Nat → Int32) → (Nat → Int32) → (Nat → Int32) → (Nat → Int32) → (Nat → Int32) → (Nat → Int32) → (Nat → Int32) → (Nat → Int32) → (Nat → Int32) → (Nat → Int32) → (Nat → Int32) → (Nat → Int32) → (Nat → Int32) → (Nat → Int32) → (Nat → Int32) → (Nat → Int32) → (Nat → Int32) → (Nat → Int32) → Prop} {J698 J718 J741 : Int32 → Int32 → Prop} {y2 y12 y13 y14 : Int32} {mc ms : Nat} (Q : lj_Q nc nl st sl kp ns kc sg pr a0 a1 ar cs ow xK xA xB bd kK kA kB kI lh ph) (h5 : cg_base pr ar (st nc) (cg_oc a0 a1 0 (st nc) && cg_oc a0 a1 1 (st nc)) 4 ≤ 5)
    {t c x : Nat} (ht : t < 32) (hc : c < nc) (hx : x < (cg_sz (cg_oc a0 a1 0 (st nc) && cg_oc a0 a1 1 (st nc)))) :
    ∀ d y : Nat, y + d = (cg_sz (cg_oc a0 a1 0 (st nc) && cg_oc a0 a1 1 (st nc))) → ∀ P : Prop, J741 (ck_if (P ∧ ∀ y', y ≤ y' → y' < (cg_sz (cg_oc a0 a1 0 (st nc) && cg_oc a0 a1 1 (st nc))) → lb_s nc st sg pr a0 a1 ar t c x y') 1 0) (nI (x + 1)) →
      wL_law_751 post L xs J10 J698 J718 J741 y2 (nI nc) (nI (lp_pm pr (st nc))) (nI (lp_ar pr a0 a1 (st nc))) (nI (cg_cb (cg_oc a0 a1 0 (st nc)) (cg_oc a0 a1 1 (st nc)))) (nI (cg_sz (cg_oc a0 a1 0 (st nc) && cg_oc a0 a1 1 (st nc)))) y12 y13 y14 (nI t) (nI c) (nI (st (c + 1) - st c)) (nI x) mc ms (nI nl) (nI nc) (nI ns) sl ls (nI kc) kp w0 w1 w2 w3 sg pr a0 a1 cs ar xK xA xB bd kK kA kB kI X0 X1 X2 X3 ph X4 X5 X6 lh X7 X8 (d + 1) (ck_if P 1 0) (nI y) := by
  obtain ⟨z2, z1, zt, zf⟩ := lb_sz (cg_oc a0 a1 0 (st nc) && cg_oc a0 a1 1 (st nc))
  intro d
  induction d with
  | zero =>
    intro y hy P h
    have hs : (P ∧ ∀ y', y ≤ y' → y' < (cg_sz (cg_oc a0 a1 0 (st nc) && cg_oc a0 a1 1 (st nc))) → lb_s nc st sg pr a0 a1 ar t c x y') ↔ P := ⟨fun z => z.1, fun z => ⟨z, fun y' a b => by omega⟩⟩
    rw [lb_cg hs] at h
    exact br_t (nI_le (by omega) (by omega)) (nm_r (nI_1 x) h)
  | succ d ih =>
    intro y hy P h
    refine br_f (nI_ge (show y < (cg_sz (cg_oc a0 a1 0 (st nc) && cg_oc a0 a1 1 (st nc))) by omega) (by omega)) ⟨_, lb_764 Q h5 ht hc (by omega) (show y < 2 by omega) (fun z => ?_) (ih (y + 1) (by omega) _ ?_) (st (c + 1) - st c) 0 (by omega) 0 (Or.inl ⟨rfl, fun j a b => by omega⟩)⟩
    · have := zf z
      omega
    · have hs : ((P ∧ lb_s nc st sg pr a0 a1 ar t c x y) ∧ ∀ y', y + 1 ≤ y' → y' < (cg_sz (cg_oc a0 a1 0 (st nc) && cg_oc a0 a1 1 (st nc))) → lb_s nc st sg pr a0 a1 ar t c x y') ↔ (P ∧ ∀ y', y ≤ y' → y' < (cg_sz (cg_oc a0 a1 0 (st nc) && cg_oc a0 a1 1 (st nc))) → lb_s nc st sg pr a0 a1 ar t c x y') := by
        constructor
        · intro ⟨⟨a, b⟩, g⟩
          refine ⟨a, fun y' l1 l2 => ?_⟩
          by_cases e : y' = y
          · rw [e]
            exact b
          · exact g y' (by omega) l2
        · intro ⟨a, g⟩
          exact ⟨⟨a, g y (Nat.le_refl _) (by omega)⟩, fun y' l1 l2 => g y' (by omega) l2⟩
      rw [lb_cg hs]
      exact h
theorem lb_741 {post : Int32 → Prop} {L : Nat} {xs : Nat → Int32} {J10 : Int32 → Int32 → Int32 → Int32 → Int32 → Int32 → Int32 → Int32 → Int32 → Int32 → Int32 → Int32 → (Nat → Int32) → (Nat → Int32) → (Nat → Int32) → (Nat → Int32) → (Nat → Int32) → (Nat → Int32) → (Nat → Int32) → (Nat → Int32) → (Nat → Int32) → (Nat → Int32) → (Nat → Int32) → (Nat → Int32) → (Nat → Int32) → (Nat → Int32) → (Nat → Int32) → (Nat → Int32) → (Nat → Int32) → (Nat → Int32) → (Nat → Int32) → (Nat → Int32) → (Nat → Int32) → (Nat → Int32) → (Nat → Int32) → (Nat → Int32) → (Nat → Int32) → Prop} {J698 J718 : Int32 → Int32 → Prop} {y2 y12 y13 y14 : Int32} {mc ms : Nat} (Q : lj_Q nc nl st sl kp ns kc sg pr a0 a1 ar cs ow xK xA xB bd kK kA kB kI lh ph) (h5 : cg_base pr ar (st nc) (cg_oc a0 a1 0 (st nc) && cg_oc a0 a1 1 (st nc)) 4 ≤ 5)
    {t c : Nat} (ht : t < 32) (hc : c < nc) :
    ∀ d x : Nat, x + d = (cg_sz (cg_oc a0 a1 0 (st nc) && cg_oc a0 a1 1 (st nc))) → ∀ P : Prop, J718 (ck_if (P ∧ ∀ x', x ≤ x' → x' < (cg_sz (cg_oc a0 a1 0 (st nc) && cg_oc a0 a1 1 (st nc))) → ∀ y', 0 ≤ y' → y' < (cg_sz (cg_oc a0 a1 0 (st nc) && cg_oc a0 a1 1 (st nc))) → lb_s nc st sg pr a0 a1 ar t c x' y') 1 0) (nI (c + 1)) →
      wL_law_741 post L xs J10 J698 J718 y2 (nI nc) (nI (lp_pm pr (st nc))) (nI (lp_ar pr a0 a1 (st nc))) (nI (cg_cb (cg_oc a0 a1 0 (st nc)) (cg_oc a0 a1 1 (st nc)))) (nI (cg_sz (cg_oc a0 a1 0 (st nc) && cg_oc a0 a1 1 (st nc)))) y12 y13 y14 (nI t) (nI c) (nI (st (c + 1) - st c)) mc ms (nI nl) (nI nc) (nI ns) sl ls (nI kc) kp w0 w1 w2 w3 sg pr a0 a1 cs ar xK xA xB bd kK kA kB kI X0 X1 X2 X3 ph X4 X5 X6 lh X7 X8 (d + 1) (ck_if P 1 0) (nI x) := by
  obtain ⟨z2, z1, zt, zf⟩ := lb_sz (cg_oc a0 a1 0 (st nc) && cg_oc a0 a1 1 (st nc))
  intro d
  induction d with
  | zero =>
    intro x hx P h
    have hs : (P ∧ ∀ x', x ≤ x' → x' < (cg_sz (cg_oc a0 a1 0 (st nc) && cg_oc a0 a1 1 (st nc))) → ∀ y', 0 ≤ y' → y' < (cg_sz (cg_oc a0 a1 0 (st nc) && cg_oc a0 a1 1 (st nc))) → lb_s nc st sg pr a0 a1 ar t c x' y') ↔ P := ⟨fun z => z.1, fun z => ⟨z, fun x' a b => by omega⟩⟩
    rw [lb_cg hs] at h
    exact br_t (nI_le (by omega) (by omega)) (nm_r (nI_1 c) h)
  | succ d ih =>
    intro x hx P h
    refine br_f (nI_ge (show x < (cg_sz (cg_oc a0 a1 0 (st nc) && cg_oc a0 a1 1 (st nc))) by omega) (by omega)) ⟨_, lb_751 Q h5 ht hc (show x < (cg_sz (cg_oc a0 a1 0 (st nc) && cg_oc a0 a1 1 (st nc))) by omega) (cg_sz (cg_oc a0 a1 0 (st nc) && cg_oc a0 a1 1 (st nc))) 0 (by omega) P (ih (x + 1) (by omega) _ ?_)⟩
    have hs : ((P ∧ ∀ y', 0 ≤ y' → y' < (cg_sz (cg_oc a0 a1 0 (st nc) && cg_oc a0 a1 1 (st nc))) → lb_s nc st sg pr a0 a1 ar t c x y') ∧ ∀ x', x + 1 ≤ x' → x' < (cg_sz (cg_oc a0 a1 0 (st nc) && cg_oc a0 a1 1 (st nc))) → ∀ y', 0 ≤ y' → y' < (cg_sz (cg_oc a0 a1 0 (st nc) && cg_oc a0 a1 1 (st nc))) → lb_s nc st sg pr a0 a1 ar t c x' y') ↔ (P ∧ ∀ x', x ≤ x' → x' < (cg_sz (cg_oc a0 a1 0 (st nc) && cg_oc a0 a1 1 (st nc))) → ∀ y', 0 ≤ y' → y' < (cg_sz (cg_oc a0 a1 0 (st nc) && cg_oc a0 a1 1 (st nc))) → lb_s nc st sg pr a0 a1 ar t c x' y') := by
      constructor
      · intro ⟨⟨a, b⟩, g⟩
        refine ⟨a, fun x' l1 l2 => ?_⟩
        by_cases e : x' = x
        · rw [e]
          exact b
        · exact g x' (by omega) l2
      · intro ⟨a, g⟩
        exact ⟨⟨a, g x (Nat.le_refl _) (by omega)⟩, fun x' l1 l2 => g x' (by omega) l2⟩
    rw [lb_cg hs]
    exact h
theorem lb_718 {post : Int32 → Prop} {L : Nat} {xs : Nat → Int32} {J10 : Int32 → Int32 → Int32 → Int32 → Int32 → Int32 → Int32 → Int32 → Int32 → Int32 → Int32 → Int32 → (Nat → Int32) → (Nat → Int32) → (Nat → Int32) → (Nat → Int32) → (Nat → Int32) → (Nat → Int32) → (Nat → Int32) → (Nat → Int32) → (Nat → Int32) → (Nat → Int32) → (Nat → Int32) → (Nat → Int32) → (Nat → Int32) → (Nat → Int32) → (Nat → Int32) → (Nat → Int32) → (Nat → Int32) → (Nat → Int32) → (Nat → Int32) → (Nat → Int32) → (Nat → Int32) → (Nat → Int32) → (Nat → Int32) → (Nat → Int32) → (Nat → Int32) → Prop} {J698 : Int32 → Int32 → Prop} {y2 y12 y13 : Int32} {mc ms : Nat} (Q : lj_Q nc nl st sl kp ns kc sg pr a0 a1 ar cs ow xK xA xB bd kK kA kB kI lh ph) (h5 : cg_base pr ar (st nc) (cg_oc a0 a1 0 (st nc) && cg_oc a0 a1 1 (st nc)) 4 ≤ 5)
    {t : Nat} (ht : t < 32) : ∀ d c : Nat, c + d = nc → ∀ (P : Prop) (F : Int32), F = ck_if P 1 0 →
      ((P ∧ ∀ c', c ≤ c' → c' < nc → ∀ x', 0 ≤ x' → x' < (cg_sz (cg_oc a0 a1 0 (st nc) && cg_oc a0 a1 1 (st nc))) → ∀ y', 0 ≤ y' → y' < (cg_sz (cg_oc a0 a1 0 (st nc) && cg_oc a0 a1 1 (st nc))) → lb_s nc st sg pr a0 a1 ar t c' x' y') → J698 1 (nI (t + 1))) →
      (¬ (P ∧ ∀ c', c ≤ c' → c' < nc → ∀ x', 0 ≤ x' → x' < (cg_sz (cg_oc a0 a1 0 (st nc) && cg_oc a0 a1 1 (st nc))) → ∀ y', 0 ≤ y' → y' < (cg_sz (cg_oc a0 a1 0 (st nc) && cg_oc a0 a1 1 (st nc))) → lb_s nc st sg pr a0 a1 ar t c' x' y') → J698 0 (nI (t + 1))) →
      wL_law_718 post L xs J10 J698 y2 (nI nc) (nI (lp_pm pr (st nc))) (nI (lp_ar pr a0 a1 (st nc))) (nI (cg_cb (cg_oc a0 a1 0 (st nc)) (cg_oc a0 a1 1 (st nc)))) (nI (cg_sz (cg_oc a0 a1 0 (st nc) && cg_oc a0 a1 1 (st nc)))) y12 y13 0 (nI t) mc ms (nI nl) (nI nc) (nI ns) sl ls (nI kc) kp w0 w1 w2 w3 sg pr a0 a1 cs ar xK xA xB bd kK kA kB kI X0 X1 X2 X3 ph X4 X5 X6 lh X7 X8 (d + 1) F (nI c) := by
  obtain ⟨⟨hw, hcs, how⟩, _⟩ := id Q
  have hnc := hw.1
  intro d
  induction d with
  | zero =>
    intro c hc P F eF h1 h0
    subst eF
    refine br_t (nI_le (by omega) (by omega)) ?_
    by_cases hp : P
    · rw [ck_if_t hp]
      exact br_f (by decide) (nm_r (nI_1 t) (h1 ⟨hp, fun c' a b => by omega⟩))
    · rw [ck_if_f hp]
      exact br_t rfl (nm_r (nI_1 t) (h0 (fun z => hp z.1)))
  | succ d ih =>
    intro c hc P F eF h1 h0
    subst eF
    have hcn : c < nc := by omega
    refine br_f (nI_ge hcn (by omega)) ?_
    by_cases hp : P
    · refine br_f (by rw [ck_if_t hp]; decide) (ll_len Q hcn ⟨_, lb_741 Q h5 ht hcn (cg_sz (cg_oc a0 a1 0 (st nc) && cg_oc a0 a1 1 (st nc))) 0 (by omega) P (ih (c + 1) (by omega) _ _ rfl (fun z => h1 ?_) (fun z => h0 (fun y => z ?_)))⟩)
      · obtain ⟨⟨a, b⟩, g⟩ := z
        refine ⟨a, fun c' l1 l2 => ?_⟩
        by_cases e : c' = c
        · rw [e]
          exact b
        · exact g c' (by omega) l2
      · obtain ⟨a, g⟩ := y
        exact ⟨⟨a, g c (Nat.le_refl _) hcn⟩, fun c' l1 l2 => g c' (by omega) l2⟩
    · refine br_t (ck_if_f hp) ?_
      rw [ck_if_f hp]
      exact br_t rfl (nm_r (nI_1 t) (h0 (fun z => hp z.1)))
end
theorem lb_shl : ∀ g, g < 6 → (1 : Int32) <<< (nI g &&& 31) = nI (2 ^ g) := by decide +kernel
def lb_good (nc : Nat) (st : Nat → Nat) (sg pr a0 a1 ar : Nat → Int32) (t : Nat) : Prop := True ∧ ∀ c', 0 ≤ c' → c' < nc → ∀ x', 0 ≤ x' → x' < (cg_sz (cg_oc a0 a1 0 (st nc) && cg_oc a0 a1 1 (st nc))) → ∀ y', 0 ≤ y' → y' < (cg_sz (cg_oc a0 a1 0 (st nc) && cg_oc a0 a1 1 (st nc))) → lb_s nc st sg pr a0 a1 ar t c' x' y'
section
variable {nc nl : Nat} {st : Nat → Nat} {sl kp ls : Int32} {ns kc : Nat} {sg pr a0 a1 ar cs ow xK xA xB bd kK kA kB kI lh ph : Nat → Int32} {w0 w1 w2 w3 : Int32} {X0 X1 X2 X3 X4 X5 X6 X7 X8 : Nat → Int32}
theorem lb_698 {post : Int32 → Prop} {L : Nat} {xs : Nat → Int32} {J10 : Int32 → Int32 → Int32 → Int32 → Int32 → Int32 → Int32 → Int32 → Int32 → Int32 → Int32 → Int32 → (Nat → Int32) → (Nat → Int32) → (Nat → Int32) → (Nat → Int32) → (Nat → Int32) → (Nat → Int32) → (Nat → Int32) → (Nat → Int32) → (Nat → Int32) → (Nat → Int32) → (Nat → Int32) → (Nat → Int32) → (Nat → Int32) → (Nat → Int32) → (Nat → Int32) → (Nat → Int32) → (Nat → Int32) → (Nat → Int32) → (Nat → Int32) → (Nat → Int32) → (Nat → Int32) → (Nat → Int32) → (Nat → Int32) → (Nat → Int32) → (Nat → Int32) → Prop} {y2 y13 : Int32} {mc ms g : Nat} (Q : lj_Q nc nl st sl kp ns kc sg pr a0 a1 ar cs ow xK xA xB bd kK kA kB kI lh ph) (eg : cg_base pr ar (st nc) (cg_oc a0 a1 0 (st nc) && cg_oc a0 a1 1 (st nc)) 4 = g) (h5 : g ≤ 5)
    (h1 : (∃ t, t < 2 ^ g ∧ lb_good nc st sg pr a0 a1 ar t) → wL_law_848 post L xs J10 y2 y13 1 mc ms (nI nl) (nI nc) (nI ns) sl ls (nI kc) kp w0 w1 w2 w3 sg pr a0 a1 cs ar xK xA xB bd kK kA kB kI X0 X1 X2 X3 ph X4 X5 X6 lh X7 X8) (h0 : ¬ (∃ t, t < 2 ^ g ∧ lb_good nc st sg pr a0 a1 ar t) → wL_law_848 post L xs J10 y2 y13 0 mc ms (nI nl) (nI nc) (nI ns) sl ls (nI kc) kp w0 w1 w2 w3 sg pr a0 a1 cs ar xK xA xB bd kK kA kB kI X0 X1 X2 X3 ph X4 X5 X6 lh X7 X8) :
    ∀ d t : Nat, t + d = 2 ^ g → (∀ t', t' < t → ¬ lb_good nc st sg pr a0 a1 ar t') → wL_law_698 post L xs J10 y2 (nI nc) (nI (lp_pm pr (st nc))) (nI (lp_ar pr a0 a1 (st nc))) (nI (cg_cb (cg_oc a0 a1 0 (st nc)) (cg_oc a0 a1 1 (st nc)))) (nI (cg_sz (cg_oc a0 a1 0 (st nc) && cg_oc a0 a1 1 (st nc)))) (nI g) y13 mc ms (nI nl) (nI nc) (nI ns) sl ls (nI kc) kp w0 w1 w2 w3 sg pr a0 a1 cs ar xK xA xB bd kK kA kB kI X0 X1 X2 X3 ph X4 X5 X6 lh X7 X8 (d + 1) 0 (nI t) := by
  have p32 : 2 ^ g ≤ 32 := Nat.pow_le_pow_right (n := 2) (by decide) h5
  intro d
  induction d with
  | zero =>
    intro t ht hno
    refine br_t ?_ (h0 (fun ⟨t', a, b⟩ => hno t' (by omega) b))
    rw [lb_shl g (by omega)]
    exact nI_le (by omega) (by omega)
  | succ d ih =>
    intro t ht hno
    refine br_f ?_ (br_t rfl ⟨_, lb_718 Q (by rw [eg]; exact h5) (show t < 32 by omega) nc 0 (by omega) True 1 (ck_if_t trivial).symm (fun z => ?_) (fun z => ih (t + 1) (by omega) (fun t' a b => ?_))⟩)
    · rw [lb_shl g (by omega)]
      exact nI_ge (by omega) (by omega)
    · have hs : ∃ t, t < 2 ^ g ∧ lb_good nc st sg pr a0 a1 ar t := ⟨t, by omega, z⟩
      exact br_c (fun _ => h1 hs) (fun _ => br_f (by decide) (h1 hs))
    · by_cases e : t' = t
      · rw [e] at b
        exact z b
      · exact hno t' (by omega) b
end
theorem lb_bits : ∀ b0 b1 b2 b3 b4 : Bool, ∃ t, t < 32 ∧ t.testBit 0 = b0 ∧ t.testBit 1 = b1 ∧ t.testBit 2 = b2 ∧ t.testBit 3 = b3 ∧ t.testBit 4 = b4 := by
  intro b0 b1 b2 b3 b4
  refine ⟨b0.toNat + 2 * b1.toNat + 4 * b2.toNat + 8 * b3.toNat + 16 * b4.toNat, ?_⟩
  cases b0 <;> cases b1 <;> cases b2 <;> cases b3 <;> cases b4 <;> decide
theorem lb_u {a0 a1 : Nat → Int32} {M x : Nat} (hx : x < 2) : ∃ x', cg_UU a0 a1 M x' ∧ ((cg_oc a0 a1 0 M && cg_oc a0 a1 1 M) = true → x' = x) := by
  unfold cg_UU cg_U
  have cx : x = 0 ∨ x = 1 := by omega
  generalize cg_oc a0 a1 0 M = o0
  generalize cg_oc a0 a1 1 M = o1
  cases o0 <;> cases o1
  · exact ⟨0, Or.inl ⟨rfl, Or.inr rfl⟩, fun z => absurd z (by decide)⟩
  · exact ⟨1, Or.inr ⟨rfl, rfl⟩, fun z => absurd z (by decide)⟩
  · exact ⟨0, Or.inl ⟨rfl, Or.inl rfl⟩, fun z => absurd z (by decide)⟩
  · rcases cx with e | e
    · exact ⟨0, Or.inl ⟨rfl, Or.inl rfl⟩, fun _ => e.symm⟩
    · exact ⟨1, Or.inr ⟨rfl, rfl⟩, fun _ => e.symm⟩
/-- some interpretation is good just if the ground clauses hold together -/
theorem lb_sat {nc nl : Nat} {st : Nat → Nat} {sg pr a0 a1 ar : Nat → Int32} (hw : cd_wf nc nl st sg pr a0 a1 ar) {g : Nat} (eg : cg_base pr ar (st nc) (cg_oc a0 a1 0 (st nc) && cg_oc a0 a1 1 (st nc)) 4 = g) (h5 : g ≤ 5) : cq_sat (cg_HX nc st sg pr a0 a1 ar) (cg_RX nc st a0 a1) (fun _ => False) ↔ ∃ t, t < 2 ^ g ∧ lb_good nc st sg pr a0 a1 ar t := by
  obtain ⟨z2, z1, zt, zf⟩ := lb_sz (cg_oc a0 a1 0 (st nc) && cg_oc a0 a1 1 (st nc))
  have hnc := hw.1
  have free : ¬ (cg_oc a0 a1 0 (st nc) && cg_oc a0 a1 1 (st nc)) = true → ∀ j x y x' y', cg_gl sg pr a0 a1 ar (st nc) (cg_oc a0 a1 0 (st nc) && cg_oc a0 a1 1 (st nc)) j x y = cg_gl sg pr a0 a1 ar (st nc) (cg_oc a0 a1 0 (st nc) && cg_oc a0 a1 1 (st nc)) j x' y' := by
    intro z j x y x' y'
    unfold cg_gl cg_tup
    rw [if_neg z, if_neg z]
  constructor
  · intro ⟨f, hf, _⟩
    obtain ⟨t0, t0l, e0, e1, e2, e3, e4⟩ := lb_bits (f 0) (f 1) (f 2) (f 3) (f 4)
    have hb : ∀ a, a < 5 → t0.testBit a = f a := by
      intro a ha
      have : a = 0 ∨ a = 1 ∨ a = 2 ∨ a = 3 ∨ a = 4 := by omega
      rcases this with z | z | z | z | z <;> rw [z] <;> assumption
    have hlt : t0 % 2 ^ g < 2 ^ g := Nat.mod_lt _ (Nat.pow_pos (by decide))
    refine ⟨t0 % 2 ^ g, hlt, trivial, fun c _ hc x _ hx y _ hy => ?_⟩
    obtain ⟨x', ux, ex⟩ : ∃ x', cg_UU a0 a1 (st nc) x' ∧ ((cg_oc a0 a1 0 (st nc) && cg_oc a0 a1 1 (st nc)) = true → x' = x) := lb_u (by omega)
    obtain ⟨y', uy, ey⟩ : ∃ y', cg_UU a0 a1 (st nc) y' ∧ ((cg_oc a0 a1 0 (st nc) && cg_oc a0 a1 1 (st nc)) = true → y' = y) := lb_u (by omega)
    have lx := cg_U_lt ux
    have ly := cg_U_lt uy
    have q1 : (4 * c + 2 * x' + y') / 4 = c := by omega
    have q2 : (4 * c + 2 * x' + y') / 2 % 2 = x' := by omega
    have q3 : (4 * c + 2 * x' + y') % 2 = y' := by omega
    obtain ⟨m, ⟨j, j1, j2, em⟩, tr⟩ := hf (4 * c + 2 * x' + y') ⟨by omega, by rw [q2]; exact ux, by rw [q3]; exact uy⟩
    rw [q1] at j1 j2
    rw [q2, q3] at em
    have hst := cd_mono' hw (c := c + 1) (d := nc) (by omega) (Nat.le_refl _)
    have eqg : m = cg_gl sg pr a0 a1 ar (st nc) (cg_oc a0 a1 0 (st nc) && cg_oc a0 a1 1 (st nc)) j x y := by
      rw [em]
      unfold cg_L
      by_cases z : (cg_oc a0 a1 0 (st nc) && cg_oc a0 a1 1 (st nc)) = true
      · rw [ex z, ey z]
      · exact free z j x' y' x y
    have hm := cg_gl_lt (two := (cg_oc a0 a1 0 (st nc) && cg_oc a0 a1 1 (st nc))) hw (show j < st nc by omega) lx ly
    have em2 : m = cg_gl sg pr a0 a1 ar (st nc) (cg_oc a0 a1 0 (st nc) && cg_oc a0 a1 1 (st nc)) j x' y' := em
    rw [← em2, eg] at hm
    refine ⟨j, j1, j2, ?_⟩
    rw [← eqg]
    unfold cq_tr cg_tb at *
    rw [Nat.testBit_mod_two_pow, decide_eq_true (show m / 2 < g by omega), Bool.true_and, hb (m / 2) (by omega)]
    exact tr
  · intro ⟨t, ht, _, hg⟩
    refine ⟨cg_tb t, fun q hq => ?_, fun m hm => hm.elim⟩
    obtain ⟨hq1, ux, uy⟩ := hq
    have lx := cg_U_lt ux
    have ly := cg_U_lt uy
    by_cases z : (cg_oc a0 a1 0 (st nc) && cg_oc a0 a1 1 (st nc)) = true
    · have s2 := zt z
      obtain ⟨j, j1, j2, tr⟩ := hg (q / 4) (Nat.zero_le _) (by omega) (q / 2 % 2) (Nat.zero_le _) (by omega) (q % 2) (Nat.zero_le _) (by omega)
      exact ⟨_, ⟨j, j1, j2, rfl⟩, tr⟩
    · obtain ⟨j, j1, j2, tr⟩ := hg (q / 4) (Nat.zero_le _) (by omega) 0 (Nat.zero_le _) (by omega) 0 (Nat.zero_le _) (by omega)
      rw [free z j 0 0 (q / 2 % 2) (q % 2)] at tr
      exact ⟨_, ⟨j, j1, j2, rfl⟩, tr⟩
end
section
/-! behind the search -/
theorem lz_e2 (i : Nat) : nI i + 2 = nI (i + 2) := by rw [show (2 : Int32) = nI 2 from rfl, nI_add]
theorem lz_nle5 {n : Nat} (h : ¬ n ≤ 5) (hn : n < 2 ^ 31) : ¬ nI n ≤ 5 := nI_ge (a := 5) (b := n) (by omega) hn
section
variable {nc nl : Nat} {st : Nat → Nat} {sl kp ls : Int32} {ns kc : Nat} {sg pr a0 a1 ar cs ow xK xA xB bd kK kA kB kI lh ph : Nat → Int32} {w0 w1 w2 w3 : Int32} {X0 X1 X2 X3 X4 X5 X6 X7 X8 : Nat → Int32}
theorem lz_848n {post : Int32 → Prop} {L : Nat} {xs : Nat → Int32} {J10 : Int32 → Int32 → Int32 → Int32 → Int32 → Int32 → Int32 → Int32 → Int32 → Int32 → Int32 → Int32 → (Nat → Int32) → (Nat → Int32) → (Nat → Int32) → (Nat → Int32) → (Nat → Int32) → (Nat → Int32) → (Nat → Int32) → (Nat → Int32) → (Nat → Int32) → (Nat → Int32) → (Nat → Int32) → (Nat → Int32) → (Nat → Int32) → (Nat → Int32) → (Nat → Int32) → (Nat → Int32) → (Nat → Int32) → (Nat → Int32) → (Nat → Int32) → (Nat → Int32) → (Nat → Int32) → (Nat → Int32) → (Nat → Int32) → (Nat → Int32) → (Nat → Int32) → Prop} {mc ms i : Nat} (Q : lj_Q nc nl st sl kp ns kc sg pr a0 a1 ar cs ow xK xA xB bd kK kA kB kI lh ph) (hJ : ∀ {nc nl : Nat} {st : Nat → Nat} {sl kp ls : Int32} {ns kc : Nat} {sg pr a0 a1 ar cs ow xK xA xB bd kK kA kB kI lh ph : Nat → Int32} {w0 w1 w2 w3 : Int32} {X0 X1 X2 X3 X4 X5 X6 X7 X8 : Nat → Int32}, lj_Q nc nl st sl kp ns kc sg pr a0 a1 ar cs ow xK xA xB bd kK kA kB kI lh ph → J10 (nI (i + 2)) (nI nl) (nI nc) (nI ns) sl ls (nI kc) kp w0 w1 w2 w3 sg pr a0 a1 cs ar xK xA xB bd kK kA kB kI X0 X1 X2 X3 ph X4 X5 X6 lh X7 X8) :
    wL_law_848 post L xs J10 (nI i) 2 1 mc ms (nI nl) (nI nc) (nI ns) sl ls (nI kc) kp w0 w1 w2 w3 sg pr a0 a1 cs ar xK xA xB bd kK kA kB kI X0 X1 X2 X3 ph X4 X5 X6 lh X7 X8 :=
  br_f (by decide) (br_f (by decide) (br_f (by decide) (nm_r (lz_e2 i) (hJ Q))))
theorem lz_sealed {nc nl : Nat} {st : Nat → Nat} {sl : Int32} {ns kc : Nat} {sg pr a0 a1 ar cs ow xK xA xB bd kK kA kB kI lh ph xK' xA' xB' bd' : Nat → Int32} {b : Nat → Nat} (Q : lj_Q nc nl st sl 1 ns kc sg pr a0 a1 ar cs ow xK xA xB bd kK kA kB kI lh ph)
    (hx : cr_kx nc st sg pr a0 a1 kc kK kA kB kI) (hbx : cr_bx b bd') (hok : cr_ok nc st sg pr a0 a1 xK' xA' xB' b kc) : lj_Q nc nl st 1 1 kc kc sg pr a0 a1 ar cs ow xK' xA' xB' bd' kK kA kB kI lh ph := by
  obtain ⟨h1, h2, h3, h4⟩ := Q
  obtain ⟨q, hkc, hq⟩ := id hx
  exact ⟨h1, h2, ⟨hkc, b, hbx, Or.inr ⟨rfl, hok⟩⟩, Or.inr ⟨rfl, hx⟩⟩
theorem lz_848y {post : Int32 → Prop} {L : Nat} {xs : Nat → Int32} {J10 : Int32 → Int32 → Int32 → Int32 → Int32 → Int32 → Int32 → Int32 → Int32 → Int32 → Int32 → Int32 → (Nat → Int32) → (Nat → Int32) → (Nat → Int32) → (Nat → Int32) → (Nat → Int32) → (Nat → Int32) → (Nat → Int32) → (Nat → Int32) → (Nat → Int32) → (Nat → Int32) → (Nat → Int32) → (Nat → Int32) → (Nat → Int32) → (Nat → Int32) → (Nat → Int32) → (Nat → Int32) → (Nat → Int32) → (Nat → Int32) → (Nat → Int32) → (Nat → Int32) → (Nat → Int32) → (Nat → Int32) → (Nat → Int32) → (Nat → Int32) → (Nat → Int32) → Prop} {mc ms i : Nat} (Q : lj_Q nc nl st sl 1 ns kc sg pr a0 a1 ar cs ow xK xA xB bd kK kA kB kI lh ph) (hJ : ∀ {nc nl : Nat} {st : Nat → Nat} {sl kp ls : Int32} {ns kc : Nat} {sg pr a0 a1 ar cs ow xK xA xB bd kK kA kB kI lh ph : Nat → Int32} {w0 w1 w2 w3 : Int32} {X0 X1 X2 X3 X4 X5 X6 X7 X8 : Nat → Int32}, lj_Q nc nl st sl kp ns kc sg pr a0 a1 ar cs ow xK xA xB bd kK kA kB kI lh ph → J10 (nI (i + 2)) (nI nl) (nI nc) (nI ns) sl ls (nI kc) kp w0 w1 w2 w3 sg pr a0 a1 cs ar xK xA xB bd kK kA kB kI X0 X1 X2 X3 ph X4 X5 X6 lh X7 X8) :
    wL_law_848 post L xs J10 (nI i) 1 0 mc ms (nI nl) (nI nc) (nI ns) sl ls (nI kc) 1 w0 w1 w2 w3 sg pr a0 a1 cs ar xK xA xB bd kK kA kB kI X0 X1 X2 X3 ph X4 X5 X6 lh X7 X8 := by
  have hx : cr_kx nc st sg pr a0 a1 kc kK kA kB kI := by
    rcases Q.2.2.2 with z | z
    · exact absurd z (by decide)
    · exact z.2
  refine br_t rfl (br_f (by decide) (br_t rfl ⟨cr_bool (Or.inr rfl), br_f (by decide) ?_⟩))
  refine xd_adopt hx (fun xK' xA' xB' bd' b hbx hok => br_t rfl ?_)
  refine lm_check (lz_sealed Q hx hbx hok) (fun r ls' x0 oc ol pc pl ph' hs hr Q3 => ?_)
  have r0 := hs rfl
  subst r0
  exact br_t rfl (br_t (hr rfl).1 (nm_r (lz_e2 i) (hJ Q3)))
theorem lz_672b {post : Int32 → Prop} {L : Nat} {xs : Nat → Int32} {J10 : Int32 → Int32 → Int32 → Int32 → Int32 → Int32 → Int32 → Int32 → Int32 → Int32 → Int32 → Int32 → (Nat → Int32) → (Nat → Int32) → (Nat → Int32) → (Nat → Int32) → (Nat → Int32) → (Nat → Int32) → (Nat → Int32) → (Nat → Int32) → (Nat → Int32) → (Nat → Int32) → (Nat → Int32) → (Nat → Int32) → (Nat → Int32) → (Nat → Int32) → (Nat → Int32) → (Nat → Int32) → (Nat → Int32) → (Nat → Int32) → (Nat → Int32) → (Nat → Int32) → (Nat → Int32) → (Nat → Int32) → (Nat → Int32) → (Nat → Int32) → (Nat → Int32) → Prop} {mc ms i : Nat} {y7 y8 y9 y10 y11 y13 : Int32} (Q : lj_Q nc nl st sl kp ns kc sg pr a0 a1 ar cs ow xK xA xB bd kK kA kB kI lh ph) (hb : ¬ cg_base pr ar (st nc) (cg_oc a0 a1 0 (st nc) && cg_oc a0 a1 1 (st nc)) 4 ≤ 5) (hJ : ∀ {nc nl : Nat} {st : Nat → Nat} {sl kp ls : Int32} {ns kc : Nat} {sg pr a0 a1 ar cs ow xK xA xB bd kK kA kB kI lh ph : Nat → Int32} {w0 w1 w2 w3 : Int32} {X0 X1 X2 X3 X4 X5 X6 X7 X8 : Nat → Int32}, lj_Q nc nl st sl kp ns kc sg pr a0 a1 ar cs ow xK xA xB bd kK kA kB kI lh ph → J10 (nI (i + 2)) (nI nl) (nI nc) (nI ns) sl ls (nI kc) kp w0 w1 w2 w3 sg pr a0 a1 cs ar xK xA xB bd kK kA kB kI X0 X1 X2 X3 ph X4 X5 X6 lh X7 X8) :
    wL_law_672 post L xs J10 (nI i) y7 y8 y9 y10 y11 (nI (cg_base pr ar (st nc) (cg_oc a0 a1 0 (st nc) && cg_oc a0 a1 1 (st nc)) 4)) y13 mc ms (nI nl) (nI nc) (nI ns) sl ls (nI kc) kp w0 w1 w2 w3 sg pr a0 a1 cs ar xK xA xB bd kK kA kB kI X0 X1 X2 X3 ph X4 X5 X6 lh X7 X8 := by
  have b16 : cg_base pr ar (st nc) (cg_oc a0 a1 0 (st nc) && cg_oc a0 a1 1 (st nc)) 4 < 2 ^ 31 := cg_base_16 Q.1.1
  exact br_t (nI_lt (a := 5) (by omega) b16) (nm_r (lz_e2 i) (hJ Q))
theorem lz_672n {post : Int32 → Prop} {L : Nat} {xs : Nat → Int32} {J10 : Int32 → Int32 → Int32 → Int32 → Int32 → Int32 → Int32 → Int32 → Int32 → Int32 → Int32 → Int32 → (Nat → Int32) → (Nat → Int32) → (Nat → Int32) → (Nat → Int32) → (Nat → Int32) → (Nat → Int32) → (Nat → Int32) → (Nat → Int32) → (Nat → Int32) → (Nat → Int32) → (Nat → Int32) → (Nat → Int32) → (Nat → Int32) → (Nat → Int32) → (Nat → Int32) → (Nat → Int32) → (Nat → Int32) → (Nat → Int32) → (Nat → Int32) → (Nat → Int32) → (Nat → Int32) → (Nat → Int32) → (Nat → Int32) → (Nat → Int32) → (Nat → Int32) → Prop} {mc ms i : Nat} (Q : lj_Q nc nl st sl kp ns kc sg pr a0 a1 ar cs ow xK xA xB bd kK kA kB kI lh ph) (h5 : cg_base pr ar (st nc) (cg_oc a0 a1 0 (st nc) && cg_oc a0 a1 1 (st nc)) 4 ≤ 5) (hs : cq_sat (cg_HX nc st sg pr a0 a1 ar) (cg_RX nc st a0 a1) (fun _ => False)) (hJ : ∀ {nc nl : Nat} {st : Nat → Nat} {sl kp ls : Int32} {ns kc : Nat} {sg pr a0 a1 ar cs ow xK xA xB bd kK kA kB kI lh ph : Nat → Int32} {w0 w1 w2 w3 : Int32} {X0 X1 X2 X3 X4 X5 X6 X7 X8 : Nat → Int32}, lj_Q nc nl st sl kp ns kc sg pr a0 a1 ar cs ow xK xA xB bd kK kA kB kI lh ph → J10 (nI (i + 2)) (nI nl) (nI nc) (nI ns) sl ls (nI kc) kp w0 w1 w2 w3 sg pr a0 a1 cs ar xK xA xB bd kK kA kB kI X0 X1 X2 X3 ph X4 X5 X6 lh X7 X8) :
    wL_law_672 post L xs J10 (nI i) (nI nc) (nI (lp_pm pr (st nc))) (nI (lp_ar pr a0 a1 (st nc))) (nI (cg_cb (cg_oc a0 a1 0 (st nc)) (cg_oc a0 a1 1 (st nc)))) (nI (cg_sz (cg_oc a0 a1 0 (st nc) && cg_oc a0 a1 1 (st nc)))) (nI (cg_base pr ar (st nc) (cg_oc a0 a1 0 (st nc) && cg_oc a0 a1 1 (st nc)) 4)) 2 mc ms (nI nl) (nI nc) (nI ns) sl ls (nI kc) kp w0 w1 w2 w3 sg pr a0 a1 cs ar xK xA xB bd kK kA kB kI X0 X1 X2 X3 ph X4 X5 X6 lh X7 X8 := by
  refine br_f (nI_nlt (b := cg_base pr ar (st nc) (cg_oc a0 a1 0 (st nc) && cg_oc a0 a1 1 (st nc)) 4) (a := 5) h5 (by decide)) (br_f (by decide) (br_t rfl ⟨_, lb_698 Q rfl h5 (fun _ => lz_848n Q hJ) (fun z => absurd ((lb_sat Q.1.1 rfl h5).mp hs) z) (2 ^ (cg_base pr ar (st nc) (cg_oc a0 a1 0 (st nc) && cg_oc a0 a1 1 (st nc)) 4)) 0 (by omega) (fun t' h => absurd h (Nat.not_lt_zero t'))⟩))
theorem lz_672y {post : Int32 → Prop} {L : Nat} {xs : Nat → Int32} {J10 : Int32 → Int32 → Int32 → Int32 → Int32 → Int32 → Int32 → Int32 → Int32 → Int32 → Int32 → Int32 → (Nat → Int32) → (Nat → Int32) → (Nat → Int32) → (Nat → Int32) → (Nat → Int32) → (Nat → Int32) → (Nat → Int32) → (Nat → Int32) → (Nat → Int32) → (Nat → Int32) → (Nat → Int32) → (Nat → Int32) → (Nat → Int32) → (Nat → Int32) → (Nat → Int32) → (Nat → Int32) → (Nat → Int32) → (Nat → Int32) → (Nat → Int32) → (Nat → Int32) → (Nat → Int32) → (Nat → Int32) → (Nat → Int32) → (Nat → Int32) → (Nat → Int32) → Prop} {mc ms i : Nat} (Q : lj_Q nc nl st sl 1 ns kc sg pr a0 a1 ar cs ow xK xA xB bd kK kA kB kI lh ph) (h5 : cg_base pr ar (st nc) (cg_oc a0 a1 0 (st nc) && cg_oc a0 a1 1 (st nc)) 4 ≤ 5) (hs : ¬ cq_sat (cg_HX nc st sg pr a0 a1 ar) (cg_RX nc st a0 a1) (fun _ => False)) (hJ : ∀ {nc nl : Nat} {st : Nat → Nat} {sl kp ls : Int32} {ns kc : Nat} {sg pr a0 a1 ar cs ow xK xA xB bd kK kA kB kI lh ph : Nat → Int32} {w0 w1 w2 w3 : Int32} {X0 X1 X2 X3 X4 X5 X6 X7 X8 : Nat → Int32}, lj_Q nc nl st sl kp ns kc sg pr a0 a1 ar cs ow xK xA xB bd kK kA kB kI lh ph → J10 (nI (i + 2)) (nI nl) (nI nc) (nI ns) sl ls (nI kc) kp w0 w1 w2 w3 sg pr a0 a1 cs ar xK xA xB bd kK kA kB kI X0 X1 X2 X3 ph X4 X5 X6 lh X7 X8) :
    wL_law_672 post L xs J10 (nI i) (nI nc) (nI (lp_pm pr (st nc))) (nI (lp_ar pr a0 a1 (st nc))) (nI (cg_cb (cg_oc a0 a1 0 (st nc)) (cg_oc a0 a1 1 (st nc)))) (nI (cg_sz (cg_oc a0 a1 0 (st nc) && cg_oc a0 a1 1 (st nc)))) (nI (cg_base pr ar (st nc) (cg_oc a0 a1 0 (st nc) && cg_oc a0 a1 1 (st nc)) 4)) 1 mc ms (nI nl) (nI nc) (nI ns) sl ls (nI kc) 1 w0 w1 w2 w3 sg pr a0 a1 cs ar xK xA xB bd kK kA kB kI X0 X1 X2 X3 ph X4 X5 X6 lh X7 X8 := by
  refine br_f (nI_nlt (b := cg_base pr ar (st nc) (cg_oc a0 a1 0 (st nc) && cg_oc a0 a1 1 (st nc)) 4) (a := 5) h5 (by decide)) (br_t rfl ⟨_, lb_698 Q rfl h5 (fun z => absurd ((lb_sat Q.1.1 rfl h5).mpr z) hs) (fun _ => lz_848y Q hJ) (2 ^ (cg_base pr ar (st nc) (cg_oc a0 a1 0 (st nc) && cg_oc a0 a1 1 (st nc)) 4)) 0 (by omega) (fun t' h => absurd h (Nat.not_lt_zero t'))⟩)
theorem lz_366_0 {post : Int32 → Prop} {L : Nat} {xs : Nat → Int32} {J10 : Int32 → Int32 → Int32 → Int32 → Int32 → Int32 → Int32 → Int32 → Int32 → Int32 → Int32 → Int32 → (Nat → Int32) → (Nat → Int32) → (Nat → Int32) → (Nat → Int32) → (Nat → Int32) → (Nat → Int32) → (Nat → Int32) → (Nat → Int32) → (Nat → Int32) → (Nat → Int32) → (Nat → Int32) → (Nat → Int32) → (Nat → Int32) → (Nat → Int32) → (Nat → Int32) → (Nat → Int32) → (Nat → Int32) → (Nat → Int32) → (Nat → Int32) → (Nat → Int32) → (Nat → Int32) → (Nat → Int32) → (Nat → Int32) → (Nat → Int32) → (Nat → Int32) → Prop} {mc ms i : Nat} {y6 : Int32} (Q : lj_Q nc nl st sl kp ns kc sg pr a0 a1 ar cs ow xK xA xB bd kK kA kB kI lh ph) (hJ : ∀ {nc nl : Nat} {st : Nat → Nat} {sl kp ls : Int32} {ns kc : Nat} {sg pr a0 a1 ar cs ow xK xA xB bd kK kA kB kI lh ph : Nat → Int32} {w0 w1 w2 w3 : Int32} {X0 X1 X2 X3 X4 X5 X6 X7 X8 : Nat → Int32}, lj_Q nc nl st sl kp ns kc sg pr a0 a1 ar cs ow xK xA xB bd kK kA kB kI lh ph → J10 (nI (i + 2)) (nI nl) (nI nc) (nI ns) sl ls (nI kc) kp w0 w1 w2 w3 sg pr a0 a1 cs ar xK xA xB bd kK kA kB kI X0 X1 X2 X3 ph X4 X5 X6 lh X7 X8) :
    wL_law_366 post L xs J10 (nI i) 0 y6 mc ms (nI nl) (nI nc) (nI ns) sl ls (nI kc) kp w0 w1 w2 w3 sg pr a0 a1 cs ar xK xA xB bd kK kA kB kI X0 X1 X2 X3 ph X4 X5 X6 lh X7 X8 := br_t rfl (nm_r (lz_e2 i) (hJ Q))
theorem lz_366_1 {post : Int32 → Prop} {L : Nat} {xs : Nat → Int32} {J10 : Int32 → Int32 → Int32 → Int32 → Int32 → Int32 → Int32 → Int32 → Int32 → Int32 → Int32 → Int32 → (Nat → Int32) → (Nat → Int32) → (Nat → Int32) → (Nat → Int32) → (Nat → Int32) → (Nat → Int32) → (Nat → Int32) → (Nat → Int32) → (Nat → Int32) → (Nat → Int32) → (Nat → Int32) → (Nat → Int32) → (Nat → Int32) → (Nat → Int32) → (Nat → Int32) → (Nat → Int32) → (Nat → Int32) → (Nat → Int32) → (Nat → Int32) → (Nat → Int32) → (Nat → Int32) → (Nat → Int32) → (Nat → Int32) → (Nat → Int32) → (Nat → Int32) → Prop} {mc ms i : Nat} {y6 : Int32} (Q : lj_Q nc nl st sl kp ns kc sg pr a0 a1 ar cs ow xK xA xB bd kK kA kB kI lh ph) (h6 : y6 = 0 ∨ ¬ cq_sat (cg_HX nc st sg pr a0 a1 ar) (cg_RX nc st a0 a1) (fun _ => False)) (hJ : ∀ {nc nl : Nat} {st : Nat → Nat} {sl kp ls : Int32} {ns kc : Nat} {sg pr a0 a1 ar cs ow xK xA xB bd kK kA kB kI lh ph : Nat → Int32} {w0 w1 w2 w3 : Int32} {X0 X1 X2 X3 X4 X5 X6 X7 X8 : Nat → Int32}, lj_Q nc nl st sl kp ns kc sg pr a0 a1 ar cs ow xK xA xB bd kK kA kB kI lh ph → J10 (nI (i + 2)) (nI nl) (nI nc) (nI ns) sl ls (nI kc) kp w0 w1 w2 w3 sg pr a0 a1 cs ar xK xA xB bd kK kA kB kI X0 X1 X2 X3 ph X4 X5 X6 lh X7 X8) :
    wL_law_366 post L xs J10 (nI i) 1 y6 mc ms (nI nl) (nI nc) (nI ns) sl ls (nI kc) kp w0 w1 w2 w3 sg pr a0 a1 cs ar xK xA xB bd kK kA kB kI X0 X1 X2 X3 ph X4 X5 X6 lh X7 X8 := by
  obtain ⟨h1, h2, h3, h4⟩ := id Q
  have b16 : cg_base pr ar (st nc) (cg_oc a0 a1 0 (st nc) && cg_oc a0 a1 1 (st nc)) 4 < 2 ^ 31 := cg_base_16 Q.1.1
  have start := lc_389 (post := post) (L := L) (xs := xs) (J10 := J10) (y2 := nI i) (y6 := y6) (mc := mc) (ms := ms) (ls := ls) (w0 := w0) (w1 := w1) (w2 := w2) (w3 := w3) (X0 := X0) (X1 := X1) (X2 := X2) (X3 := X3) (X4 := X4) (X5 := X5) (X6 := X6) (X7 := X7) (X8 := X8) Q
    (lc_566 Q (fun hb => ?_) (fun h5 hs v1 v2 v3 ab il ih => ?_) (fun h5 hs n v0 v1 v2 v3 kK' kA' kB' kI' oc ol pc pl ph' ab il ih ri ql hp hk => ?_)) nc 0 (by omega)
  · rw [h1.1.2.2.1] at start
    exact br_f (by decide) ⟨_, start⟩
  · refine br_f (lz_nle5 hb b16) (br_t rfl (br_c (fun _ => lz_672b Q hb hJ) (fun _ => br_f (by decide) (br_t rfl (lz_672b Q hb hJ)))))
  · have Q2 : lj_Q nc nl st sl 0 ns kc sg pr a0 a1 ar cs ow xK xA xB bd kK kA kB kI lh ph := ⟨h1, h2, h3, Or.inl rfl⟩
    exact br_t (nI_le (b := 5) h5 (by decide)) (br_t rfl (br_t (h6.resolve_right (fun z => z hs)) (lz_672n Q2 h5 hs hJ)))
  · have Q2 : lj_Q nc nl st sl 1 ns n sg pr a0 a1 ar cs ow xK xA xB bd kK' kA' kB' kI' lh ph' := ⟨h1, ⟨h2.1, hp⟩, h3, Or.inr ⟨rfl, hk⟩⟩
    exact br_t (nI_le (b := 5) h5 (by decide)) (br_t rfl (br_c (fun _ => lz_672y Q2 h5 hs hJ) (fun _ => br_t rfl (lz_672y Q2 h5 hs hJ))))
end
end
section
/-! the law's turns -/
theorem lw_10 {post : Int32 → Prop} {L : Nat} {xs : Nat → Int32} {mc ms : Nat} (hL : L ≤ 260) (hp : post 1) : ∀ (n i : Nat), i ≤ L + 1 → L + 2 ≤ 2 * n + i → ∀ {nc nl : Nat} {st : Nat → Nat} {sl kp ls : Int32} {ns kc : Nat} {sg pr a0 a1 ar cs ow xK xA xB bd kK kA kB kI lh ph : Nat → Int32} {w0 w1 w2 w3 : Int32} {X0 X1 X2 X3 X4 X5 X6 X7 X8 : Nat → Int32}, lj_Q nc nl st sl kp ns kc sg pr a0 a1 ar cs ow xK xA xB bd kK kA kB kI lh ph → wL_law_10 post L xs mc ms n (nI i) (nI nl) (nI nc) (nI ns) sl ls (nI kc) kp w0 w1 w2 w3 sg pr a0 a1 cs ar xK xA xB bd kK kA kB kI X0 X1 X2 X3 ph X4 X5 X6 lh X7 X8 := by
  intro n
  induction n with
  | zero =>
    intro i h1 h2
    omega
  | succ n ih =>
    intro i h1 h2 nc nl st sl kp ls ns kc sg pr a0 a1 ar cs ow xK xA xB bd kK kA kB kI lh ph w0 w1 w2 w3 X0 X1 X2 X3 X4 X5 X6 X7 X8 Q
    obtain ⟨q1, q2, q3, q4⟩ := id Q
    by_cases e : L ≤ i
    · exact br_t (nI_le e (by omega)) hp
    · have hJ : ∀ {nc nl : Nat} {st : Nat → Nat} {sl kp ls : Int32} {ns kc : Nat} {sg pr a0 a1 ar cs ow xK xA xB bd kK kA kB kI lh ph : Nat → Int32} {w0 w1 w2 w3 : Int32} {X0 X1 X2 X3 X4 X5 X6 X7 X8 : Nat → Int32}, lj_Q nc nl st sl kp ns kc sg pr a0 a1 ar cs ow xK xA xB bd kK kA kB kI lh ph → wL_law_10 post L xs mc ms n (nI (i + 2)) (nI nl) (nI nc) (nI ns) sl ls (nI kc) kp w0 w1 w2 w3 sg pr a0 a1 cs ar xK xA xB bd kK kA kB kI X0 X1 X2 X3 ph X4 X5 X6 lh X7 X8 := ih (i + 2) (by omega) (by omega)
      refine br_f (nI_ge (a := i) (b := L) (by omega) (by omega)) (lf_cell hL (by omega) (fun r94 => ⟨by decide, nm_e ?_⟩))
      rw [nI_1 i]
      have add : ∀ (r x7 z : Int32), wL_law_76 post L xs (wL_law_10 post L xs mc ms n) (nI i) r 0 0 x7 z mc ms (nI nl) (nI nc) (nI ns) sl ls (nI kc) kp w0 w1 w2 w3 sg pr a0 a1 cs ar xK xA xB bd kK kA kB kI X0 X1 X2 X3 ph X4 X5 X6 lh X7 X8 := by
        intro r x7 z
        have a117 : ∀ z0 z1 z2 z3 : Int32, wL_law_117 post L xs (wL_law_10 post L xs mc ms n) (nI i) 0 0 z0 z1 z2 z3 mc ms (nI nl) (nI nc) (nI ns) sl ls (nI kc) kp w0 w1 w2 w3 sg pr a0 a1 cs ar xK xA xB bd kK kA kB kI X0 X1 X2 X3 ph X4 X5 X6 lh X7 X8 := by
          intro z0 z1 z2 z3
          unfold wL_law_117
          exact lm_addLiteral _ _ _ _ Q (fun r => fun Q' => lz_366_0 Q' hJ)
        have a101 : ∀ x8 z0 z1 z2 : Int32, wL_law_101 post L xs (wL_law_10 post L xs mc ms n) (nI i) r 0 0 x8 z0 z1 z2 mc ms (nI nl) (nI nc) (nI ns) sl ls (nI kc) kp w0 w1 w2 w3 sg pr a0 a1 cs ar xK xA xB bd kK kA kB kI X0 X1 X2 X3 ph X4 X5 X6 lh X7 X8 := by
          intro x8 z0 z1 z2
          exact br_c (fun _ => a117 _ _ _ _) (fun _ => a117 _ _ _ _)
        exact br_c (fun _ => a101 _ _ _ _) (fun _ => a101 _ _ _ _)
      refine lf_cell hL (by omega) (fun r97 => br_c (fun _ => ?_) (fun _ => nm_e (br_c (fun _ => add _ _ _) (fun _ => br_c (fun _ => add _ _ _) (fun _ => add _ _ _)))))
      refine br_c (fun _ => ?_) (fun _ => br_c (fun _ => ?_) (fun _ => br_c (fun _ => ?_) (fun _ => br_c (fun _ => ?_) (fun _ => br_c (fun _ => ⟨by decide, ?_⟩) (fun _ => br_c (fun _ => ?_) (fun _ => nm_e (br_c (fun _ => ?_) (fun _ => br_c (fun _ => ?_) (fun _ => ?_)))))))))
      · exact lm_endClause Q (fun r => fun Q' => lz_366_0 Q' hJ)
      · exact lz_366_1 Q (Or.inl rfl) hJ
      · -- a check
        refine ⟨cr_bool (lj_sl q3), ?_⟩
        refine lm_check Q (fun r ls' x0 oc ol pc pl ph' hs hr Q' => ?_)
        have fin : wL_law_185 post L xs (wL_law_10 post L xs mc ms n) (nI i) 0 0 r mc ms (nI nl) (nI nc) (nI ns) sl ls' (nI kc) kp x0 w1 w2 w3 sg pr a0 a1 cs ar xK xA xB bd kK kA kB kI oc ol pc pl ph' X4 X5 X6 lh X7 X8 :=
          br_c (fun e => lz_366_1 Q' (Or.inr (hr e).2) hJ) (fun e => lz_366_0 Q' hJ)
        refine br_c (fun _ => fin) (fun e0 => ?_)
        have e1 : sl = 1 := (lj_sl q3).resolve_left e0
        exact br_t (hs e1) (br_t (hr (hs e1)).1 fin)
      · -- an adoption
        refine ⟨cr_bool (lj_kp q4), ?_⟩
        rcases id q4 with rfl | ⟨rfl, hx⟩
        · exact br_t rfl (br_t rfl (br_t rfl (lz_366_0 Q hJ)))
        · refine xd_adopt hx (fun xK' xA' xB' bd' b hbx hok => br_f (by decide) (br_t rfl ?_))
          refine lm_check (lz_sealed Q hx hbx hok) (fun r ls' x0 oc ol pc pl ph' hs hr Q3 => ?_)
          have r0 := hs rfl
          subst r0
          exact br_t rfl (br_t (hr rfl).1 (lz_366_0 Q3 hJ))
      · exact lm_addStep _ _ _ Q (fun r => fun Q' => lz_366_0 Q' hJ)
      · exact lm_bind _ _ _ _ Q (fun r => fun Q' => lz_366_0 Q' hJ)
      · exact lm_clearClauses Q (fun Q' => lz_366_0 Q' hJ)
      · exact lm_endClause Q (fun r => fun Q' => lz_366_0 Q' hJ)
      · exact lm_clearProof Q (fun Q' => lz_366_0 Q' hJ)
theorem i_vc (xs : Nat → Int32) (L : Nat) (hL : L ≤ 260) : wpL_law (fun r => r = 1) L xs := by
  refine ⟨25, 4321, by decide, by decide, ?_⟩
  refine ⟨by decide, by decide, by decide, by decide, by decide, by decide, by decide, by decide, by decide, by decide, by decide, by decide, by decide, by decide, by decide, by decide, by decide, by decide, by decide, by decide, by decide, by decide, by decide, by decide, by decide, by decide, by decide, by decide, by decide, by decide, by decide, by decide, by decide, by decide, by decide, by decide, by decide, by decide, by decide, by decide, by decide, by decide, by decide, by decide, by decide, by decide, by decide, by decide, by decide, by decide, ?_⟩
  refine xt_tab (fun lh hlh => ?_)
  refine xe_empty (xe_remove ?_)
  refine ⟨L + 2, ?_⟩
  refine lw_10 (post := fun r => r = 1) hL rfl (L + 2) 0 (by omega) (by omega) (nc := 0) (nl := 0) (st := fun _ => 0) (ns := 0) (kc := 0) (ow := fun _ => 0) ?_
  exact ⟨⟨⟨Nat.zero_le _, Nat.zero_le _, rfl, fun c hc => absurd hc (Nat.not_lt_zero c), Nat.zero_le _, Nat.zero_le _, fun j hj => absurd hj (Nat.not_lt_zero j), fun p hp => Or.inl (if_pos hp)⟩, fun c hc => rfl, fun j hj => absurd hj (Nat.not_lt_zero j)⟩, ⟨hlh, rfl⟩, lj_buf0, Or.inl rfl⟩
end
