/-! the law's small encodings -/
theorem le_pm : ∀ k, k < 16 → ∀ p, p < 4 → nI k ||| ((1 : Int32) <<< ((nI p &&& 3) &&& 31)) = nI (k ||| 2 ^ p) := by decide +kernel
theorem le_pm_b : ∀ k, k < 16 → ∀ p, p < 4 → (k ||| 2 ^ p) < 16 ∧ ∀ q, q < 4 → (k ||| 2 ^ p).testBit q = (k.testBit q || decide (q = p)) := by decide +kernel
theorem le_pm_r : ∀ k, k < 16 → ∀ q, q < 4 → ((nI k >>> (nI q &&& 31)) &&& 1) = if k.testBit q = true then 1 else 0 := by decide +kernel
def le_put (k p a : Nat) : Nat := if k / 4 ^ p % 4 = 0 then k + a * 4 ^ p else k
theorem le_ar : ∀ p, p < 4 → ∀ a, a < 3 → ∀ k, k < 256 → (k / 4 ^ p % 4 = 0 ∨ k / 4 ^ p % 4 = a) → nI k ||| (nI a <<< ((2 * (nI p &&& 3)) &&& 31)) = nI (le_put k p a) := by decide +kernel
theorem le_ar_d : ∀ p, p < 4 → ∀ a, a < 3 → ∀ k, k < 256 → (k / 4 ^ p % 4 = 0 ∨ k / 4 ^ p % 4 = a) → le_put k p a < 256 ∧ ∀ q, q < 4 → le_put k p a / 4 ^ q % 4 = if q = p then a else k / 4 ^ q % 4 := by decide +kernel
theorem le_ar_r : ∀ q, q < 4 → ∀ k, k < 256 → ((nI k >>> ((2 * nI q) &&& 31)) &&& 3) = nI (k / 4 ^ q % 4) := by decide +kernel
/-! a literal's number -/
def ll_A (x : Int32) : Nat := (x + 1).toNatClampNeg
theorem ll_A_eq {x : Int32} (h : cd_at x) : x + 1 = nI (ll_A x) ∧ ll_A x < 5 ∧ nI (ll_A x) - 1 = x := by
  unfold ll_A
  rcases h with e | ⟨t, ht, e⟩
  · subst e
    decide
  · subst e
    rw [nI_1, nI_clamp (by omega)]
    exact ⟨rfl, by omega, nI_pred t⟩
def ll_code (sg pr a0 a1 : Nat → Int32) (j : Nat) : Nat := 1000 * (sg j).toNatClampNeg + 100 * (pr j).toNatClampNeg + 10 * ll_A (a0 j) + ll_A (a1 j)
theorem ll_eq {s p : Nat} {u v : Int32} (hu : cd_at u) (hv : cd_at v) : ((((nI s * 1000) + (nI p * 100)) + ((u + 1) * 10)) + v) + 1 = nI (1000 * s + 100 * p + 10 * ll_A u + ll_A v) := by
  rw [Int32.add_assoc _ v 1, (ll_A_eq hu).1, (ll_A_eq hv).1, show (1000 : Int32) = nI 1000 from rfl, show (100 : Int32) = nI 100 from rfl, show (10 : Int32) = nI 10 from rfl, pk_mul, pk_mul, pk_mul, nI_add, nI_add, nI_add]
  exact congrArg nI (by omega)
theorem ll_d100 {k : Nat} (h : k < 10000) : (nI k / 100) - (nI k / 100) / 10 * 10 = nI (k / 100 % 10) := by
  rw [show (100 : Int32) = nI 100 from rfl, show (10 : Int32) = nI 10 from rfl, pk_div (by omega) (by omega) (by omega), pk_rem (by omega) (by omega) (by omega)]
theorem ll_d10 {k : Nat} (h : k < 10000) : (nI k / 10) - (nI k / 10) / 10 * 10 = nI (k / 10 % 10) := by
  rw [show (10 : Int32) = nI 10 from rfl, pk_div (by omega) (by omega) (by omega), pk_rem (by omega) (by omega) (by omega)]
theorem ll_d1 {k : Nat} (h : k < 10000) : nI k - nI k / 10 * 10 = nI (k % 10) := by
  rw [show (10 : Int32) = nI 10 from rfl, pk_rem (by omega) (by omega) (by omega)]
theorem ll_d1000 {k : Nat} (h : k < 10000) : nI k / 1000 = nI (k / 1000) := by
  rw [show (1000 : Int32) = nI 1000 from rfl, pk_div (by omega) (by omega) (by omega)]
/-- what the law reads out of a literal's number -/
theorem ll_dec {nc nl : Nat} {st : Nat → Nat} {sg pr a0 a1 ar : Nat → Int32} (hw : cd_wf nc nl st sg pr a0 a1 ar) {j : Nat} (hj : j < st nc) :
    nI (ll_code sg pr a0 a1 j) / 1000 = nI (sg j).toNatClampNeg ∧ (nI (ll_code sg pr a0 a1 j) / 100) - (nI (ll_code sg pr a0 a1 j) / 100) / 10 * 10 = nI (pr j).toNatClampNeg ∧
    ((nI (ll_code sg pr a0 a1 j) / 10) - (nI (ll_code sg pr a0 a1 j) / 10) / 10 * 10) - 1 = a0 j ∧ (nI (ll_code sg pr a0 a1 j) - nI (ll_code sg pr a0 a1 j) / 10 * 10) - 1 = a1 j := by
  have hjl : j < nl := Nat.lt_of_lt_of_le hj hw.2.2.2.2.1
  obtain ⟨l1, _, l3, l4, l5⟩ := hw.2.2.2.2.2.2.1 j hjl
  obtain ⟨s1, _, p1, _⟩ := cg_lit hw hj
  obtain ⟨_, A5, eA⟩ := ll_A_eq l3
  obtain ⟨_, B5, eB⟩ := ll_A_eq l4
  have hk : ll_code sg pr a0 a1 j < 10000 := by
    unfold ll_code
    omega
  rw [ll_d1000 hk, ll_d100 hk, ll_d10 hk, ll_d1 hk]
  unfold ll_code
  refine ⟨congrArg nI (by omega), congrArg nI (by omega), ?_, ?_⟩
  · rw [show (1000 * (sg j).toNatClampNeg + 100 * (pr j).toNatClampNeg + 10 * ll_A (a0 j) + ll_A (a1 j)) / 10 % 10 = ll_A (a0 j) by omega]
    exact eA
  · rw [show (1000 * (sg j).toNatClampNeg + 100 * (pr j).toNatClampNeg + 10 * ll_A (a0 j) + ll_A (a1 j)) % 10 = ll_A (a1 j) by omega]
    exact eB
theorem ll_sg {u : Int32} (h : cd_at u) : (0 ≤ u ↔ ¬ u = -1) := by
  rcases h with e | ⟨t, ht, e⟩
  · subst e
    decide
  · subst e
    have : t = 0 ∨ t = 1 ∨ t = 2 ∨ t = 3 := by omega
    rcases this with z | z | z | z <;> subst z <;> decide
theorem ll_ar {u v : Int32} (hu : cd_at u) (hv : cd_at v) {P : Int32 → Prop} (h : P (nI (ck_ar u v))) : ((0 ≤ u → (((0 ≤ v → P 2) ∧ (¬ 0 ≤ v → P 1)))) ∧ (¬ 0 ≤ u → P 0)) := by
  unfold ck_ar at h
  refine ek_if (ll_sg hu) (fun e => ek_if (ll_sg hv) (fun e2 => ?_) (fun e2 => ?_)) (fun e => ?_)
  · rw [if_neg e, if_neg e2] at h
    exact h
  · rw [if_neg e, if_pos (Classical.byContradiction e2)] at h
    exact h
  · rw [if_pos (Classical.byContradiction e)] at h
    exact h
section
variable {nc nl : Nat} {st : Nat → Nat} {sl kp ls : Int32} {ns kc : Nat} {sg pr a0 a1 ar cs ow xK xA xB bd kK kA kB kI lh ph : Nat → Int32} {w0 w1 w2 w3 : Int32} {X0 X1 X2 X3 X4 X5 X6 X7 X8 : Nat → Int32}
theorem ll_get {post : Int32 → Prop} (Q : lj_Q nc nl st sl kp ns kc sg pr a0 a1 ar cs ow xK xA xB bd kK kA kB kI lh ph) {c i : Nat} (hc : c < nc) (hi : i < st (c + 1) - st c) (h : post (nI (ll_code sg pr a0 a1 (st c + i)))) : wpX_getLiteral post (nI nl, nI nc, nI ns, sl, ls, nI kc, kp, w0, w1, w2, w3, sg, pr, a0, a1, cs, ar, xK, xA, xB, bd, kK, kA, kB, kI, X0, X1, X2, X3, ph, X4, X5, X6, lh, X7, X8) (nI c) (nI i) := by
  obtain ⟨⟨hw, hcs, how⟩, _⟩ := id Q
  have hnc := hw.1
  have hnl := hw.2.1
  have hM := hw.2.2.2.2.1
  have hst := cd_mono' hw (c := c + 1) (d := nc) (by omega) (Nat.le_refl _)
  have l3 := (hw.2.2.2.2.2.2.1 (st c + i) (by omega)).2.2.1
  have l4 := (hw.2.2.2.2.2.2.1 (st c + i) (by omega)).2.2.2.1
  have es := (cg_lit hw (show st c + i < st nc by omega)).2.1
  have ep := (cg_lit hw (show st c + i < st nc by omega)).2.2.2.1
  refine br_f (nI_pos (by omega)) ?_
  refine xl_len hw hcs (by omega) ?_
  rw [cd_en_lt hc]
  refine br_t (nI_lt hi (by omega)) ⟨vp_in_nI (by omega) (by decide), ?_⟩
  rw [nI_clamp (show c < 2 ^ 31 by omega), hcs c (by omega)]
  refine nm_r (nI_add _ _) ?_
  have hin : vp_in (nI (st c + i)) 16 := vp_in_nI (by omega) (by decide)
  rw [nI_clamp (show st c + i < 2 ^ 31 by omega)]
  refine ⟨hin, hin, hin, hin, ?_⟩
  have e := ll_eq (s := (sg (st c + i)).toNatClampNeg) (p := (pr (st c + i)).toNatClampNeg) l3 l4
  rw [← es, ← ep] at e
  rw [e]
  exact h
theorem ll_len {post : Int32 → Prop} (Q : lj_Q nc nl st sl kp ns kc sg pr a0 a1 ar cs ow xK xA xB bd kK kA kB kI lh ph) {c : Nat} (hc : c < nc) (h : post (nI (st (c + 1) - st c))) : wpX_getClauseLength post (nI nl, nI nc, nI ns, sl, ls, nI kc, kp, w0, w1, w2, w3, sg, pr, a0, a1, cs, ar, xK, xA, xB, bd, kK, kA, kB, kI, X0, X1, X2, X3, ph, X4, X5, X6, lh, X7, X8) (nI c) := by
  obtain ⟨⟨hw, hcs, how⟩, _⟩ := id Q
  refine xl_len hw hcs (by omega) ?_
  rw [cd_en_lt hc]
  exact h
end
/-! what the law counts -/
def lp_pm (pr : Nat → Int32) : Nat → Nat
  | 0 => 0
  | j + 1 => lp_pm pr j ||| 2 ^ (pr j).toNatClampNeg
def lp_ar (pr a0 a1 : Nat → Int32) : Nat → Nat
  | 0 => 0
  | j + 1 => le_put (lp_ar pr a0 a1 j) (pr j).toNatClampNeg (ck_ar (a0 j) (a1 j))
theorem lp_pm_ok {nc nl : Nat} {st : Nat → Nat} {sg pr a0 a1 ar : Nat → Int32} (hw : cd_wf nc nl st sg pr a0 a1 ar) : ∀ j, j ≤ st nc → lp_pm pr j < 16 ∧ ∀ q, q < 4 → (lp_pm pr j).testBit q = cg_op pr q j
  | 0, _ => ⟨show 0 < 16 by decide, fun q _ => Nat.zero_testBit q⟩
  | j + 1, hj => by
    obtain ⟨h1, h2⟩ := lp_pm_ok hw j (by omega)
    obtain ⟨_, _, p1, ep, _⟩ := cg_lit hw (show j < st nc by omega)
    obtain ⟨k1, k2⟩ := le_pm_b _ h1 _ p1
    refine ⟨k1, fun q hq => ?_⟩
    show (lp_pm pr j ||| 2 ^ (pr j).toNatClampNeg).testBit q = (cg_op pr q j || decide (pr j = nI q))
    rw [k2 q hq, h2 q hq]
    have : decide (q = (pr j).toNatClampNeg) = decide (pr j = nI q) := by
      apply decide_eq_decide.mpr
      constructor
      · intro e
        rw [e]
        exact ep
      · intro e
        rw [e, nI_clamp (by omega)]
    rw [this]
theorem lp_ar_ok {nc nl : Nat} {st : Nat → Nat} {sg pr a0 a1 ar : Nat → Int32} (hw : cd_wf nc nl st sg pr a0 a1 ar) : ∀ j, j ≤ st nc → lp_ar pr a0 a1 j < 256 ∧ ∀ q, q < 4 → lp_ar pr a0 a1 j / 4 ^ q % 4 = if cg_op pr q j = true then (ar q).toNatClampNeg else 0
  | 0, _ => ⟨show 0 < 256 by decide, fun q _ => by
      show 0 / 4 ^ q % 4 = if false = true then _ else 0
      rw [Nat.zero_div, if_neg (by decide)]⟩
  | j + 1, hj => by
    obtain ⟨h1, h2⟩ := lp_ar_ok hw j (by omega)
    obtain ⟨_, _, p1, ep, ea, _, _, _, a2⟩ := cg_lit hw (show j < st nc by omega)
    have hd : lp_ar pr a0 a1 j / 4 ^ (pr j).toNatClampNeg % 4 = 0 ∨ lp_ar pr a0 a1 j / 4 ^ (pr j).toNatClampNeg % 4 = ck_ar (a0 j) (a1 j) := by
      rw [h2 _ p1]
      by_cases o : cg_op pr (pr j).toNatClampNeg j = true
      · rw [if_pos o, ea]
        exact Or.inr rfl
      · rw [if_neg o]
        exact Or.inl rfl
    obtain ⟨k1, k2⟩ := le_ar_d _ p1 _ (show ck_ar (a0 j) (a1 j) < 3 by omega) _ h1 hd
    refine ⟨k1, fun q hq => ?_⟩
    show le_put (lp_ar pr a0 a1 j) (pr j).toNatClampNeg (ck_ar (a0 j) (a1 j)) / 4 ^ q % 4 = if (cg_op pr q j || decide (pr j = nI q)) = true then (ar q).toNatClampNeg else 0
    rw [k2 q hq]
    by_cases e : q = (pr j).toNatClampNeg
    · rw [if_pos e, decide_eq_true (show pr j = nI q by rw [e]; exact ep), Bool.or_true, if_pos rfl, e, ea]
    · have ne : ¬ pr j = nI q := by
        intro z
        apply e
        rw [z, nI_clamp (by omega)]
      rw [if_neg e, h2 q hq, decide_eq_false ne, Bool.or_false]
theorem lp_ar_step {nc nl : Nat} {st : Nat → Nat} {sg pr a0 a1 ar : Nat → Int32} (hw : cd_wf nc nl st sg pr a0 a1 ar) {j : Nat} (hj : j < st nc) :
    nI (lp_ar pr a0 a1 j) ||| (nI (ck_ar (a0 j) (a1 j)) <<< ((2 * (nI (pr j).toNatClampNeg &&& 3)) &&& 31)) = nI (lp_ar pr a0 a1 (j + 1)) := by
  obtain ⟨h1, h2⟩ := lp_ar_ok hw j (by omega)
  obtain ⟨_, _, p1, ep, ea, _, _, _, a2⟩ := cg_lit hw hj
  refine le_ar _ p1 _ (by omega) _ h1 ?_
  rw [h2 _ p1]
  by_cases o : cg_op pr (pr j).toNatClampNeg j = true
  · rw [if_pos o, ea]
    exact Or.inr rfl
  · rw [if_neg o]
    exact Or.inl rfl
theorem lp_pm_step {nc nl : Nat} {st : Nat → Nat} {sg pr a0 a1 ar : Nat → Int32} (hw : cd_wf nc nl st sg pr a0 a1 ar) {j : Nat} (hj : j < st nc) :
    nI (lp_pm pr j) ||| ((1 : Int32) <<< ((nI (pr j).toNatClampNeg &&& 3) &&& 31)) = nI (lp_pm pr (j + 1)) := by
  obtain ⟨h1, h2⟩ := lp_pm_ok hw j (by omega)
  obtain ⟨_, _, p1, _⟩ := cg_lit hw hj
  exact le_pm _ h1 _ p1
