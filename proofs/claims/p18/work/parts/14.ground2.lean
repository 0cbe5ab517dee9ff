theorem yu_arN {nc nl : Nat} {st : Nat → Nat} {sg pr a0 a1 ar : Nat → Int32} (hw : cd_wf nc nl st sg pr a0 a1 ar) {p : Nat} (hop : cg_op pr p (st nc) = true) (hp : p < 4) :
    (ar p).toNatClampNeg ≤ 2 ∧ ar p = nI (ar p).toNatClampNeg := by
  obtain ⟨l, hl, el⟩ := (cg_op_iff _).mp hop
  have hl2 : l < nl := Nat.lt_of_lt_of_le hl hw.2.2.2.2.1
  obtain ⟨q, hq, eq, ea⟩ := (hw.2.2.2.2.2.2.1 l hl2).2.1
  have a2 := (cd_arg hw hl2).1
  rw [eq, nI_eq (by omega) (by omega)] at el
  subst el
  rw [ea, nI_clamp (by omega)]
  exact ⟨a2, rfl⟩
theorem cg_at_4 {nc nl : Nat} {st : Nat → Nat} {sg pr a0 a1 ar : Nat → Int32} (hw : cd_wf nc nl st sg pr a0 a1 ar) {two : Bool} {p : Nat} (hp : p < 4) : cg_at pr ar (st nc) two p ≤ 4 := by
  unfold cg_at
  by_cases o : cg_op pr p (st nc) = true
  · rw [if_pos o]
    have h2 := (yu_arN hw o hp).1
    generalize (ar p).toNatClampNeg = a at h2 ⊢
    unfold cg_sz
    have c : a = 0 ∨ a = 1 ∨ a = 2 := by omega
    cases two <;> rcases c with c | c | c <;> subst c <;> decide
  · rw [if_neg o]
    omega
