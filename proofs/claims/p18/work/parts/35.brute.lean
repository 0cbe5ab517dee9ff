/-! the law tries every interpretation -/
def lb_s (nc : Nat) (st : Nat → Nat) (sg pr a0 a1 ar : Nat → Int32) (t c x y : Nat) : Prop :=
  ∃ j, st c ≤ j ∧ j < st (c + 1) ∧ cq_tr (cg_tb t) (cg_gl sg pr a0 a1 ar (st nc) (cg_oc a0 a1 0 (st nc) && cg_oc a0 a1 1 (st nc)) j x y)
theorem lb_cg {P P' : Prop} (h : P ↔ P') : ck_if P (1 : Int32) 0 = ck_if P' 1 0 := by rw [propext h]
theorem lb_sz (two : Bool) : cg_sz two ≤ 2 ∧ 1 ≤ cg_sz two ∧ (two = true → cg_sz two = 2) ∧ (¬ two = true → cg_sz two = 1) := by
  cases two <;> decide
theorem lb_ok {nc nl : Nat} {st : Nat → Nat} {sg pr a0 a1 ar : Nat → Int32} (hw : cd_wf nc nl st sg pr a0 a1 ar) : lf_ok pr ar (st nc) (lp_pm pr (st nc)) (lp_ar pr a0 a1 (st nc)) :=
  ⟨lp_pm_ok hw (st nc) (Nat.le_refl _), lp_ar_ok hw (st nc) (Nat.le_refl _)⟩
section
variable {nc nl : Nat} {st : Nat → Nat} {sl kp ls : Int32} {ns kc : Nat} {sg pr a0 a1 ar cs ow xK xA xB bd kK kA kB kI lh ph : Nat → Int32} {w0 w1 w2 w3 : Int32} {X0 X1 X2 X3 X4 X5 X6 X7 X8 : Nat → Int32}
theorem lb_764 {post : Int32 → Prop} {L : Nat} {xs : Nat → Int32} {J10 : Int32 → Int32 → Int32 → Int32 → Int32 → Int32 → Int32 → Int32 → Int32 → Int32 → Int32 → Int32 → (Nat → Int32) → (Nat → Int32) → (Nat → Int32) → (Nat → Int32) → (Nat → Int32) → (Nat → Int32) → (Nat → Int32) → (Nat → Int32) → (Nat → Int32) → (Nat → Int32) → (Nat → Int32) → (Nat → Int32) → (Nat → Int32) → (Nat → Int32) → (Nat → Int32) → (Nat → Int32) → (Nat → Int32) → (Nat → Int32) → (Nat → Int32) → (Nat → Int32) → (Nat → Int32) → (Nat → Int32) → (Nat → Int32) → (Nat → Int32) → (Nat → Int32) → Prop} {J698 J718 J741 J751 : Int32 → Int32 → Prop} {y2 y12 y13 y14 : Int32} {mc ms : Nat} (Q : lj_Q nc nl st sl kp ns kc sg pr a0 a1 ar cs ow xK xA xB bd kK kA kB kI lh ph) (h5 : cg_base pr ar (st nc) (cg_oc a0 a1 0 (st nc) && cg_oc a0 a1 1 (st nc)) 4 ≤ 5)
    {t c x y : Nat} (ht : t < 32) (hc : c < nc) (hx : x < 2) (hy : y < 2) (hxy : ¬ (cg_oc a0 a1 0 (st nc) && cg_oc a0 a1 1 (st nc)) = true → x = 0 ∧ y = 0) {P : Prop} (h : J751 (ck_if (P ∧ lb_s nc st sg pr a0 a1 ar t c x y) 1 0) (nI (y + 1))) :
    ∀ d i : Nat, i + d = st (c + 1) - st c → ∀ F : Int32, ((F = 0 ∧ ∀ j, st c ≤ j → j < st c + i → ¬ cq_tr (cg_tb t) (cg_gl sg pr a0 a1 ar (st nc) (cg_oc a0 a1 0 (st nc) && cg_oc a0 a1 1 (st nc)) j x y)) ∨ (F = 1 ∧ ∃ j, st c ≤ j ∧ j < st c + i ∧ cq_tr (cg_tb t) (cg_gl sg pr a0 a1 ar (st nc) (cg_oc a0 a1 0 (st nc) && cg_oc a0 a1 1 (st nc)) j x y))) →
      wL_law_764 post L xs J10 J698 J718 J741 J751 y2 (nI nc) (nI (lp_pm pr (st nc))) (nI (lp_ar pr a0 a1 (st nc))) (nI (cg_cb (cg_oc a0 a1 0 (st nc)) (cg_oc a0 a1 1 (st nc)))) (nI (cg_sz (cg_oc a0 a1 0 (st nc) && cg_oc a0 a1 1 (st nc)))) y12 y13 y14 (nI t) (ck_if P 1 0) (nI c) (nI (st (c + 1) - st c)) (nI x) (nI y) mc ms (nI nl) (nI nc) (nI ns) sl ls (nI kc) kp w0 w1 w2 w3 sg pr a0 a1 cs ar xK xA xB bd kK kA kB kI X0 X1 X2 X3 ph X4 X5 X6 lh X7 X8 (d + 1) F (nI i) := by
  obtain ⟨⟨hw, hcs, how⟩, _⟩ := id Q
  have hnc := hw.1
  have hnl := hw.2.1
  have hM := hw.2.2.2.2.1
  have hst := cd_mono' hw (c := c + 1) (d := nc) (by omega) (Nat.le_refl _)
  have hcc := (hw.2.2.2.1 c hc).1
  intro d
  induction d with
  | zero =>
    intro i hi F hF
    have e : st c + i = st (c + 1) := by omega
    rw [e] at hF
    refine br_t (nI_le (by omega) (by omega)) ?_
    rcases hF with ⟨eF, hno⟩ | ⟨eF, j, j1, j2, j3⟩
    · have hs : ¬ (P ∧ lb_s nc st sg pr a0 a1 ar t c x y) := fun ⟨_, j, j1, j2, j3⟩ => hno j j1 j2 j3
      rw [ck_if_f hs] at h
      exact br_t eF (nm_r (nI_1 y) h)
    · have hs : (P ∧ lb_s nc st sg pr a0 a1 ar t c x y) ↔ P := ⟨fun z => z.1, fun z => ⟨z, j, j1, j2, j3⟩⟩
      rw [lb_cg hs] at h
      exact br_f (by rw [eF]; decide) (nm_r (nI_1 y) h)
  | succ d ih =>
    intro i hi F hF
    have hj : st c + i < st nc := by omega
    have hil : i < st (c + 1) - st c := by omega
    refine br_f (nI_ge hil (by omega)) (ll_get Q hc hil ?_)
    refine lf_holds hw (lb_ok hw) h5 hj ht hx hy hxy (fun tr => br_f (by decide) (nm_r (nI_1 i) (ih (i + 1) (by omega) 1 (Or.inr ⟨rfl, st c + i, by omega, by omega, tr⟩)))) (fun ntr => br_t rfl (nm_r (nI_1 i) (ih (i + 1) (by omega) F ?_)))
    rcases hF with ⟨eF, hno⟩ | ⟨eF, j, j1, j2, j3⟩
    · refine Or.inl ⟨eF, fun j j1 j2 => ?_⟩
      by_cases e : j = st c + i
      · rw [e]
        exact ntr
      · exact hno j j1 (by omega)
    · exact Or.inr ⟨eF, j, j1, by omega, j3⟩
theorem lb_751 {post : Int32 → Prop} {L : Nat} {xs : Nat → Int32} {J10 : Int32 → Int32 → Int32 → Int32 → Int32 → Int32 → Int32 → Int32 → Int32 → Int32 → Int32 → Int32 → (Nat → Int32) → (Nat → Int32) → (Nat → Int32) → (Nat → Int32) → (Nat → Int32) → (Nat → Int32) → (Nat → Int32) → (Nat → Int32) → (Nat → Int32) → (Nat → Int32) → (Nat → Int32) → (Nat → Int32) → (Nat → Int32) → (Nat → Int32) → (Nat → Int32) → (Nat → Int32) → (Nat → Int32) → (Nat → Int32) → (Nat → Int32) → (Nat → Int32) → (Nat → Int32) → (Nat → Int32) → (Nat → Int32) → (Nat → Int32) → (Nat → Int32) → Prop} {J698 J718 J741 : Int32 → Int32 → Prop} {y2 y12 y13 y14 : Int32} {mc ms : Nat} (Q : lj_Q nc nl st sl kp ns kc sg pr a0 a1 ar cs ow xK xA xB bd kK kA kB kI lh ph) (h5 : cg_base pr ar (st nc) (cg_oc a0 a1 0 (st nc) && cg_oc a0 a1 1 (st nc)) 4 ≤ 5)
    {t c x : Nat} (ht : t < 32) (hc : c < nc) (hx : x < (cg_sz (cg_oc a0 a1 0 (st nc) && cg_oc a0 a1 1 (st nc)))) :
    ∀ d y : Nat, y + d = (cg_sz (cg_oc a0 a1 0 (st nc) && cg_oc a0 a1 1 (st nc))) → ∀ P : Prop, J741 (ck_if (P ∧ ∀ y', y ≤ y' → y' < (cg_sz (cg_oc a0 a1 0 (st nc) && cg_oc a0 a1 1 (st nc))) → lb_s nc st sg pr a0 a1 ar t c x y') 1 0) (nI (x + 1)) →
      wL_law_751 post L xs J10 J698 J718 J741 y2 (nI nc) (nI (lp_pm pr (st nc))) (nI (lp_ar pr a0 a1 (st nc))) (nI (cg_cb (cg_oc a0 a1 0 (st nc)) (cg_oc a0 a1 1 (st nc)))) (nI (cg_sz (cg_oc a0 a1 0 (st nc) && cg_oc a0 a1 1 (st nc)))) y12 y13 y14 (nI t) (nI c) (nI (st (c + 1) - st c)) (nI x) mc ms (nI nl) (nI nc) (nI ns) sl ls (nI kc) kp w0 w1 w2 w3 sg pr a0 a1 cs ar xK xA xB bd kK kA kB kI X0 X1 X2 X3 ph X4 X5 X6 lh X7 X8 (d + 1) (ck_if P 1 0) (nI y) := by
  obtain ⟨z2, z1, zt, zf⟩ := lb_sz (cg_oc a0 a1 0 (st nc) && cg_oc a0 a1 1 (st nc))
  intro d
  induction d with
  | zero =>
    intro y hy P h
    have hs : (P ∧ ∀ y', y ≤ y' → y' < (cg_sz (cg_oc a0 a1 0 (st nc) && cg_oc a0 a1 1 (st nc))) → lb_s nc st sg pr a0 a1 ar t c x y') ↔ P := ⟨fun z => z.1, fun z => ⟨z, fun y' a b => by omega⟩⟩
    rw [lb_cg hs] at h
    exact br_t (nI_le (by omega) (by omega)) (nm_r (nI_1 x) h)
  | succ d ih =>
    intro y hy P h
    refine br_f (nI_ge (show y < (cg_sz (cg_oc a0 a1 0 (st nc) && cg_oc a0 a1 1 (st nc))) by omega) (by omega)) ⟨_, lb_764 Q h5 ht hc (by omega) (show y < 2 by omega) (fun z => ?_) (ih (y + 1) (by omega) _ ?_) (st (c + 1) - st c) 0 (by omega) 0 (Or.inl ⟨rfl, fun j a b => by omega⟩)⟩
    · have := zf z
      omega
    · have hs : ((P ∧ lb_s nc st sg pr a0 a1 ar t c x y) ∧ ∀ y', y + 1 ≤ y' → y' < (cg_sz (cg_oc a0 a1 0 (st nc) && cg_oc a0 a1 1 (st nc))) → lb_s nc st sg pr a0 a1 ar t c x y') ↔ (P ∧ ∀ y', y ≤ y' → y' < (cg_sz (cg_oc a0 a1 0 (st nc) && cg_oc a0 a1 1 (st nc))) → lb_s nc st sg pr a0 a1 ar t c x y') := by
        constructor
        · intro ⟨⟨a, b⟩, g⟩
          refine ⟨a, fun y' l1 l2 => ?_⟩
          by_cases e : y' = y
          · rw [e]
            exact b
          · exact g y' (by omega) l2
        · intro ⟨a, g⟩
          exact ⟨⟨a, g y (Nat.le_refl _) (by omega)⟩, fun y' l1 l2 => g y' (by omega) l2⟩
      rw [lb_cg hs]
      exact h
theorem lb_741 {post : Int32 → Prop} {L : Nat} {xs : Nat → Int32} {J10 : Int32 → Int32 → Int32 → Int32 → Int32 → Int32 → Int32 → Int32 → Int32 → Int32 → Int32 → Int32 → (Nat → Int32) → (Nat → Int32) → (Nat → Int32) → (Nat → Int32) → (Nat → Int32) → (Nat → Int32) → (Nat → Int32) → (Nat → Int32) → (Nat → Int32) → (Nat → Int32) → (Nat → Int32) → (Nat → Int32) → (Nat → Int32) → (Nat → Int32) → (Nat → Int32) → (Nat → Int32) → (Nat → Int32) → (Nat → Int32) → (Nat → Int32) → (Nat → Int32) → (Nat → Int32) → (Nat → Int32) → (Nat → Int32) → (Nat → Int32) → (Nat → Int32) → Prop} {J698 J718 : Int32 → Int32 → Prop} {y2 y12 y13 y14 : Int32} {mc ms : Nat} (Q : lj_Q nc nl st sl kp ns kc sg pr a0 a1 ar cs ow xK xA xB bd kK kA kB kI lh ph) (h5 : cg_base pr ar (st nc) (cg_oc a0 a1 0 (st nc) && cg_oc a0 a1 1 (st nc)) 4 ≤ 5)
    {t c : Nat} (ht : t < 32) (hc : c < nc) :
    ∀ d x : Nat, x + d = (cg_sz (cg_oc a0 a1 0 (st nc) && cg_oc a0 a1 1 (st nc))) → ∀ P : Prop, J718 (ck_if (P ∧ ∀ x', x ≤ x' → x' < (cg_sz (cg_oc a0 a1 0 (st nc) && cg_oc a0 a1 1 (st nc))) → ∀ y', 0 ≤ y' → y' < (cg_sz (cg_oc a0 a1 0 (st nc) && cg_oc a0 a1 1 (st nc))) → lb_s nc st sg pr a0 a1 ar t c x' y') 1 0) (nI (c + 1)) →
      wL_law_741 post L xs J10 J698 J718 y2 (nI nc) (nI (lp_pm pr (st nc))) (nI (lp_ar pr a0 a1 (st nc))) (nI (cg_cb (cg_oc a0 a1 0 (st nc)) (cg_oc a0 a1 1 (st nc)))) (nI (cg_sz (cg_oc a0 a1 0 (st nc) && cg_oc a0 a1 1 (st nc)))) y12 y13 y14 (nI t) (nI c) (nI (st (c + 1) - st c)) mc ms (nI nl) (nI nc) (nI ns) sl ls (nI kc) kp w0 w1 w2 w3 sg pr a0 a1 cs ar xK xA xB bd kK kA kB kI X0 X1 X2 X3 ph X4 X5 X6 lh X7 X8 (d + 1) (ck_if P 1 0) (nI x) := by
  obtain ⟨z2, z1, zt, zf⟩ := lb_sz (cg_oc a0 a1 0 (st nc) && cg_oc a0 a1 1 (st nc))
  intro d
  induction d with
  | zero =>
    intro x hx P h
    have hs : (P ∧ ∀ x', x ≤ x' → x' < (cg_sz (cg_oc a0 a1 0 (st nc) && cg_oc a0 a1 1 (st nc))) → ∀ y', 0 ≤ y' → y' < (cg_sz (cg_oc a0 a1 0 (st nc) && cg_oc a0 a1 1 (st nc))) → lb_s nc st sg pr a0 a1 ar t c x' y') ↔ P := ⟨fun z => z.1, fun z => ⟨z, fun x' a b => by omega⟩⟩
    rw [lb_cg hs] at h
    exact br_t (nI_le (by omega) (by omega)) (nm_r (nI_1 c) h)
  | succ d ih =>
    intro x hx P h
    refine br_f (nI_ge (show x < (cg_sz (cg_oc a0 a1 0 (st nc) && cg_oc a0 a1 1 (st nc))) by omega) (by omega)) ⟨_, lb_751 Q h5 ht hc (show x < (cg_sz (cg_oc a0 a1 0 (st nc) && cg_oc a0 a1 1 (st nc))) by omega) (cg_sz (cg_oc a0 a1 0 (st nc) && cg_oc a0 a1 1 (st nc))) 0 (by omega) P (ih (x + 1) (by omega) _ ?_)⟩
    have hs : ((P ∧ ∀ y', 0 ≤ y' → y' < (cg_sz (cg_oc a0 a1 0 (st nc) && cg_oc a0 a1 1 (st nc))) → lb_s nc st sg pr a0 a1 ar t c x y') ∧ ∀ x', x + 1 ≤ x' → x' < (cg_sz (cg_oc a0 a1 0 (st nc) && cg_oc a0 a1 1 (st nc))) → ∀ y', 0 ≤ y' → y' < (cg_sz (cg_oc a0 a1 0 (st nc) && cg_oc a0 a1 1 (st nc))) → lb_s nc st sg pr a0 a1 ar t c x' y') ↔ (P ∧ ∀ x', x ≤ x' → x' < (cg_sz (cg_oc a0 a1 0 (st nc) && cg_oc a0 a1 1 (st nc))) → ∀ y', 0 ≤ y' → y' < (cg_sz (cg_oc a0 a1 0 (st nc) && cg_oc a0 a1 1 (st nc))) → lb_s nc st sg pr a0 a1 ar t c x' y') := by
      constructor
      · intro ⟨⟨a, b⟩, g⟩
        refine ⟨a, fun x' l1 l2 => ?_⟩
        by_cases e : x' = x
        · rw [e]
          exact b
        · exact g x' (by omega) l2
      · intro ⟨a, g⟩
        exact ⟨⟨a, g x (Nat.le_refl _) (by omega)⟩, fun x' l1 l2 => g x' (by omega) l2⟩
    rw [lb_cg hs]
    exact h
theorem lb_718 {post : Int32 → Prop} {L : Nat} {xs : Nat → Int32} {J10 : Int32 → Int32 → Int32 → Int32 → Int32 → Int32 → Int32 → Int32 → Int32 → Int32 → Int32 → Int32 → (Nat → Int32) → (Nat → Int32) → (Nat → Int32) → (Nat → Int32) → (Nat → Int32) → (Nat → Int32) → (Nat → Int32) → (Nat → Int32) → (Nat → Int32) → (Nat → Int32) → (Nat → Int32) → (Nat → Int32) → (Nat → Int32) → (Nat → Int32) → (Nat → Int32) → (Nat → Int32) → (Nat → Int32) → (Nat → Int32) → (Nat → Int32) → (Nat → Int32) → (Nat → Int32) → (Nat → Int32) → (Nat → Int32) → (Nat → Int32) → (Nat → Int32) → Prop} {J698 : Int32 → Int32 → Prop} {y2 y12 y13 : Int32} {mc ms : Nat} (Q : lj_Q nc nl st sl kp ns kc sg pr a0 a1 ar cs ow xK xA xB bd kK kA kB kI lh ph) (h5 : cg_base pr ar (st nc) (cg_oc a0 a1 0 (st nc) && cg_oc a0 a1 1 (st nc)) 4 ≤ 5)
    {t : Nat} (ht : t < 32) : ∀ d c : Nat, c + d = nc → ∀ (P : Prop) (F : Int32), F = ck_if P 1 0 →
      ((P ∧ ∀ c', c ≤ c' → c' < nc → ∀ x', 0 ≤ x' → x' < (cg_sz (cg_oc a0 a1 0 (st nc) && cg_oc a0 a1 1 (st nc))) → ∀ y', 0 ≤ y' → y' < (cg_sz (cg_oc a0 a1 0 (st nc) && cg_oc a0 a1 1 (st nc))) → lb_s nc st sg pr a0 a1 ar t c' x' y') → J698 1 (nI (t + 1))) →
      (¬ (P ∧ ∀ c', c ≤ c' → c' < nc → ∀ x', 0 ≤ x' → x' < (cg_sz (cg_oc a0 a1 0 (st nc) && cg_oc a0 a1 1 (st nc))) → ∀ y', 0 ≤ y' → y' < (cg_sz (cg_oc a0 a1 0 (st nc) && cg_oc a0 a1 1 (st nc))) → lb_s nc st sg pr a0 a1 ar t c' x' y') → J698 0 (nI (t + 1))) →
      wL_law_718 post L xs J10 J698 y2 (nI nc) (nI (lp_pm pr (st nc))) (nI (lp_ar pr a0 a1 (st nc))) (nI (cg_cb (cg_oc a0 a1 0 (st nc)) (cg_oc a0 a1 1 (st nc)))) (nI (cg_sz (cg_oc a0 a1 0 (st nc) && cg_oc a0 a1 1 (st nc)))) y12 y13 0 (nI t) mc ms (nI nl) (nI nc) (nI ns) sl ls (nI kc) kp w0 w1 w2 w3 sg pr a0 a1 cs ar xK xA xB bd kK kA kB kI X0 X1 X2 X3 ph X4 X5 X6 lh X7 X8 (d + 1) F (nI c) := by
  obtain ⟨⟨hw, hcs, how⟩, _⟩ := id Q
  have hnc := hw.1
  intro d
  induction d with
  | zero =>
    intro c hc P F eF h1 h0
    subst eF
    refine br_t (nI_le (by omega) (by omega)) ?_
    by_cases hp : P
    · rw [ck_if_t hp]
      exact br_f (by decide) (nm_r (nI_1 t) (h1 ⟨hp, fun c' a b => by omega⟩))
    · rw [ck_if_f hp]
      exact br_t rfl (nm_r (nI_1 t) (h0 (fun z => hp z.1)))
  | succ d ih =>
    intro c hc P F eF h1 h0
    subst eF
    have hcn : c < nc := by omega
    refine br_f (nI_ge hcn (by omega)) ?_
    by_cases hp : P
    · refine br_f (by rw [ck_if_t hp]; decide) (ll_len Q hcn ⟨_, lb_741 Q h5 ht hcn (cg_sz (cg_oc a0 a1 0 (st nc) && cg_oc a0 a1 1 (st nc))) 0 (by omega) P (ih (c + 1) (by omega) _ _ rfl (fun z => h1 ?_) (fun z => h0 (fun y => z ?_)))⟩)
      · obtain ⟨⟨a, b⟩, g⟩ := z
        refine ⟨a, fun c' l1 l2 => ?_⟩
        by_cases e : c' = c
        · rw [e]
          exact b
        · exact g c' (by omega) l2
      · obtain ⟨a, g⟩ := y
        exact ⟨⟨a, g c (Nat.le_refl _) hcn⟩, fun c' l1 l2 => g c' (by omega) l2⟩
    · refine br_t (ck_if_f hp) ?_
      rw [ck_if_f hp]
      exact br_t rfl (nm_r (nI_1 t) (h0 (fun z => hp z.1)))
end
theorem lb_shl : ∀ g, g < 6 → (1 : Int32) <<< (nI g &&& 31) = nI (2 ^ g) := by decide +kernel
def lb_good (nc : Nat) (st : Nat → Nat) (sg pr a0 a1 ar : Nat → Int32) (t : Nat) : Prop := True ∧ ∀ c', 0 ≤ c' → c' < nc → ∀ x', 0 ≤ x' → x' < (cg_sz (cg_oc a0 a1 0 (st nc) && cg_oc a0 a1 1 (st nc))) → ∀ y', 0 ≤ y' → y' < (cg_sz (cg_oc a0 a1 0 (st nc) && cg_oc a0 a1 1 (st nc))) → lb_s nc st sg pr a0 a1 ar t c' x' y'
section
variable {nc nl : Nat} {st : Nat → Nat} {sl kp ls : Int32} {ns kc : Nat} {sg pr a0 a1 ar cs ow xK xA xB bd kK kA kB kI lh ph : Nat → Int32} {w0 w1 w2 w3 : Int32} {X0 X1 X2 X3 X4 X5 X6 X7 X8 : Nat → Int32}
theorem lb_698 {post : Int32 → Prop} {L : Nat} {xs : Nat → Int32} {J10 : Int32 → Int32 → Int32 → Int32 → Int32 → Int32 → Int32 → Int32 → Int32 → Int32 → Int32 → Int32 → (Nat → Int32) → (Nat → Int32) → (Nat → Int32) → (Nat → Int32) → (Nat → Int32) → (Nat → Int32) → (Nat → Int32) → (Nat → Int32) → (Nat → Int32) → (Nat → Int32) → (Nat → Int32) → (Nat → Int32) → (Nat → Int32) → (Nat → Int32) → (Nat → Int32) → (Nat → Int32) → (Nat → Int32) → (Nat → Int32) → (Nat → Int32) → (Nat → Int32) → (Nat → Int32) → (Nat → Int32) → (Nat → Int32) → (Nat → Int32) → (Nat → Int32) → Prop} {y2 y13 : Int32} {mc ms g : Nat} (Q : lj_Q nc nl st sl kp ns kc sg pr a0 a1 ar cs ow xK xA xB bd kK kA kB kI lh ph) (eg : cg_base pr ar (st nc) (cg_oc a0 a1 0 (st nc) && cg_oc a0 a1 1 (st nc)) 4 = g) (h5 : g ≤ 5)
    (h1 : (∃ t, t < 2 ^ g ∧ lb_good nc st sg pr a0 a1 ar t) → wL_law_848 post L xs J10 y2 y13 1 mc ms (nI nl) (nI nc) (nI ns) sl ls (nI kc) kp w0 w1 w2 w3 sg pr a0 a1 cs ar xK xA xB bd kK kA kB kI X0 X1 X2 X3 ph X4 X5 X6 lh X7 X8) (h0 : ¬ (∃ t, t < 2 ^ g ∧ lb_good nc st sg pr a0 a1 ar t) → wL_law_848 post L xs J10 y2 y13 0 mc ms (nI nl) (nI nc) (nI ns) sl ls (nI kc) kp w0 w1 w2 w3 sg pr a0 a1 cs ar xK xA xB bd kK kA kB kI X0 X1 X2 X3 ph X4 X5 X6 lh X7 X8) :
    ∀ d t : Nat, t + d = 2 ^ g → (∀ t', t' < t → ¬ lb_good nc st sg pr a0 a1 ar t') → wL_law_698 post L xs J10 y2 (nI nc) (nI (lp_pm pr (st nc))) (nI (lp_ar pr a0 a1 (st nc))) (nI (cg_cb (cg_oc a0 a1 0 (st nc)) (cg_oc a0 a1 1 (st nc)))) (nI (cg_sz (cg_oc a0 a1 0 (st nc) && cg_oc a0 a1 1 (st nc)))) (nI g) y13 mc ms (nI nl) (nI nc) (nI ns) sl ls (nI kc) kp w0 w1 w2 w3 sg pr a0 a1 cs ar xK xA xB bd kK kA kB kI X0 X1 X2 X3 ph X4 X5 X6 lh X7 X8 (d + 1) 0 (nI t) := by
  have p32 : 2 ^ g ≤ 32 := Nat.pow_le_pow_right (n := 2) (by decide) h5
  intro d
  induction d with
  | zero =>
    intro t ht hno
    refine br_t ?_ (h0 (fun ⟨t', a, b⟩ => hno t' (by omega) b))
    rw [lb_shl g (by omega)]
    exact nI_le (by omega) (by omega)
  | succ d ih =>
    intro t ht hno
    refine br_f ?_ (br_t rfl ⟨_, lb_718 Q (by rw [eg]; exact h5) (show t < 32 by omega) nc 0 (by omega) True 1 (ck_if_t trivial).symm (fun z => ?_) (fun z => ih (t + 1) (by omega) (fun t' a b => ?_))⟩)
    · rw [lb_shl g (by omega)]
      exact nI_ge (by omega) (by omega)
    · have hs : ∃ t, t < 2 ^ g ∧ lb_good nc st sg pr a0 a1 ar t := ⟨t, by omega, z⟩
      exact br_c (fun _ => h1 hs) (fun _ => br_f (by decide) (h1 hs))
    · by_cases e : t' = t
      · rw [e] at b
        exact z b
      · exact hno t' (by omega) b
end
theorem lb_bits : ∀ b0 b1 b2 b3 b4 : Bool, ∃ t, t < 32 ∧ t.testBit 0 = b0 ∧ t.testBit 1 = b1 ∧ t.testBit 2 = b2 ∧ t.testBit 3 = b3 ∧ t.testBit 4 = b4 := by
  intro b0 b1 b2 b3 b4
  refine ⟨b0.toNat + 2 * b1.toNat + 4 * b2.toNat + 8 * b3.toNat + 16 * b4.toNat, ?_⟩
  cases b0 <;> cases b1 <;> cases b2 <;> cases b3 <;> cases b4 <;> decide
theorem lb_u {a0 a1 : Nat → Int32} {M x : Nat} (hx : x < 2) : ∃ x', cg_UU a0 a1 M x' ∧ ((cg_oc a0 a1 0 M && cg_oc a0 a1 1 M) = true → x' = x) := by
  unfold cg_UU cg_U
  have cx : x = 0 ∨ x = 1 := by omega
  generalize cg_oc a0 a1 0 M = o0
  generalize cg_oc a0 a1 1 M = o1
  cases o0 <;> cases o1
  · exact ⟨0, Or.inl ⟨rfl, Or.inr rfl⟩, fun z => absurd z (by decide)⟩
  · exact ⟨1, Or.inr ⟨rfl, rfl⟩, fun z => absurd z (by decide)⟩
  · exact ⟨0, Or.inl ⟨rfl, Or.inl rfl⟩, fun z => absurd z (by decide)⟩
  · rcases cx with e | e
    · exact ⟨0, Or.inl ⟨rfl, Or.inl rfl⟩, fun _ => e.symm⟩
    · exact ⟨1, Or.inr ⟨rfl, rfl⟩, fun _ => e.symm⟩
/-- some interpretation is good just if the ground clauses hold together -/
theorem lb_sat {nc nl : Nat} {st : Nat → Nat} {sg pr a0 a1 ar : Nat → Int32} (hw : cd_wf nc nl st sg pr a0 a1 ar) {g : Nat} (eg : cg_base pr ar (st nc) (cg_oc a0 a1 0 (st nc) && cg_oc a0 a1 1 (st nc)) 4 = g) (h5 : g ≤ 5) : cq_sat (cg_HX nc st sg pr a0 a1 ar) (cg_RX nc st a0 a1) (fun _ => False) ↔ ∃ t, t < 2 ^ g ∧ lb_good nc st sg pr a0 a1 ar t := by
  obtain ⟨z2, z1, zt, zf⟩ := lb_sz (cg_oc a0 a1 0 (st nc) && cg_oc a0 a1 1 (st nc))
  have hnc := hw.1
  have free : ¬ (cg_oc a0 a1 0 (st nc) && cg_oc a0 a1 1 (st nc)) = true → ∀ j x y x' y', cg_gl sg pr a0 a1 ar (st nc) (cg_oc a0 a1 0 (st nc) && cg_oc a0 a1 1 (st nc)) j x y = cg_gl sg pr a0 a1 ar (st nc) (cg_oc a0 a1 0 (st nc) && cg_oc a0 a1 1 (st nc)) j x' y' := by
    intro z j x y x' y'
    unfold cg_gl cg_tup
    rw [if_neg z, if_neg z]
  constructor
  · intro ⟨f, hf, _⟩
    obtain ⟨t0, t0l, e0, e1, e2, e3, e4⟩ := lb_bits (f 0) (f 1) (f 2) (f 3) (f 4)
    have hb : ∀ a, a < 5 → t0.testBit a = f a := by
      intro a ha
      have : a = 0 ∨ a = 1 ∨ a = 2 ∨ a = 3 ∨ a = 4 := by omega
      rcases this with z | z | z | z | z <;> rw [z] <;> assumption
    have hlt : t0 % 2 ^ g < 2 ^ g := Nat.mod_lt _ (Nat.pow_pos (by decide))
    refine ⟨t0 % 2 ^ g, hlt, trivial, fun c _ hc x _ hx y _ hy => ?_⟩
    obtain ⟨x', ux, ex⟩ : ∃ x', cg_UU a0 a1 (st nc) x' ∧ ((cg_oc a0 a1 0 (st nc) && cg_oc a0 a1 1 (st nc)) = true → x' = x) := lb_u (by omega)
    obtain ⟨y', uy, ey⟩ : ∃ y', cg_UU a0 a1 (st nc) y' ∧ ((cg_oc a0 a1 0 (st nc) && cg_oc a0 a1 1 (st nc)) = true → y' = y) := lb_u (by omega)
    have lx := cg_U_lt ux
    have ly := cg_U_lt uy
    have q1 : (4 * c + 2 * x' + y') / 4 = c := by omega
    have q2 : (4 * c + 2 * x' + y') / 2 % 2 = x' := by omega
    have q3 : (4 * c + 2 * x' + y') % 2 = y' := by omega
    obtain ⟨m, ⟨j, j1, j2, em⟩, tr⟩ := hf (4 * c + 2 * x' + y') ⟨by omega, by rw [q2]; exact ux, by rw [q3]; exact uy⟩
    rw [q1] at j1 j2
    rw [q2, q3] at em
    have hst := cd_mono' hw (c := c + 1) (d := nc) (by omega) (Nat.le_refl _)
    have eqg : m = cg_gl sg pr a0 a1 ar (st nc) (cg_oc a0 a1 0 (st nc) && cg_oc a0 a1 1 (st nc)) j x y := by
      rw [em]
      unfold cg_L
      by_cases z : (cg_oc a0 a1 0 (st nc) && cg_oc a0 a1 1 (st nc)) = true
      · rw [ex z, ey z]
      · exact free z j x' y' x y
    have hm := cg_gl_lt (two := (cg_oc a0 a1 0 (st nc) && cg_oc a0 a1 1 (st nc))) hw (show j < st nc by omega) lx ly
    have em2 : m = cg_gl sg pr a0 a1 ar (st nc) (cg_oc a0 a1 0 (st nc) && cg_oc a0 a1 1 (st nc)) j x' y' := em
    rw [← em2, eg] at hm
    refine ⟨j, j1, j2, ?_⟩
    rw [← eqg]
    unfold cq_tr cg_tb at *
    rw [Nat.testBit_mod_two_pow, decide_eq_true (show m / 2 < g by omega), Bool.true_and, hb (m / 2) (by omega)]
    exact tr
  · intro ⟨t, ht, _, hg⟩
    refine ⟨cg_tb t, fun q hq => ?_, fun m hm => hm.elim⟩
    obtain ⟨hq1, ux, uy⟩ := hq
    have lx := cg_U_lt ux
    have ly := cg_U_lt uy
    by_cases z : (cg_oc a0 a1 0 (st nc) && cg_oc a0 a1 1 (st nc)) = true
    · have s2 := zt z
      obtain ⟨j, j1, j2, tr⟩ := hg (q / 4) (Nat.zero_le _) (by omega) (q / 2 % 2) (Nat.zero_le _) (by omega) (q % 2) (Nat.zero_le _) (by omega)
      exact ⟨_, ⟨j, j1, j2, rfl⟩, tr⟩
    · obtain ⟨j, j1, j2, tr⟩ := hg (q / 4) (Nat.zero_le _) (by omega) 0 (Nat.zero_le _) (by omega) 0 (Nat.zero_le _) (by omega)
      rw [free z j 0 0 (q / 2 % 2) (q % 2)] at tr
      exact ⟨_, ⟨j, j1, j2, rfl⟩, tr⟩
