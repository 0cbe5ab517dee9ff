/-! the seven passes -/
def ye_snd (nc g : Nat) (st : Nat → Nat) (sg pr a0 a1 ar a : Nat → Int32) : Prop :=
  ∀ m s, m < 10 → s < 243 → ye_C a m s → m < 2 * g ∧ s < 3 ^ g ∧ ye_ev nc st sg pr a0 a1 ar (ye_C a) m s
theorem ye_n1 : vp_nar .boolean 1 = 1 := by decide
theorem ye_n0 : vp_nar .boolean 0 = 0 := by decide
section
variable {f_clauseCount f_litCount f_kept f_kN f_bN f_sealed f_lastStep f_cNodes f_cSp f_pNodes f_pSp : Int32} {a_lSign a_lPred a_lA0 a_lA1 a_lOwner a_arity a_kKind a_kA a_kB a_kBind a_bKind a_bA a_bB a_bBind a_cCopy a_cLit a_cPar a_cStk a_cl a_gtab a_pLit a_pPar a_pStk : Nat → Int32}
theorem ye_pass {post : Int32 → SY → Prop} {J : Int32 → (Nat → Int32) → (Nat → Int32) → (Nat → Int32) → (Nat → Int32) → (Nat → Int32) → (Nat → Int32) → (Nat → Int32) → (Nat → Int32) → (Nat → Int32) → (Nat → Int32) → (Nat → Int32) → (Nat → Int32) → (Nat → Int32) → (Nat → Int32) → (Nat → Int32) → (Nat → Int32) → (Nat → Int32) → (Nat → Int32) → (Nat → Int32) → (Nat → Int32) → (Nat → Int32) → (Nat → Int32) → (Nat → Int32) → Prop}
    {nc nl g : Nat} {st : Nat → Nat} (hw : cd_wf nc nl st a_lSign a_lPred a_lA0 a_lA1 a_arity) (how : cd_own nc nl st a_lOwner)
    (eg : cg_base a_lPred a_arity (st nc) (cg_oc a_lA0 a_lA1 0 (st nc) && cg_oc a_lA0 a_lA1 1 (st nc)) 4 = g) (h5 : g ≤ 5) (hgt : yn_gt nc st a_lSign a_lPred a_lA0 a_lA1 a_arity a_gtab) {a0 : Nat → Int32} {x4 : Int32}
    (hJ : ∀ a : Nat → Int32, (∀ y, ¬ a0 y = 0 → ¬ a y = 0) → ye_snd nc g st a_lSign a_lPred a_lA0 a_lA1 a_arity a → (∀ m s, m < 2 * g → s < 3 ^ g → ye_ev nc st a_lSign a_lPred a_lA0 a_lA1 a_arity (ye_C a0) m s → ye_C a m s) → J (x4 + 1) a_lSign a_lPred a_lA0 a_lA1 a_lOwner a_arity a_kKind a_kA a_kB a_kBind a_bKind a_bA a_bB a_bBind a_cCopy a_cLit a_cPar a_cStk a a_gtab a_pLit a_pPar a_pStk) :
    ∀ d x : Nat, x + d = 2430 → ∀ a : Nat → Int32, (∀ y, ¬ a0 y = 0 → ¬ a y = 0) → ye_snd nc g st a_lSign a_lPred a_lA0 a_lA1 a_arity a →
      (∀ m s, m < 2 * g → s < 3 ^ g → m * 243 + s < x → ye_ev nc st a_lSign a_lPred a_lA0 a_lA1 a_arity (ye_C a0) m s → ye_C a m s) →
      wY_prove_135 post J (nI (2 * g)) (nI (3 ^ g)) x4 (nI nc) (nI nl) f_kept f_kN f_bN f_sealed f_lastStep f_cNodes f_cSp f_pNodes f_pSp (d + 1) (nI x) a_lSign a_lPred a_lA0 a_lA1 a_lOwner a_arity a_kKind a_kA a_kB a_kBind a_bKind a_bA a_bB a_bBind a_cCopy a_cLit a_cPar a_cStk a a_gtab a_pLit a_pPar a_pStk := by
  have p3 : 3 ^ g ≤ 243 := by
    have := Nat.pow_le_pow_right (n := 3) (by omega) h5
    have e : 3 ^ 5 = 243 := by decide
    omega
  intro d
  induction d with
  | zero =>
    intro x hx a hmono hsnd hprog
    have : x = 2430 := by omega
    subst this
    exact br_t (nI_le (a := 2430) (b := 2430) (Nat.le_refl _) (by decide)) (nm_e (hJ a hmono hsnd (fun m s hm hs he => hprog m s hm hs (by omega) he)))
  | succ d ih =>
    intro x hx a hmono hsnd hprog
    have hin : vp_in (nI x) 2430 := vp_in_nI (by omega) (by decide)
    have ed : nI x / 243 = nI (x / 243) := by
      rw [show (243 : Int32) = nI 243 from rfl, pk_div (by omega) (by omega) (by omega)]
    have er : nI x - nI x / 243 * 243 = nI (x % 243) := by
      rw [show (243 : Int32) = nI 243 from rfl, pk_rem (by omega) (by omega) (by omega)]
    have exd : x / 243 * 243 + x % 243 = x := by omega
    have same : (x / 243 < 2 * g → x % 243 < 3 ^ g → ye_ev nc st a_lSign a_lPred a_lA0 a_lA1 a_arity (ye_C a0) (x / 243) (x % 243) → ye_C a (x / 243) (x % 243)) →
        wY_prove_135 post J (nI (2 * g)) (nI (3 ^ g)) x4 (nI nc) (nI nl) f_kept f_kN f_bN f_sealed f_lastStep f_cNodes f_cSp f_pNodes f_pSp (d + 1) (nI (x + 1)) a_lSign a_lPred a_lA0 a_lA1 a_lOwner a_arity a_kKind a_kA a_kB a_kBind a_bKind a_bA a_bB a_bBind a_cCopy a_cLit a_cPar a_cStk a a_gtab a_pLit a_pPar a_pStk := by
      intro hh
      refine ih (x + 1) (by omega) a hmono hsnd (fun m s hm hs hlt he => ?_)
      by_cases e : m * 243 + s = x
      · have e1 : x / 243 = m := by omega
        have e2 : x % 243 = s := by omega
        rw [e1, e2] at hh
        exact hh hm hs he
      · exact hprog m s hm hs (by omega) he
    refine br_f (nI_ge (b := 2430) (by omega) (by decide)) ⟨hin, ?_⟩
    rw [nI_clamp (show x < 2 ^ 31 by omega)]
    refine br_c (fun z => ⟨by decide, ?_⟩) (fun z => nm_r (nI_1 x) (same (fun _ _ _ => by unfold ye_C; rw [exd]; exact z)))
    rw [er, ed]
    refine pk_le (2 * g) (x / 243) (fun y => nm_r (nI_1 x) (same (fun y1 => by omega))) (fun y => ⟨by decide, ?_⟩)
    refine pk_le (3 ^ g) (x % 243) (fun y2 => nm_r (nI_1 x) (same (fun _ y1 => by omega))) (fun y2 => ⟨by decide, by decide, ?_⟩) rfl rfl (by omega) (by omega)
    refine ye_eval hw how eg h5 hgt y (by omega) (fun hev => br_f (by decide) ⟨hin, ?_⟩) (fun hev => br_t rfl (nm_r (nI_1 x) (same (fun _ _ y3 => absurd (ye_ev_mono (fun m s hC => hmono _ hC) y3) hev))))
    rw [ye_n1]
    refine nm_e (nm_r (nI_1 x) (ih (x + 1) (by omega) _ (fun y0 hy0 => ?_) (fun m s hm hs hC => ?_) (fun m s hm hs hlt he => ?_)))
    · by_cases e : y0 = x
      · rw [e, pk_us]
        decide
      · rw [pk_un e]
        exact hmono y0 hy0
    · have up : ∀ m s, ye_C a m s → ye_C (upd a x 1) m s := by
        intro m s hC
        unfold ye_C at hC ⊢
        by_cases e : m * 243 + s = x
        · rw [e, pk_us]
          decide
        · rw [pk_un e]
          exact hC
      by_cases e : m * 243 + s = x
      · have e1 : x / 243 = m := by omega
        have e2 : x % 243 = s := by omega
        rw [e1, e2] at hev
        exact ⟨by omega, by omega, ye_ev_mono up hev⟩
      · unfold ye_C at hC
        rw [pk_un e] at hC
        obtain ⟨z1, z2, z3⟩ := hsnd m s hm hs hC
        exact ⟨z1, z2, ye_ev_mono up z3⟩
    · unfold ye_C
      by_cases e : m * 243 + s = x
      · rw [e, pk_us]
        decide
      · rw [pk_un e]
        exact hprog m s hm hs (by omega) he
end
