/-! Y's ground literals -/
def cg_uc (o0 o1 : Bool) (i : Nat) : Nat := if (o0 && o1) = true then i else if o1 = true then 1 else 0
theorem cg_uc_U (o0 o1 : Bool) {i : Nat} (hi : i < 2) : cg_U o0 o1 (cg_uc o0 o1 i) := by
  have : i = 0 ∨ i = 1 := by omega
  rcases this with e | e <;> subst e <;> cases o0 <;> cases o1 <;> simp [cg_U, cg_uc]
/-- the literal j in Y's ground clause q -/
def cg_YL (nc : Nat) (st : Nat → Nat) (sg pr a0 a1 ar : Nat → Int32) (j q : Nat) : Nat :=
  cg_L sg pr a0 a1 ar (st nc) j (cg_uc (cg_oc a0 a1 0 (st nc)) (cg_oc a0 a1 1 (st nc)) (q % 4 % 2)) (cg_uc (cg_oc a0 a1 0 (st nc)) (cg_oc a0 a1 1 (st nc)) (q % 4 / 2))
def cg_HY (nc : Nat) (st : Nat → Nat) (sg pr a0 a1 ar : Nat → Int32) (q m : Nat) : Prop := ∃ j, st (q / 4) ≤ j ∧ j < st (q / 4 + 1) ∧ m = cg_YL nc st sg pr a0 a1 ar j q
theorem cg_XY {nc : Nat} {st : Nat → Nat} {sg pr a0 a1 ar : Nat → Int32} : cm_sat (cg_HX nc st sg pr a0 a1 ar) (cg_RX nc st a0 a1) (fun _ => False) ↔ cm_sat (cg_HY nc st sg pr a0 a1 ar) (fun q => q < 4 * nc) (fun _ => False) := by
  constructor
  · intro ⟨f, h1, _⟩
    refine ⟨f, fun q hq => ?_, fun _ z => z.elim⟩
    have ux := cg_uc_U (cg_oc a0 a1 0 (st nc)) (cg_oc a0 a1 1 (st nc)) (i := q % 4 % 2) (by omega)
    have uy := cg_uc_U (cg_oc a0 a1 0 (st nc)) (cg_oc a0 a1 1 (st nc)) (i := q % 4 / 2) (by omega)
    unfold cg_HY cg_YL
    generalize cg_uc (cg_oc a0 a1 0 (st nc)) (cg_oc a0 a1 1 (st nc)) (q % 4 % 2) = x at ux ⊢
    generalize cg_uc (cg_oc a0 a1 0 (st nc)) (cg_oc a0 a1 1 (st nc)) (q % 4 / 2) = y at uy ⊢
    have bx := cg_U_lt ux
    have bY := cg_U_lt uy
    have e1 : (4 * (q / 4) + 2 * x + y) / 4 = q / 4 := by omega
    have e2 : (4 * (q / 4) + 2 * x + y) / 2 % 2 = x := by omega
    have e3 : (4 * (q / 4) + 2 * x + y) % 2 = y := by omega
    obtain ⟨m, ⟨j, j1, j2, j3⟩, t⟩ := h1 (4 * (q / 4) + 2 * x + y) ⟨by omega, by unfold cg_UU; rw [e2]; exact ux, by unfold cg_UU; rw [e3]; exact uy⟩
    rw [e1] at j1 j2
    rw [e2, e3] at j3
    exact ⟨m, ⟨j, j1, j2, j3⟩, t⟩
  · intro ⟨f, h1, _⟩
    refine ⟨f, fun q hq => ?_, fun _ z => z.elim⟩
    obtain ⟨hq4, ux, uy⟩ := hq
    unfold cg_UU at ux uy
    have hk : ∃ k, k < 4 ∧ cg_uc (cg_oc a0 a1 0 (st nc)) (cg_oc a0 a1 1 (st nc)) (k % 2) = q / 2 % 2 ∧ cg_uc (cg_oc a0 a1 0 (st nc)) (cg_oc a0 a1 1 (st nc)) (k / 2) = q % 2 := by
      by_cases t : (cg_oc a0 a1 0 (st nc) && cg_oc a0 a1 1 (st nc)) = true
      · refine ⟨q / 2 % 2 + 2 * (q % 2), by omega, ?_, ?_⟩
        · unfold cg_uc
          rw [if_pos t]
          omega
        · unfold cg_uc
          rw [if_pos t]
          omega
      · refine ⟨0, by omega, ?_, ?_⟩
        · exact cg_U_one (cg_uc_U _ _ (by omega)) ux t
        · exact cg_U_one (cg_uc_U _ _ (by omega)) uy t
    obtain ⟨k, hk4, k1, k2⟩ := hk
    have e1 : (4 * (q / 4) + k) / 4 = q / 4 := by omega
    have e2 : (4 * (q / 4) + k) % 4 = k := by omega
    obtain ⟨m, ⟨j, j1, j2, j3⟩, t⟩ := h1 (4 * (q / 4) + k) (by show 4 * (q / 4) + k < 4 * nc; omega)
    unfold cg_YL at j3
    rw [e1] at j1 j2
    rw [e2, k1, k2] at j3
    exact ⟨m, ⟨j, j1, j2, j3⟩, t⟩
theorem cg_YL_lt {nc nl : Nat} {st : Nat → Nat} {sg pr a0 a1 ar : Nat → Int32} (hw : cd_wf nc nl st sg pr a0 a1 ar) {j q : Nat} (hj : j < st nc) :
    cg_YL nc st sg pr a0 a1 ar j q < 2 * cg_base pr ar (st nc) (cg_oc a0 a1 0 (st nc) && cg_oc a0 a1 1 (st nc)) 4 :=
  cg_gl_lt hw hj (cg_U_lt (cg_uc_U _ _ (by omega))) (cg_U_lt (cg_uc_U _ _ (by omega)))
section
variable {f_clauseCount f_litCount f_kept f_kN f_bN f_sealed f_lastStep f_cNodes f_cSp f_pNodes f_pSp : Int32} {a_lSign a_lPred a_lA0 a_lA1 a_lOwner a_arity a_kKind a_kA a_kB a_kBind a_bKind a_bA a_bB a_bBind a_cCopy a_cLit a_cPar a_cStk a_cl a_gtab a_pLit a_pPar a_pStk : Nat → Int32}
theorem yu_const {post : Int32 → Prop} {nc nl : Nat} {st : Nat → Nat} {sg pr ar : Nat → Int32} (hw : cd_wf nc nl st sg pr a_lA0 a_lA1 ar) (how : cd_own nc nl st a_lOwner) {i : Nat}
    (h : post (nI (cg_uc (cg_oc a_lA0 a_lA1 0 (st nc)) (cg_oc a_lA0 a_lA1 1 (st nc)) i))) : wpY_uConst post (nI nc, nI nl, f_kept, f_kN, f_bN, f_sealed, f_lastStep, f_cNodes, f_cSp, f_pNodes, f_pSp, a_lSign, a_lPred, a_lA0, a_lA1, a_lOwner, a_arity, a_kKind, a_kA, a_kB, a_kBind, a_bKind, a_bA, a_bB, a_bBind, a_cCopy, a_cLit, a_cPar, a_cStk, a_cl, a_gtab, a_pLit, a_pPar, a_pStk) (nI i) := by
  unfold wpY_uConst
  dsimp only
  refine yu_size hw how ?_
  unfold cg_uc at h
  by_cases t : (cg_oc a_lA0 a_lA1 0 (st nc) && cg_oc a_lA0 a_lA1 1 (st nc)) = true
  · rw [if_pos t] at h
    rw [t]
    exact br_t rfl h
  · rw [if_neg t] at h
    have e : nI (cg_sz (cg_oc a_lA0 a_lA1 0 (st nc) && cg_oc a_lA0 a_lA1 1 (st nc))) = 1 := by unfold cg_sz; rw [if_neg t]; rfl
    rw [e]
    refine br_f (by decide) (yu_occ hw how ?_)
    by_cases o : cg_oc a_lA0 a_lA1 1 (st nc) = true
    · rw [if_pos o] at h ⊢
      exact br_f (by decide) h
    · rw [if_neg o] at h ⊢
      exact br_t rfl h
theorem yu_index {post : Int32 → Prop} {nc nl : Nat} {st : Nat → Nat} {sg pr ar : Nat → Int32} (hw : cd_wf nc nl st sg pr a_lA0 a_lA1 ar) (how : cd_own nc nl st a_lOwner) {x : Int32}
    (h : post (if (cg_oc a_lA0 a_lA1 0 (st nc) && cg_oc a_lA0 a_lA1 1 (st nc)) = true then x else 0)) : wpY_uIndex post (nI nc, nI nl, f_kept, f_kN, f_bN, f_sealed, f_lastStep, f_cNodes, f_cSp, f_pNodes, f_pSp, a_lSign, a_lPred, a_lA0, a_lA1, a_lOwner, a_arity, a_kKind, a_kA, a_kB, a_kBind, a_bKind, a_bA, a_bB, a_bBind, a_cCopy, a_cLit, a_cPar, a_cStk, a_cl, a_gtab, a_pLit, a_pPar, a_pStk) x := by
  unfold wpY_uIndex
  dsimp only
  refine yu_size hw how ?_
  by_cases t : (cg_oc a_lA0 a_lA1 0 (st nc) && cg_oc a_lA0 a_lA1 1 (st nc)) = true
  · rw [if_pos t] at h
    rw [t]
    exact br_t rfl h
  · rw [if_neg t] at h
    have e : nI (cg_sz (cg_oc a_lA0 a_lA1 0 (st nc) && cg_oc a_lA0 a_lA1 1 (st nc))) = 1 := by unfold cg_sz; rw [if_neg t]; rfl
    rw [e]
    exact br_f (by decide) h
theorem yu_term {post : Int32 → Prop} {nc nl : Nat} {st : Nat → Nat} {sg pr ar : Nat → Int32} (hw : cd_wf nc nl st sg pr a_lA0 a_lA1 ar) (how : cd_own nc nl st a_lOwner) {t : Int32} {k : Nat} (hk : k < 4) (ht : cd_at t)
    (h : post (if t = -1 then -1 else nI (cg_vl t (cg_uc (cg_oc a_lA0 a_lA1 0 (st nc)) (cg_oc a_lA0 a_lA1 1 (st nc)) (k % 2)) (cg_uc (cg_oc a_lA0 a_lA1 0 (st nc)) (cg_oc a_lA0 a_lA1 1 (st nc)) (k / 2))))) :
    wpY_termValue post (nI nc, nI nl, f_kept, f_kN, f_bN, f_sealed, f_lastStep, f_cNodes, f_cSp, f_pNodes, f_pSp, a_lSign, a_lPred, a_lA0, a_lA1, a_lOwner, a_arity, a_kKind, a_kA, a_kB, a_kBind, a_bKind, a_bA, a_bB, a_bBind, a_cCopy, a_cLit, a_cPar, a_cStk, a_cl, a_gtab, a_pLit, a_pPar, a_pStk) t (nI k) := by
  unfold cg_vl at h
  have er : nI k - nI k / 2 * 2 = nI (k % 2) := by
    rw [show (2 : Int32) = nI 2 from rfl, pk_rem (by omega) (by omega) (by omega)]
  have ed : nI k / 2 = nI (k / 2) := by
    rw [show (2 : Int32) = nI 2 from rfl, pk_div (by omega) (by omega) (by omega)]
  refine br_c (fun e2 => ⟨by decide, ?_⟩) (fun e2 => br_c (fun e3 => ⟨by decide, ?_⟩) (fun e3 => ?_))
  · rw [if_neg (by rw [e2]; decide), if_pos e2] at h
    rw [er]
    exact yu_const hw how h
  · rw [if_neg (by rw [e3]; decide), if_neg e2, if_pos e3] at h
    rw [ed]
    exact yu_const hw how h
  · by_cases em : t = -1
    · rw [if_pos em] at h
      rw [em]
      exact h
    · rw [if_neg em, if_neg e2, if_neg e3] at h
      obtain ⟨n, hn, e⟩ := ht.resolve_left em
      rw [e, nI_clamp (by omega)] at h
      rw [e]
      exact h
theorem yu_atom {post : Int32 → Prop} {nc nl : Nat} {st : Nat → Nat} {sg : Nat → Int32} (hw : cd_wf nc nl st sg a_lPred a_lA0 a_lA1 a_arity) (how : cd_own nc nl st a_lOwner) {p a v0 v1 : Nat} {x0 x1 : Int32} (hp : p < 4) (ea : a_arity p = nI a) (ha : a ≤ 2)
    (e0 : 1 ≤ a → x0 = nI v0) (e1 : 2 ≤ a → x1 = nI v1)
    (h : post (nI (cg_base a_lPred a_arity (st nc) (cg_oc a_lA0 a_lA1 0 (st nc) && cg_oc a_lA0 a_lA1 1 (st nc)) p + (if (cg_oc a_lA0 a_lA1 0 (st nc) && cg_oc a_lA0 a_lA1 1 (st nc)) = true then (if a = 0 then 0 else if a = 1 then v0 else 2 * v0 + v1) else 0)))) :
    wpY_atomId post (nI nc, nI nl, f_kept, f_kN, f_bN, f_sealed, f_lastStep, f_cNodes, f_cSp, f_pNodes, f_pSp, a_lSign, a_lPred, a_lA0, a_lA1, a_lOwner, a_arity, a_kKind, a_kA, a_kB, a_kBind, a_bKind, a_bA, a_bB, a_bBind, a_cCopy, a_cLit, a_cPar, a_cStk, a_cl, a_gtab, a_pLit, a_pPar, a_pStk) (nI p) x0 x1 := by
  unfold wpY_atomId
  dsimp only
  refine yu_size hw how ?_
  have inp : vp_in (nI p) 4 := vp_in_nI hp (by decide)
  have clp : (nI p).toNatClampNeg = p := nI_clamp (by omega)
  have key : ∀ d q : Nat, q + d = p → wY_atomId_12 post (nI p) x0 x1 (nI (cg_sz (cg_oc a_lA0 a_lA1 0 (st nc) && cg_oc a_lA0 a_lA1 1 (st nc)))) (nI nc) (nI nl) f_kept f_kN f_bN f_sealed f_lastStep f_cNodes f_cSp f_pNodes f_pSp a_lSign a_lPred a_lA0 a_lA1 a_lOwner a_arity a_kKind a_kA a_kB a_kBind a_bKind a_bA a_bB a_bBind a_cCopy a_cLit a_cPar a_cStk a_cl a_gtab a_pLit a_pPar a_pStk (d + 1) (nI (cg_base a_lPred a_arity (st nc) (cg_oc a_lA0 a_lA1 0 (st nc) && cg_oc a_lA0 a_lA1 1 (st nc)) q)) (nI q) := by
    intro d
    induction d with
    | zero =>
      intro q hq
      have eq : q = p := by omega
      subst eq
      refine br_t (nI_le (Nat.le_refl _) (by omega)) ⟨inp, ?_⟩
      rw [clp, ea]
      have c : a = 0 ∨ a = 1 ∨ a = 2 := by omega
      rcases c with c | c | c
      · subst c
        refine br_f (by decide) ⟨inp, ?_⟩
        rw [clp, ea]
        refine br_f (by decide) ?_
        rw [if_pos rfl] at h
        by_cases t : (cg_oc a_lA0 a_lA1 0 (st nc) && cg_oc a_lA0 a_lA1 1 (st nc)) = true
        · rw [if_pos t, Nat.add_zero] at h
          exact h
        · rw [if_neg t, Nat.add_zero] at h
          exact h
      · subst c
        rw [if_neg (show ¬ (1 : Nat) = 0 by decide), if_pos (show (1 : Nat) = 1 from rfl)] at h
        refine br_t rfl (yu_index hw how ?_)
        rw [e0 (by omega)]
        have es : nI (cg_base a_lPred a_arity (st nc) (cg_oc a_lA0 a_lA1 0 (st nc) && cg_oc a_lA0 a_lA1 1 (st nc)) q) + (if (cg_oc a_lA0 a_lA1 0 (st nc) && cg_oc a_lA0 a_lA1 1 (st nc)) = true then nI v0 else 0) = nI (cg_base a_lPred a_arity (st nc) (cg_oc a_lA0 a_lA1 0 (st nc) && cg_oc a_lA0 a_lA1 1 (st nc)) q + (if (cg_oc a_lA0 a_lA1 0 (st nc) && cg_oc a_lA0 a_lA1 1 (st nc)) = true then v0 else 0)) := by
          by_cases t : (cg_oc a_lA0 a_lA1 0 (st nc) && cg_oc a_lA0 a_lA1 1 (st nc)) = true
          · rw [if_pos t, if_pos t, nI_add]
          · rw [if_neg t, if_neg t, ← nI_0, nI_add]
        refine nm_r es ⟨inp, ?_⟩
        rw [clp, ea]
        exact br_f (by decide) h
      · subst c
        rw [if_neg (show ¬ (2 : Nat) = 0 by decide), if_neg (show ¬ (2 : Nat) = 1 by decide)] at h
        refine br_f (by decide) ⟨inp, ?_⟩
        rw [clp, ea]
        refine br_t rfl (yu_index hw how (yu_index hw how ?_))
        rw [e0 (by omega), e1 (by omega)]
        refine nm_r ?_ h
        by_cases t : (cg_oc a_lA0 a_lA1 0 (st nc) && cg_oc a_lA0 a_lA1 1 (st nc)) = true
        · rw [if_pos t, if_pos t, if_pos t, t, show cg_sz true = 2 from rfl, pk_mul, nI_add, nI_add]
          exact congrArg nI (by omega)
        · rw [if_neg t, if_neg t, if_neg t, ← nI_0, pk_mul, nI_add, nI_add]
          exact congrArg nI (by omega)
    | succ d ih =>
      intro q hq
      have ih2 := ih (q + 1) (by omega)
      rw [cg_base] at ih2
      refine br_f (nI_ge (by omega) (by omega)) (yu_pred hw how ?_)
      by_cases o : cg_op a_lPred q (st nc) = true
      · rw [if_pos o]
        obtain ⟨a2, ea2⟩ := yu_arN hw o (by omega)
        refine br_f (by decide) ⟨vp_in_nI (by omega) (by decide), ?_⟩
        rw [nI_clamp (show q < 2 ^ 31 by omega), ea2]
        refine yu_power (by omega) (nm_r (nI_add _ _) (nm_r (nI_1 q) ?_))
        unfold cg_at at ih2
        rw [if_pos o] at ih2
        exact ih2
      · rw [if_neg o]
        unfold cg_at at ih2
        rw [if_neg o, Nat.add_zero] at ih2
        exact br_t rfl (nm_r (nI_1 q) ih2)
  exact ⟨_, key p 0 (by omega)⟩
theorem yu_lit {post : Int32 → Prop} {nc nl : Nat} {st : Nat → Nat} (hw : cd_wf nc nl st a_lSign a_lPred a_lA0 a_lA1 a_arity) (how : cd_own nc nl st a_lOwner) {j k q : Nat} (hj : j < st nc) (hk : k < 4) (eq : q % 4 = k)
    (h : post (nI (cg_YL nc st a_lSign a_lPred a_lA0 a_lA1 a_arity j q))) : wpY_groundLit post (nI nc, nI nl, f_kept, f_kN, f_bN, f_sealed, f_lastStep, f_cNodes, f_cSp, f_pNodes, f_pSp, a_lSign, a_lPred, a_lA0, a_lA1, a_lOwner, a_arity, a_kKind, a_kA, a_kB, a_kBind, a_bKind, a_bA, a_bB, a_bBind, a_cCopy, a_cLit, a_cPar, a_cStk, a_cl, a_gtab, a_pLit, a_pPar, a_pStk) (nI j) (nI k) := by
  have hM := hw.2.2.2.2.1
  have hnl := hw.2.1
  obtain ⟨_, _, l3, l4, l5⟩ := hw.2.2.2.2.2.2.1 j (by omega)
  obtain ⟨s2, es, p4, ep, har, _, f0, f1, a2⟩ := cg_lit hw hj
  have eA : a_arity (a_lPred j).toNatClampNeg = nI (ck_ar (a_lA0 j) (a_lA1 j)) := by
    obtain ⟨p', hp', ep', ea'⟩ := (hw.2.2.2.2.2.2.1 j (by omega)).2.1
    rw [ep', nI_clamp (by omega)]
    exact ea'
  have hin : vp_in (nI j) 16 := vp_in_nI (by omega) (by decide)
  have clj : (nI j).toNatClampNeg = j := nI_clamp (by omega)
  unfold cg_YL cg_L cg_gl cg_tup at h
  rw [eq] at h
  refine ⟨hin, ?_⟩
  rw [clj]
  refine yu_term hw how hk l3 ⟨hin, yu_term hw how hk l4 ⟨hin, ?_⟩⟩
  rw [ep]
  refine yu_atom hw how p4 eA a2 (v0 := cg_vl (a_lA0 j) (cg_uc (cg_oc a_lA0 a_lA1 0 (st nc)) (cg_oc a_lA0 a_lA1 1 (st nc)) (k % 2)) (cg_uc (cg_oc a_lA0 a_lA1 0 (st nc)) (cg_oc a_lA0 a_lA1 1 (st nc)) (k / 2)))
    (v1 := cg_vl (a_lA1 j) (cg_uc (cg_oc a_lA0 a_lA1 0 (st nc)) (cg_oc a_lA0 a_lA1 1 (st nc)) (k % 2)) (cg_uc (cg_oc a_lA0 a_lA1 0 (st nc)) (cg_oc a_lA0 a_lA1 1 (st nc)) (k / 2))) (fun h1 => ?_) (fun h1 => ?_) ⟨hin, ?_⟩
  · obtain ⟨n, hn, e⟩ := f0 h1
    rw [if_neg]
    rw [e]
    intro z
    have := congrArg Int32.toInt z
    rw [nI_toInt (by omega), show (-1 : Int32).toInt = -1 from by decide] at this
    omega
  · obtain ⟨n, hn, e⟩ := f1 h1
    rw [if_neg]
    rw [e]
    intro z
    have := congrArg Int32.toInt z
    rw [nI_toInt (by omega), show (-1 : Int32).toInt = -1 from by decide] at this
    omega
  · rw [es, show (2 : Int32) = nI 2 from rfl, pk_mul, nI_add, Nat.mul_comm]
    rw [ep, nI_clamp (show (a_lPred j).toNatClampNeg < 2 ^ 31 by omega)]
    exact h
end
