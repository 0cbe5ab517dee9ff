/-! counting the ground atoms, both sides -/
def cg_cb (o0 o1 : Bool) : Nat := (if o0 = true then 1 else 0) + (if o1 = true then 2 else 0)
def cg_con (o0 o1 : Bool) : Nat := if cg_cb o0 o1 = 0 then 1 else cg_cb o0 o1
theorem cg_or1 : ∀ o0 o1 : Bool, nI (cg_cb o0 o1) ||| 1 = nI (cg_cb true o1) := by decide
theorem cg_or2 : ∀ o0 o1 : Bool, nI (cg_cb o0 o1) ||| 2 = nI (cg_cb o0 true) := by decide
theorem cg_con_or (o0 o1 : Bool) : cg_con o0 o1 = 1 ∨ cg_con o0 o1 = 2 ∨ cg_con o0 o1 = 3 := by
  cases o0 <;> cases o1 <;> decide
theorem cg_con_3 (o0 o1 : Bool) : cg_con o0 o1 = 3 ↔ (o0 && o1) = true := by
  cases o0 <;> cases o1 <;> decide
section
variable {f_litCount f_clauseCount f_stepCount f_bufferSealed f_lastCheckStep f_keptCount f_proofKept f_openCount f_universeSize f_neededInstances f_givenLiterals : Int32} {a_litSign a_litPred a_litArg0 a_litArg1 a_clauseStart a_predArity a_stepKind a_stepA a_stepB a_binding a_keptKind a_keptA a_keptB a_keptInstance a_openCopy a_openLit a_parentCopy a_parentLit a_pathLength a_atomBase a_instanceLits a_instanceHolds a_literalHolds a_restInstances a_pathLiterals : Nat → Int32}
theorem xu_39 {post : Int32 → Prop} {J : Int32 → Int32 → Prop} {o0 o1 : Bool} {j : Nat} (hj : j < 16)
    (h : J (nI (cg_cb o0 (o1 || decide (a_litArg0 j = 1 ∨ a_litArg1 j = 1)))) (nI (j + 1))) : wX_universe_39 post J (nI (cg_cb o0 o1)) (nI j) f_litCount f_clauseCount f_stepCount f_bufferSealed f_lastCheckStep f_keptCount f_proofKept f_openCount f_universeSize f_neededInstances f_givenLiterals a_litSign a_litPred a_litArg0 a_litArg1 a_clauseStart a_predArity a_stepKind a_stepA a_stepB a_binding a_keptKind a_keptA a_keptB a_keptInstance a_openCopy a_openLit a_parentCopy a_parentLit a_pathLength a_atomBase a_instanceLits a_instanceHolds a_literalHolds a_restInstances a_pathLiterals := by
  have hin : vp_in (nI j) 16 := vp_in_nI hj (by decide)
  refine ⟨hin, ?_⟩
  rw [nI_clamp (show j < 2 ^ 31 by omega)]
  refine br_c (fun e => nm_r (cg_or2 o0 o1) (nm_r (nI_1 j) ?_)) (fun e => ⟨hin, br_c (fun e2 => nm_r (cg_or2 o0 o1) (nm_r (nI_1 j) ?_)) (fun e2 => nm_r (nI_1 j) ?_)⟩)
  · rw [decide_eq_true (Or.inl e), Bool.or_true] at h
    exact h
  · rw [decide_eq_true (Or.inr e2), Bool.or_true] at h
    exact h
  · rw [decide_eq_false (fun z => z.elim e e2), Bool.or_false] at h
    exact h
theorem xu_univ {post : Int32 → Prop} {nc nl : Nat} {st : Nat → Nat} {sg pr ar : Nat → Int32} (hw : cd_wf nc nl st sg pr a_litArg0 a_litArg1 ar) (hcs : ∀ c, c ≤ nc → a_clauseStart c = nI (st c))
    (h : post (nI (cg_con (cg_oc a_litArg0 a_litArg1 0 (st nc)) (cg_oc a_litArg0 a_litArg1 1 (st nc))))) : wpX_universe post (f_litCount, nI nc, f_stepCount, f_bufferSealed, f_lastCheckStep, f_keptCount, f_proofKept, f_openCount, f_universeSize, f_neededInstances, f_givenLiterals, a_litSign, a_litPred, a_litArg0, a_litArg1, a_clauseStart, a_predArity, a_stepKind, a_stepA, a_stepB, a_binding, a_keptKind, a_keptA, a_keptB, a_keptInstance, a_openCopy, a_openLit, a_parentCopy, a_parentLit, a_pathLength, a_atomBase, a_instanceLits, a_instanceHolds, a_literalHolds, a_restInstances, a_pathLiterals) := by
  have hnc := hw.1
  have hM := hw.2.2.2.2.1
  have hnl := hw.2.1
  have key : ∀ d j : Nat, j + d = st nc → wX_universe_4 post f_litCount (nI nc) f_stepCount f_bufferSealed f_lastCheckStep f_keptCount f_proofKept f_openCount f_universeSize f_neededInstances f_givenLiterals a_litSign a_litPred a_litArg0 a_litArg1 a_clauseStart a_predArity a_stepKind a_stepA a_stepB a_binding a_keptKind a_keptA a_keptB a_keptInstance a_openCopy a_openLit a_parentCopy a_parentLit a_pathLength a_atomBase a_instanceLits a_instanceHolds a_literalHolds a_restInstances a_pathLiterals (d + 1) (nI (cg_cb (cg_oc a_litArg0 a_litArg1 0 j) (cg_oc a_litArg0 a_litArg1 1 j))) (nI j) := by
    intro d
    induction d with
    | zero =>
      intro j hj
      refine ⟨vp_in_nI (by omega) (by decide), ?_⟩
      rw [nI_clamp (show nc < 2 ^ 31 by omega), hcs nc (Nat.le_refl _)]
      refine br_t (nI_le (by omega) (by omega)) ?_
      have ej : j = st nc := by omega
      rw [ej]
      unfold cg_con at h
      generalize cg_oc a_litArg0 a_litArg1 0 (st nc) = o0 at h ⊢
      generalize cg_oc a_litArg0 a_litArg1 1 (st nc) = o1 at h ⊢
      cases o0 <;> cases o1
      · exact br_t rfl h
      · exact br_f (by decide) h
      · exact br_f (by decide) h
      · exact br_f (by decide) h
    | succ d ih =>
      intro j hj
      have hin : vp_in (nI j) 16 := vp_in_nI (by omega) (by decide)
      refine ⟨vp_in_nI (by omega) (by decide), ?_⟩
      rw [nI_clamp (show nc < 2 ^ 31 by omega), hcs nc (Nat.le_refl _)]
      refine br_f (nI_ge (show j < st nc by omega) (by omega)) ⟨hin, ?_⟩
      rw [nI_clamp (show j < 2 ^ 31 by omega)]
      have ih2 := ih (j + 1) (by omega)
      rw [cg_oc, cg_oc] at ih2
      refine br_c (fun e => nm_r (cg_or1 _ _) ?_) (fun e => ⟨hin, br_c (fun e2 => nm_r (cg_or1 _ _) ?_) (fun e2 => ?_)⟩)
      · rw [decide_eq_true (Or.inl e), Bool.or_true] at ih2
        exact xu_39 (by omega) ih2
      · rw [decide_eq_true (Or.inr e2), Bool.or_true] at ih2
        exact xu_39 (by omega) ih2
      · rw [decide_eq_false (fun z : a_litArg0 j = 0 ∨ a_litArg1 j = 0 => z.elim e e2), Bool.or_false] at ih2
        exact xu_39 (by omega) ih2
  exact ⟨_, key (st nc) 0 (by omega)⟩
theorem xu_size {post : Int32 → Prop} {o0 o1 : Bool} (h : post (nI (cg_sz (o0 && o1)))) : wpX_sizeOf post (f_litCount, f_clauseCount, f_stepCount, f_bufferSealed, f_lastCheckStep, f_keptCount, f_proofKept, f_openCount, f_universeSize, f_neededInstances, f_givenLiterals, a_litSign, a_litPred, a_litArg0, a_litArg1, a_clauseStart, a_predArity, a_stepKind, a_stepA, a_stepB, a_binding, a_keptKind, a_keptA, a_keptB, a_keptInstance, a_openCopy, a_openLit, a_parentCopy, a_parentLit, a_pathLength, a_atomBase, a_instanceLits, a_instanceHolds, a_literalHolds, a_restInstances, a_pathLiterals) (nI (cg_con o0 o1)) := by
  cases o0 <;> cases o1
  · exact br_f (by decide) h
  · exact br_f (by decide) h
  · exact br_f (by decide) h
  · exact br_t rfl h
theorem xu_atoms {post : Int32 → Prop} {nc nl : Nat} {st : Nat → Nat} {sg a0 a1 : Nat → Int32} (hw : cd_wf nc nl st sg a_litPred a0 a1 a_predArity) (hcs : ∀ c, c ≤ nc → a_clauseStart c = nI (st c)) {p : Nat} (hp : p < 4) {two : Bool}
    (h : post (nI (cg_at a_litPred a_predArity (st nc) two p))) : wpX_atomsOf post (f_litCount, nI nc, f_stepCount, f_bufferSealed, f_lastCheckStep, f_keptCount, f_proofKept, f_openCount, f_universeSize, f_neededInstances, f_givenLiterals, a_litSign, a_litPred, a_litArg0, a_litArg1, a_clauseStart, a_predArity, a_stepKind, a_stepA, a_stepB, a_binding, a_keptKind, a_keptA, a_keptB, a_keptInstance, a_openCopy, a_openLit, a_parentCopy, a_parentLit, a_pathLength, a_atomBase, a_instanceLits, a_instanceHolds, a_literalHolds, a_restInstances, a_pathLiterals) (nI p) (nI (cg_sz two)) := by
  have hnc := hw.1
  have hM := hw.2.2.2.2.1
  have hnl := hw.2.1
  have inc : vp_in (nI nc) 9 := vp_in_nI (by omega) (by decide)
  have inp : vp_in (nI p) 4 := vp_in_nI hp (by decide)
  have clp : (nI p).toNatClampNeg = p := nI_clamp (by omega)
  -- the product
  have prod : cg_op a_litPred p (st nc) = true → ∃ n58 : Nat, wX_atomsOf_58 post (nI p) (nI (cg_sz two)) f_litCount (nI nc) f_stepCount f_bufferSealed f_lastCheckStep f_keptCount f_proofKept f_openCount f_universeSize f_neededInstances f_givenLiterals a_litSign a_litPred a_litArg0 a_litArg1 a_clauseStart a_predArity a_stepKind a_stepA a_stepB a_binding a_keptKind a_keptA a_keptB a_keptInstance a_openCopy a_openLit a_parentCopy a_parentLit a_pathLength a_atomBase a_instanceLits a_instanceHolds a_literalHolds a_restInstances a_pathLiterals n58 1 0 := by
    intro hop
    unfold cg_at at h
    rw [if_pos hop] at h
    obtain ⟨l, hl, el⟩ := (cg_op_iff _).mp hop
    obtain ⟨_, _, _, _, har, _, _, _, ha2⟩ := cg_lit hw hl
    have clr : (a_litPred l).toNatClampNeg = p := by rw [el]; exact clp
    rw [clr] at har
    obtain ⟨q, hq, eq, ea⟩ := (hw.2.2.2.2.2.2.1 l (by omega)).2.1
    have eqp : q = p := by
      rw [eq, nI_eq (by omega) (by omega)] at el
      exact el
    subst eqp
    generalize ck_ar (a0 l) (a1 l) = a at har ha2 ea
    rw [har] at h
    have step : ∀ d i : Nat, i + d = a → wX_atomsOf_58 post (nI q) (nI (cg_sz two)) f_litCount (nI nc) f_stepCount f_bufferSealed f_lastCheckStep f_keptCount f_proofKept f_openCount f_universeSize f_neededInstances f_givenLiterals a_litSign a_litPred a_litArg0 a_litArg1 a_clauseStart a_predArity a_stepKind a_stepA a_stepB a_binding a_keptKind a_keptA a_keptB a_keptInstance a_openCopy a_openLit a_parentCopy a_parentLit a_pathLength a_atomBase a_instanceLits a_instanceHolds a_literalHolds a_restInstances a_pathLiterals (d + 1) (nI (cg_sz two ^ i)) (nI i) := by
      intro d
      induction d with
      | zero =>
        intro i hi
        refine ⟨inp, ?_⟩
        rw [clp, ea]
        have ei : i = a := by omega
        rw [ei]
        exact br_t (nI_le (Nat.le_refl a) (by omega)) h
      | succ d ih =>
        intro i hi
        refine ⟨inp, ?_⟩
        rw [clp, ea]
        refine br_f (nI_ge (by omega) (by omega)) (nm_r (pk_mul _ _) (nm_r (nI_1 i) ?_))
        rw [← Nat.pow_succ]
        exact ih (i + 1) (by omega)
    exact ⟨_, step a 0 (by omega)⟩
  have key : ∀ d j : Nat, j + d = st nc → wX_atomsOf_5 post (nI p) (nI (cg_sz two)) f_litCount (nI nc) f_stepCount f_bufferSealed f_lastCheckStep f_keptCount f_proofKept f_openCount f_universeSize f_neededInstances f_givenLiterals a_litSign a_litPred a_litArg0 a_litArg1 a_clauseStart a_predArity a_stepKind a_stepA a_stepB a_binding a_keptKind a_keptA a_keptB a_keptInstance a_openCopy a_openLit a_parentCopy a_parentLit a_pathLength a_atomBase a_instanceLits a_instanceHolds a_literalHolds a_restInstances a_pathLiterals (d + 1) (if cg_op a_litPred p j = true then 1 else 0) (nI j) := by
    intro d
    induction d with
    | zero =>
      intro j hj
      refine ⟨inc, ?_⟩
      rw [nI_clamp (show nc < 2 ^ 31 by omega), hcs nc (Nat.le_refl _)]
      refine br_t (nI_le (by omega) (by omega)) ?_
      have ej : j = st nc := by omega
      rw [ej]
      by_cases o : cg_op a_litPred p (st nc) = true
      · rw [if_pos o]
        exact br_f (by decide) (prod o)
      · rw [if_neg o]
        unfold cg_at at h
        rw [if_neg o] at h
        exact br_t rfl h
    | succ d ih =>
      intro j hj
      have ih2 := ih (j + 1) (by omega)
      rw [cg_op] at ih2
      refine ⟨inc, ?_⟩
      rw [nI_clamp (show nc < 2 ^ 31 by omega), hcs nc (Nat.le_refl _)]
      refine br_f (nI_ge (show j < st nc by omega) (by omega)) ?_
      by_cases o : cg_op a_litPred p j = true
      · rw [if_pos o]
        rw [o, Bool.true_or, if_pos rfl] at ih2
        exact br_f (by decide) (nm_r (nI_1 j) ih2)
      · rw [if_neg o]
        have o' : cg_op a_litPred p j = false := by
          cases z : cg_op a_litPred p j
          · rfl
          · exact absurd z o
        rw [o', Bool.false_or] at ih2
        refine br_t rfl ⟨vp_in_nI (by omega) (by decide), ?_⟩
        rw [nI_clamp (show j < 2 ^ 31 by omega)]
        refine br_c (fun e => nm_r (nI_1 j) ?_) (fun e => nm_r (nI_1 j) ?_)
        · rw [decide_eq_true e, if_pos rfl] at ih2
          exact ih2
        · rw [decide_eq_false e, if_neg (by decide)] at ih2
          exact ih2
  exact ⟨_, key (st nc) 0 (by omega)⟩
theorem xu_count {post : Int32 → Prop} {nc nl : Nat} {st : Nat → Nat} {sg : Nat → Int32} (hw : cd_wf nc nl st sg a_litPred a_litArg0 a_litArg1 a_predArity) (hcs : ∀ c, c ≤ nc → a_clauseStart c = nI (st c))
    (h : post (nI (cg_base a_litPred a_predArity (st nc) (cg_oc a_litArg0 a_litArg1 0 (st nc) && cg_oc a_litArg0 a_litArg1 1 (st nc)) 4))) : wpX_getGroundAtoms post (f_litCount, nI nc, f_stepCount, f_bufferSealed, f_lastCheckStep, f_keptCount, f_proofKept, f_openCount, f_universeSize, f_neededInstances, f_givenLiterals, a_litSign, a_litPred, a_litArg0, a_litArg1, a_clauseStart, a_predArity, a_stepKind, a_stepA, a_stepB, a_binding, a_keptKind, a_keptA, a_keptB, a_keptInstance, a_openCopy, a_openLit, a_parentCopy, a_parentLit, a_pathLength, a_atomBase, a_instanceLits, a_instanceHolds, a_literalHolds, a_restInstances, a_pathLiterals) := by
  refine xu_univ hw hcs (xu_size ?_)
  generalize (cg_oc a_litArg0 a_litArg1 0 (st nc) && cg_oc a_litArg0 a_litArg1 1 (st nc)) = two at h ⊢
  have key : ∀ d p : Nat, p + d = 4 → wX_getGroundAtoms_16 post (nI (cg_sz two)) f_litCount (nI nc) f_stepCount f_bufferSealed f_lastCheckStep f_keptCount f_proofKept f_openCount f_universeSize f_neededInstances f_givenLiterals a_litSign a_litPred a_litArg0 a_litArg1 a_clauseStart a_predArity a_stepKind a_stepA a_stepB a_binding a_keptKind a_keptA a_keptB a_keptInstance a_openCopy a_openLit a_parentCopy a_parentLit a_pathLength a_atomBase a_instanceLits a_instanceHolds a_literalHolds a_restInstances a_pathLiterals (d + 1) (nI (cg_base a_litPred a_predArity (st nc) two p)) (nI p) := by
    intro d
    induction d with
    | zero =>
      intro p hp
      have : p = 4 := by omega
      rw [this]
      exact br_t (nI_le (a := 4) (b := 4) (Nat.le_refl _) (by decide)) h
    | succ d ih =>
      intro p hp
      refine br_f (nI_ge (b := 4) (by omega) (by decide)) ?_
      refine xu_atoms hw hcs (by omega) ?_
      exact nm_r (nI_add _ _) (nm_r (nI_1 p) (ih (p + 1) (by omega)))
  exact ⟨_, key 4 0 (by omega)⟩
end
theorem cg_base_16 {nc nl : Nat} {st : Nat → Nat} {sg pr a0 a1 ar : Nat → Int32} (hw : cd_wf nc nl st sg pr a0 a1 ar) {two : Bool} : cg_base pr ar (st nc) two 4 < 2 ^ 31 := by
  have h0 := cg_at_4 (two := two) hw (show 0 < 4 by omega)
  have h1 := cg_at_4 (two := two) hw (show 1 < 4 by omega)
  have h2 := cg_at_4 (two := two) hw (show 2 < 4 by omega)
  have h3 := cg_at_4 (two := two) hw (show 3 < 4 by omega)
  show 0 + cg_at pr ar (st nc) two 0 + cg_at pr ar (st nc) two 1 + cg_at pr ar (st nc) two 2 + cg_at pr ar (st nc) two 3 < 2 ^ 31
  omega
