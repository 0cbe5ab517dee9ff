/-! addStep -/
theorem cr_buf_step {nc : Nat} {st : Nat → Nat} {sg pr a0 a1 : Nat → Int32} {ns bn : Nat} {xK xA xB bd yK yA yB yb : Nat → Int32} {p0 p1 p2 : Int32} (hn : ns < 256)
    (h : cr_buf nc st sg pr a0 a1 0 ns bn xK xA xB bd yK yA yB yb) :
    bn = ns ∧ cr_buf nc st sg pr a0 a1 0 (ns + 1) (ns + 1) (upd xK ns p0) (upd xA ns p1) (upd xB ns p2) bd (upd yK ns p0) (upd yA ns p1) (upd yB ns p2) yb := by
  obtain ⟨h1, h2, ⟨_, e, hs, hb⟩ | h3⟩ := h
  · refine ⟨e, by omega, by omega, Or.inl ⟨rfl, rfl, fun i hi => ?_, hb⟩⟩
    by_cases ei : i = ns
    · subst ei
      rw [pk_us, pk_us, pk_us, pk_us, pk_us, pk_us]
      exact ⟨rfl, rfl, rfl⟩
    · rw [pk_un ei, pk_un ei, pk_un ei, pk_un ei, pk_un ei, pk_un ei]
      exact hs i (by omega)
  · exact absurd h3.1 (by decide)
/-! bind -/
def cb_ok (v1 v2 v3 v4 : Int32) : Prop := (∃ c, c < 256 ∧ v1 = nI c) ∧ (v2 = 2 ∨ v2 = 3) ∧ (∃ t, t < 4 ∧ v4 = nI t) ∧ (¬ v4 < 2 → ∃ d, d < 256 ∧ v3 = nI d)
theorem cb_lt {x N : Int32} {n : Nat} (hN : N.toInt = n) (h1 : ¬ x < 0) (h2 : x < N) : ∃ c, c < n ∧ x = nI c := by
  obtain ⟨j, hj, e⟩ := nI_of h1
  rw [Int32.lt_iff_toInt_lt, hN, e, nI_toInt hj] at h2
  exact ⟨j, by omega, e⟩
theorem cb_23 {x : Int32} (h1 : ¬ x < 2) (h2 : x ≤ 3) : x = 2 ∨ x = 3 := by
  have h0 : ¬ x < 0 := fun z => h1 (Int32.lt_trans z (by decide))
  obtain ⟨j, hj, e⟩ := nI_of h0
  rw [Int32.lt_iff_toInt_lt, show (2 : Int32).toInt = 2 from by decide, e, nI_toInt hj] at h1
  rw [Int32.le_iff_toInt_le, show (3 : Int32).toInt = 3 from by decide, e, nI_toInt hj] at h2
  have : j = 2 ∨ j = 3 := by omega
  rcases this with z | z <;> rw [e, z]
  · exact Or.inl rfl
  · exact Or.inr rfl
section
variable {f_litCount f_clauseCount f_stepCount f_bufferSealed f_lastCheckStep f_keptCount f_proofKept f_openCount f_universeSize f_neededInstances f_givenLiterals : Int32} {a_litSign a_litPred a_litArg0 a_litArg1 a_clauseStart a_predArity a_stepKind a_stepA a_stepB a_binding a_keptKind a_keptA a_keptB a_keptInstance a_openCopy a_openLit a_parentCopy a_parentLit a_pathLength a_atomBase a_instanceLits a_instanceHolds a_literalHolds a_restInstances a_pathLiterals : Nat → Int32}
theorem xb_bind {post : Int32 → St1 → Prop} {v1 v2 v3 v4 : Int32} (hb : ¬ cb_ok v1 v2 v3 v4 → post (-1) (f_litCount, f_clauseCount, f_stepCount, 0, f_lastCheckStep, f_keptCount, f_proofKept, f_openCount, f_universeSize, f_neededInstances, f_givenLiterals, a_litSign, a_litPred, a_litArg0, a_litArg1, a_clauseStart, a_predArity, a_stepKind, a_stepA, a_stepB, a_binding, a_keptKind, a_keptA, a_keptB, a_keptInstance, a_openCopy, a_openLit, a_parentCopy, a_parentLit, a_pathLength, a_atomBase, a_instanceLits, a_instanceHolds, a_literalHolds, a_restInstances, a_pathLiterals)) (hg : cb_ok v1 v2 v3 v4 → wX_bind_65 post v1 v2 v3 v4 f_litCount f_clauseCount f_stepCount 0 f_lastCheckStep f_keptCount f_proofKept f_openCount f_universeSize f_neededInstances f_givenLiterals a_litSign a_litPred a_litArg0 a_litArg1 a_clauseStart a_predArity a_stepKind a_stepA a_stepB a_binding a_keptKind a_keptA a_keptB a_keptInstance a_openCopy a_openLit a_parentCopy a_parentLit a_pathLength a_atomBase a_instanceLits a_instanceHolds a_literalHolds a_restInstances a_pathLiterals) :
    wpX_bind post (f_litCount, f_clauseCount, f_stepCount, 0, f_lastCheckStep, f_keptCount, f_proofKept, f_openCount, f_universeSize, f_neededInstances, f_givenLiterals, a_litSign, a_litPred, a_litArg0, a_litArg1, a_clauseStart, a_predArity, a_stepKind, a_stepA, a_stepB, a_binding, a_keptKind, a_keptA, a_keptB, a_keptInstance, a_openCopy, a_openLit, a_parentCopy, a_parentLit, a_pathLength, a_atomBase, a_instanceLits, a_instanceHolds, a_literalHolds, a_restInstances, a_pathLiterals) v1 v2 v3 v4 := by
  refine br_t rfl ?_
  refine br_c (fun h => hb (fun z => ?_)) (fun h1 => br_c (fun h => hb (fun z => ?_)) (fun h2 => br_c (fun h => hb (fun z => ?_)) (fun h3 => br_c (fun h4 => br_c (fun h => hb (fun z => ?_)) (fun h5 => br_c (fun h6 =>
    br_c (fun h7 => hg ?_) (fun h7 => br_c (fun h => hb (fun z => ?_)) (fun h8 => br_c (fun h9 => hg ?_) (fun h => hb (fun z => ?_))))) (fun h => hb (fun z => ?_)))) (fun h => hb (fun z => ?_)))))
  · obtain ⟨c, hc, e⟩ := z.1
    rw [e] at h
    exact nI_pos (by omega) h
  · obtain ⟨c, hc, e⟩ := z.1
    rw [e] at h
    exact nI_ge (b := 256) hc (by decide) h
  · rcases z.2.1 with e | e <;> rw [e] at h <;> exact absurd h (by decide)
  · obtain ⟨c, hc, e⟩ := z.2.2.1
    rw [e] at h
    exact nI_pos (by omega) h
  · exact ⟨cb_lt (n := 256) (N := 256) (by decide) h1 (Int32.not_le.mp h2), cb_23 h3 h4, cb_lt (n := 4) (N := 4) (by decide) h5 (Int32.lt_of_le_of_lt h6 (by decide)), fun z => absurd h7 z⟩
  · obtain ⟨c, hc, e⟩ := z.2.2.2 h7
    rw [e] at h
    exact nI_pos (by omega) h
  · exact ⟨cb_lt (n := 256) (N := 256) (by decide) h1 (Int32.not_le.mp h2), cb_23 h3 h4, cb_lt (n := 4) (N := 4) (by decide) h5 (Int32.lt_of_le_of_lt h6 (by decide)), fun _ => cb_lt (n := 256) (N := 256) (by decide) h8 h9⟩
  · obtain ⟨c, hc, e⟩ := z.2.2.2 h7
    rw [e] at h
    exact h (nI_lt (b := 256) hc (by decide))
  · obtain ⟨c, hc, e⟩ := z.2.2.1
    rw [e] at h
    exact h (nI_le (b := 3) (by omega) (by decide))
  · rcases z.2.1 with e | e <;> rw [e] at h <;> exact absurd (by decide) h
end
theorem cr_bx_put {b : Nat → Nat} {bd : Nat → Int32} (h : cr_bx b bd) {t v : Nat} (h2 : 2 ≤ t) (hv : v < 514) : cr_bx (cd_put b t v) (upd bd t (nI v)) := by
  obtain ⟨b0, b1, hb⟩ := h
  refine ⟨by rw [cd_put_n (by omega)]; exact b0, by rw [cd_put_n (by omega)]; exact b1, fun s hs => ?_⟩
  by_cases e : s = t
  · subst e
    rw [cd_put_s, pk_us]
    exact ⟨hv, rfl⟩
  · rw [cd_put_n e, pk_un e]
    exact hb s hs
theorem cr_by_put {b : Nat → Nat} {yb : Nat → Int32} (h : cr_by b yb) {t v : Nat} {x : Int32} (h2 : 2 ≤ t) (hv : v < 514) (hx : x = if v = t then -1 else nI v) :
    cr_by (cd_put b t v) (upd yb (t - 2) x) := by
  obtain ⟨b0, b1, hb⟩ := h
  refine ⟨by rw [cd_put_n (by omega)]; exact b0, by rw [cd_put_n (by omega)]; exact b1, fun s hs => ?_⟩
  by_cases e : s = t
  · subst e
    rw [cd_put_s]
    exact ⟨hv, fun _ => by rw [pk_us]; exact hx⟩
  · rw [cd_put_n e]
    refine ⟨(hb s hs).1, fun hs2 => ?_⟩
    rw [pk_un (by omega)]
    exact (hb s hs).2 hs2
theorem cr_buf_bind {nc : Nat} {st : Nat → Nat} {sg pr a0 a1 : Nat → Int32} {ns bn : Nat} {xK xA xB bd yK yA yB yb : Nat → Int32} {t v : Nat} {x : Int32} (h2 : 2 ≤ t) (hv : v < 514)
    (hx : x = if v = t then -1 else nI v) (h : cr_buf nc st sg pr a0 a1 0 ns bn xK xA xB bd yK yA yB yb) :
    cr_buf nc st sg pr a0 a1 0 ns bn xK xA xB (upd bd t (nI v)) yK yA yB (upd yb (t - 2) x) := by
  obtain ⟨h1, h2', ⟨_, e, hs, b, hbx, hby⟩ | h3⟩ := h
  · exact ⟨h1, h2', Or.inl ⟨rfl, e, hs, _, cr_bx_put hbx h2 hv, cr_by_put hby h2 hv hx⟩⟩
  · exact absurd h3.1 (by decide)