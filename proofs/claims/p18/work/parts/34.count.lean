/-! the law counts predicates, arities and constants -/
section
variable {f_litCount f_clauseCount f_stepCount f_bufferSealed f_lastCheckStep f_keptCount f_proofKept f_openCount f_universeSize f_neededInstances f_givenLiterals : Int32} {a_litSign a_litPred a_litArg0 a_litArg1 a_clauseStart a_predArity a_stepKind a_stepA a_stepB a_binding a_keptKind a_keptA a_keptB a_keptInstance a_openCopy a_openLit a_parentCopy a_parentLit a_pathLength a_atomBase a_instanceLits a_instanceHolds a_literalHolds a_restInstances a_pathLiterals : Nat → Int32}
theorem lc_517 {post : Int32 → Prop} {L : Nat} {xs : Nat → Int32} {J10 : Int32 → Int32 → Int32 → Int32 → Int32 → Int32 → Int32 → Int32 → Int32 → Int32 → Int32 → Int32 → (Nat → Int32) → (Nat → Int32) → (Nat → Int32) → (Nat → Int32) → (Nat → Int32) → (Nat → Int32) → (Nat → Int32) → (Nat → Int32) → (Nat → Int32) → (Nat → Int32) → (Nat → Int32) → (Nat → Int32) → (Nat → Int32) → (Nat → Int32) → (Nat → Int32) → (Nat → Int32) → (Nat → Int32) → (Nat → Int32) → (Nat → Int32) → (Nat → Int32) → (Nat → Int32) → (Nat → Int32) → (Nat → Int32) → (Nat → Int32) → (Nat → Int32) → Prop} {J389 J407 : Int32 → Int32 → Int32 → Int32 → Prop} {y2 y6 y7 y8 y9 y11 y12 y13 y16 y17 : Int32} {mc ms : Nat} {o0 o1 : Bool}
    (h : J407 y8 y9 (nI (cg_cb o0 (o1 || decide (y16 = 1 ∨ y17 = 1)))) (y13 + 1)) :
    wL_law_517 post L xs J10 J389 J407 y2 y6 y7 y8 y9 (nI (cg_cb o0 o1)) y11 y12 y13 y16 y17 mc ms f_litCount f_clauseCount f_stepCount f_bufferSealed f_lastCheckStep f_keptCount f_proofKept f_openCount f_universeSize f_neededInstances f_givenLiterals a_litSign a_litPred a_litArg0 a_litArg1 a_clauseStart a_predArity a_stepKind a_stepA a_stepB a_binding a_keptKind a_keptA a_keptB a_keptInstance a_openCopy a_openLit a_parentCopy a_parentLit a_pathLength a_atomBase a_instanceLits a_instanceHolds a_literalHolds a_restInstances a_pathLiterals := by
  refine br_c (fun e => ?_) (fun e => br_c (fun e2 => ?_) (fun e2 => ?_))
  · have hd : decide (y16 = 1 ∨ y17 = 1) = true := decide_eq_true (Or.inl e)
    rw [hd, Bool.or_true] at h
    exact nm_r (cg_or2 o0 o1) (nm_e h)
  · have hd : decide (y16 = 1 ∨ y17 = 1) = true := decide_eq_true (Or.inr e2)
    rw [hd, Bool.or_true] at h
    exact nm_r (cg_or2 o0 o1) (nm_e h)
  · have hn : ¬ (y16 = 1 ∨ y17 = 1) := fun z => z.elim e e2
    rw [decide_eq_false hn, Bool.or_false] at h
    exact nm_e h
theorem lc_474 {post : Int32 → Prop} {L : Nat} {xs : Nat → Int32} {J10 : Int32 → Int32 → Int32 → Int32 → Int32 → Int32 → Int32 → Int32 → Int32 → Int32 → Int32 → Int32 → (Nat → Int32) → (Nat → Int32) → (Nat → Int32) → (Nat → Int32) → (Nat → Int32) → (Nat → Int32) → (Nat → Int32) → (Nat → Int32) → (Nat → Int32) → (Nat → Int32) → (Nat → Int32) → (Nat → Int32) → (Nat → Int32) → (Nat → Int32) → (Nat → Int32) → (Nat → Int32) → (Nat → Int32) → (Nat → Int32) → (Nat → Int32) → (Nat → Int32) → (Nat → Int32) → (Nat → Int32) → (Nat → Int32) → (Nat → Int32) → (Nat → Int32) → Prop} {J389 J407 : Int32 → Int32 → Int32 → Int32 → Prop} {y2 y6 y7 y8 y9 y11 y12 y13 y15 y16 y17 z0 : Int32} {mc ms : Nat} {o0 o1 : Bool}
    (h : J407 (y8 ||| ((1 : Int32) <<< ((y15 &&& 3) &&& 31))) (y9 ||| (z0 <<< ((2 * (y15 &&& 3)) &&& 31))) (nI (cg_cb (o0 || decide (y16 = 0 ∨ y17 = 0)) (o1 || decide (y16 = 1 ∨ y17 = 1)))) (y13 + 1)) :
    wL_law_474 post L xs J10 J389 J407 y2 y6 y7 y8 y9 (nI (cg_cb o0 o1)) y11 y12 y13 y15 y16 y17 z0 mc ms f_litCount f_clauseCount f_stepCount f_bufferSealed f_lastCheckStep f_keptCount f_proofKept f_openCount f_universeSize f_neededInstances f_givenLiterals a_litSign a_litPred a_litArg0 a_litArg1 a_clauseStart a_predArity a_stepKind a_stepA a_stepB a_binding a_keptKind a_keptA a_keptB a_keptInstance a_openCopy a_openLit a_parentCopy a_parentLit a_pathLength a_atomBase a_instanceLits a_instanceHolds a_literalHolds a_restInstances a_pathLiterals := by
  refine nm_e (nm_e (br_c (fun e => ?_) (fun e => br_c (fun e2 => ?_) (fun e2 => ?_))))
  · have hd : decide (y16 = 0 ∨ y17 = 0) = true := decide_eq_true (Or.inl e)
    rw [hd, Bool.or_true] at h
    exact nm_r (cg_or1 o0 o1) (lc_517 h)
  · have hd : decide (y16 = 0 ∨ y17 = 0) = true := decide_eq_true (Or.inr e2)
    rw [hd, Bool.or_true] at h
    exact nm_r (cg_or1 o0 o1) (lc_517 h)
  · have hn : ¬ (y16 = 0 ∨ y17 = 0) := fun z => z.elim e e2
    rw [decide_eq_false hn, Bool.or_false] at h
    exact lc_517 h
end
section
variable {nc nl : Nat} {st : Nat → Nat} {sl kp ls : Int32} {ns kc : Nat} {sg pr a0 a1 ar cs ow xK xA xB bd kK kA kB kI lh ph : Nat → Int32} {w0 w1 w2 w3 : Int32} {X0 X1 X2 X3 X4 X5 X6 X7 X8 : Nat → Int32}
theorem lc_407 {post : Int32 → Prop} {L : Nat} {xs : Nat → Int32} {J10 : Int32 → Int32 → Int32 → Int32 → Int32 → Int32 → Int32 → Int32 → Int32 → Int32 → Int32 → Int32 → (Nat → Int32) → (Nat → Int32) → (Nat → Int32) → (Nat → Int32) → (Nat → Int32) → (Nat → Int32) → (Nat → Int32) → (Nat → Int32) → (Nat → Int32) → (Nat → Int32) → (Nat → Int32) → (Nat → Int32) → (Nat → Int32) → (Nat → Int32) → (Nat → Int32) → (Nat → Int32) → (Nat → Int32) → (Nat → Int32) → (Nat → Int32) → (Nat → Int32) → (Nat → Int32) → (Nat → Int32) → (Nat → Int32) → (Nat → Int32) → (Nat → Int32) → Prop} {J389 : Int32 → Int32 → Int32 → Int32 → Prop} {y2 y6 y7 : Int32} {mc ms : Nat} (Q : lj_Q nc nl st sl kp ns kc sg pr a0 a1 ar cs ow xK xA xB bd kK kA kB kI lh ph) {c : Nat} (hc : c < nc)
    (h : J389 (nI (lp_pm pr (st (c + 1)))) (nI (lp_ar pr a0 a1 (st (c + 1)))) (nI (cg_cb (cg_oc a0 a1 0 (st (c + 1))) (cg_oc a0 a1 1 (st (c + 1))))) (nI (c + 1))) :
    ∀ d i : Nat, i + d = st (c + 1) - st c → wL_law_407 post L xs J10 J389 y2 y6 y7 (nI c) (nI (st (c + 1) - st c)) mc ms (nI nl) (nI nc) (nI ns) sl ls (nI kc) kp w0 w1 w2 w3 sg pr a0 a1 cs ar xK xA xB bd kK kA kB kI X0 X1 X2 X3 ph X4 X5 X6 lh X7 X8 (d + 1) (nI (lp_pm pr (st c + i))) (nI (lp_ar pr a0 a1 (st c + i))) (nI (cg_cb (cg_oc a0 a1 0 (st c + i)) (cg_oc a0 a1 1 (st c + i)))) (nI i) := by
  obtain ⟨⟨hw, hcs, how⟩, _⟩ := id Q
  have hnc := hw.1
  have hnl := hw.2.1
  have hM := hw.2.2.2.2.1
  have hst := cd_mono' hw (c := c + 1) (d := nc) (by omega) (Nat.le_refl _)
  have hcc := (hw.2.2.2.1 c hc).1
  intro d
  induction d with
  | zero =>
    intro i hi
    have e : st c + i = st (c + 1) := by omega
    rw [e]
    exact br_t (nI_le (by omega) (by omega)) (nm_r (nI_1 c) h)
  | succ d ih =>
    intro i hi
    have hj : st c + i < st nc := by omega
    obtain ⟨_, _, l3, l4, _⟩ := hw.2.2.2.2.2.2.1 (st c + i) (by omega)
    obtain ⟨d1, d2, d3, d4⟩ := ll_dec hw hj
    refine br_f (nI_ge (show i < st (c + 1) - st c by omega) (by omega)) (ll_get Q hc (show i < st (c + 1) - st c by omega) ?_)
    refine ⟨by decide, by decide, nm_r d2 ⟨by decide, by decide, nm_r d3 ⟨by decide, nm_r d4 ?_⟩⟩⟩
    refine ll_ar l3 l4 (P := fun z => wL_law_474 post L xs J10 J389 (wL_law_407 post L xs J10 J389 y2 y6 y7 (nI c) (nI (st (c + 1) - st c)) mc ms (nI nl) (nI nc) (nI ns) sl ls (nI kc) kp w0 w1 w2 w3 sg pr a0 a1 cs ar xK xA xB bd kK kA kB kI X0 X1 X2 X3 ph X4 X5 X6 lh X7 X8 (d + 1)) y2 y6 y7 (nI (lp_pm pr (st c + i))) (nI (lp_ar pr a0 a1 (st c + i))) (nI (cg_cb (cg_oc a0 a1 0 (st c + i)) (cg_oc a0 a1 1 (st c + i)))) (nI c) (nI (st (c + 1) - st c)) (nI i) (nI (pr (st c + i)).toNatClampNeg) (a0 (st c + i)) (a1 (st c + i)) z mc ms (nI nl) (nI nc) (nI ns) sl ls (nI kc) kp w0 w1 w2 w3 sg pr a0 a1 cs ar xK xA xB bd kK kA kB kI X0 X1 X2 X3 ph X4 X5 X6 lh X7 X8) ?_
    refine lc_474 ?_
    rw [lp_pm_step hw hj, lp_ar_step hw hj, nI_1]
    exact ih (i + 1) (by omega)
theorem lc_389 {post : Int32 → Prop} {L : Nat} {xs : Nat → Int32} {J10 : Int32 → Int32 → Int32 → Int32 → Int32 → Int32 → Int32 → Int32 → Int32 → Int32 → Int32 → Int32 → (Nat → Int32) → (Nat → Int32) → (Nat → Int32) → (Nat → Int32) → (Nat → Int32) → (Nat → Int32) → (Nat → Int32) → (Nat → Int32) → (Nat → Int32) → (Nat → Int32) → (Nat → Int32) → (Nat → Int32) → (Nat → Int32) → (Nat → Int32) → (Nat → Int32) → (Nat → Int32) → (Nat → Int32) → (Nat → Int32) → (Nat → Int32) → (Nat → Int32) → (Nat → Int32) → (Nat → Int32) → (Nat → Int32) → (Nat → Int32) → (Nat → Int32) → Prop} {y2 y6 : Int32} {mc ms : Nat} (Q : lj_Q nc nl st sl kp ns kc sg pr a0 a1 ar cs ow xK xA xB bd kK kA kB kI lh ph)
    (h : ∃ n, wL_law_566 post L xs J10 y2 y6 (nI nc) (nI (lp_pm pr (st nc))) (nI (lp_ar pr a0 a1 (st nc))) (nI (cg_cb (cg_oc a0 a1 0 (st nc)) (cg_oc a0 a1 1 (st nc)))) (nI (cg_sz (cg_oc a0 a1 0 (st nc) && cg_oc a0 a1 1 (st nc)))) mc ms (nI nl) (nI nc) (nI ns) sl ls (nI kc) kp w0 w1 w2 w3 sg pr a0 a1 cs ar xK xA xB bd kK kA kB kI X0 X1 X2 X3 ph X4 X5 X6 lh X7 X8 n 0 0) :
    ∀ d c : Nat, c + d = nc → wL_law_389 post L xs J10 y2 y6 (nI nc) mc ms (nI nl) (nI nc) (nI ns) sl ls (nI kc) kp w0 w1 w2 w3 sg pr a0 a1 cs ar xK xA xB bd kK kA kB kI X0 X1 X2 X3 ph X4 X5 X6 lh X7 X8 (d + 1) (nI (lp_pm pr (st c))) (nI (lp_ar pr a0 a1 (st c))) (nI (cg_cb (cg_oc a0 a1 0 (st c)) (cg_oc a0 a1 1 (st c)))) (nI c) := by
  obtain ⟨⟨hw, hcs, how⟩, _⟩ := id Q
  have hnc := hw.1
  intro d
  induction d with
  | zero =>
    intro c hc
    have e : c = nc := by omega
    subst e
    refine br_t (nI_le (Nat.le_refl c) (by omega)) (ek_if (lf_cb3 _ _) (fun z => ?_) (fun z => ?_))
    · unfold cg_sz at h
      rw [if_pos z] at h
      exact h
    · unfold cg_sz at h
      rw [if_neg z] at h
      exact h
  | succ d ih =>
    intro c hc
    exact br_f (nI_ge (show c < nc by omega) (by omega)) (ll_len Q (show c < nc by omega) ⟨_, lc_407 Q (show c < nc by omega) (ih (c + 1) (by omega)) (st (c + 1) - st c) 0 (by omega)⟩)
theorem lc_566 {post : Int32 → Prop} {L : Nat} {xs : Nat → Int32} {J10 : Int32 → Int32 → Int32 → Int32 → Int32 → Int32 → Int32 → Int32 → Int32 → Int32 → Int32 → Int32 → (Nat → Int32) → (Nat → Int32) → (Nat → Int32) → (Nat → Int32) → (Nat → Int32) → (Nat → Int32) → (Nat → Int32) → (Nat → Int32) → (Nat → Int32) → (Nat → Int32) → (Nat → Int32) → (Nat → Int32) → (Nat → Int32) → (Nat → Int32) → (Nat → Int32) → (Nat → Int32) → (Nat → Int32) → (Nat → Int32) → (Nat → Int32) → (Nat → Int32) → (Nat → Int32) → (Nat → Int32) → (Nat → Int32) → (Nat → Int32) → (Nat → Int32) → Prop} {y2 y6 : Int32} {mc ms : Nat} (Q : lj_Q nc nl st sl kp ns kc sg pr a0 a1 ar cs ow xK xA xB bd kK kA kB kI lh ph)
    (hbig : ¬ cg_base pr ar (st nc) (cg_oc a0 a1 0 (st nc) && cg_oc a0 a1 1 (st nc)) 4 ≤ 5 → wL_law_636 post L xs J10 y2 y6 (nI nc) (nI (lp_pm pr (st nc))) (nI (lp_ar pr a0 a1 (st nc))) (nI (cg_cb (cg_oc a0 a1 0 (st nc)) (cg_oc a0 a1 1 (st nc)))) (nI (cg_sz (cg_oc a0 a1 0 (st nc) && cg_oc a0 a1 1 (st nc)))) (nI (cg_base pr ar (st nc) (cg_oc a0 a1 0 (st nc) && cg_oc a0 a1 1 (st nc)) 4)) (-4) 1 mc ms (nI nl) (nI nc) (nI ns) sl ls (nI kc) kp w0 w1 w2 w3 sg pr a0 a1 cs ar xK xA xB bd kK kA kB kI X0 X1 X2 X3 ph X4 X5 X6 lh X7 X8)
    (hno : cg_base pr ar (st nc) (cg_oc a0 a1 0 (st nc) && cg_oc a0 a1 1 (st nc)) 4 ≤ 5 → cq_sat (cg_HX nc st sg pr a0 a1 ar) (cg_RX nc st a0 a1) (fun _ => False) → ∀ (w1 w2 w3 : Int32) (X4 X5 X6 : Nat → Int32), wL_law_636 post L xs J10 y2 y6 (nI nc) (nI (lp_pm pr (st nc))) (nI (lp_ar pr a0 a1 (st nc))) (nI (cg_cb (cg_oc a0 a1 0 (st nc)) (cg_oc a0 a1 1 (st nc)))) (nI (cg_sz (cg_oc a0 a1 0 (st nc) && cg_oc a0 a1 1 (st nc)))) (nI (cg_base pr ar (st nc) (cg_oc a0 a1 0 (st nc) && cg_oc a0 a1 1 (st nc)) 4)) 2 0 mc ms (nI nl) (nI nc) (nI ns) sl ls (nI kc) 0 w0 w1 w2 w3 sg pr a0 a1 cs ar xK xA xB bd kK kA kB kI X0 X1 X2 X3 ph X4 X5 X6 lh X7 X8)
    (hyes : cg_base pr ar (st nc) (cg_oc a0 a1 0 (st nc) && cg_oc a0 a1 1 (st nc)) 4 ≤ 5 → ¬ cq_sat (cg_HX nc st sg pr a0 a1 ar) (cg_RX nc st a0 a1) (fun _ => False) → ∀ (kc : Nat) (w0 w1 w2 w3 : Int32) (kK kA kB kI X0 X1 X2 X3 ph X4 X5 X6 X7 X8 : Nat → Int32), ph 0 = 0 → cr_kx nc st sg pr a0 a1 kc kK kA kB kI →
      wL_law_636 post L xs J10 y2 y6 (nI nc) (nI (lp_pm pr (st nc))) (nI (lp_ar pr a0 a1 (st nc))) (nI (cg_cb (cg_oc a0 a1 0 (st nc)) (cg_oc a0 a1 1 (st nc)))) (nI (cg_sz (cg_oc a0 a1 0 (st nc) && cg_oc a0 a1 1 (st nc)))) (nI (cg_base pr ar (st nc) (cg_oc a0 a1 0 (st nc) && cg_oc a0 a1 1 (st nc)) 4)) 1 0 mc ms (nI nl) (nI nc) (nI ns) sl ls (nI kc) 1 w0 w1 w2 w3 sg pr a0 a1 cs ar xK xA xB bd kK kA kB kI X0 X1 X2 X3 ph X4 X5 X6 lh X7 X8) :
    ∃ n, wL_law_566 post L xs J10 y2 y6 (nI nc) (nI (lp_pm pr (st nc))) (nI (lp_ar pr a0 a1 (st nc))) (nI (cg_cb (cg_oc a0 a1 0 (st nc)) (cg_oc a0 a1 1 (st nc)))) (nI (cg_sz (cg_oc a0 a1 0 (st nc) && cg_oc a0 a1 1 (st nc)))) mc ms (nI nl) (nI nc) (nI ns) sl ls (nI kc) kp w0 w1 w2 w3 sg pr a0 a1 cs ar xK xA xB bd kK kA kB kI X0 X1 X2 X3 ph X4 X5 X6 lh X7 X8 n 0 0 := by
  obtain ⟨⟨hw, hcs, how⟩, hfx, _⟩ := id Q
  obtain ⟨p1, p2⟩ := lp_pm_ok hw (st nc) (Nat.le_refl _)
  obtain ⟨r1, r2⟩ := lp_ar_ok hw (st nc) (Nat.le_refl _)
  have key : ∀ d q : Nat, q + d = 4 → wL_law_566 post L xs J10 y2 y6 (nI nc) (nI (lp_pm pr (st nc))) (nI (lp_ar pr a0 a1 (st nc))) (nI (cg_cb (cg_oc a0 a1 0 (st nc)) (cg_oc a0 a1 1 (st nc)))) (nI (cg_sz (cg_oc a0 a1 0 (st nc) && cg_oc a0 a1 1 (st nc)))) mc ms (nI nl) (nI nc) (nI ns) sl ls (nI kc) kp w0 w1 w2 w3 sg pr a0 a1 cs ar xK xA xB bd kK kA kB kI X0 X1 X2 X3 ph X4 X5 X6 lh X7 X8 (d + 1) (nI (cg_base pr ar (st nc) (cg_oc a0 a1 0 (st nc) && cg_oc a0 a1 1 (st nc)) q)) (nI q) := by
    intro d
    induction d with
    | zero =>
      intro q hq
      have e : q = 4 := by omega
      subst e
      refine br_t (nI_le (a := 4) (b := 4) (Nat.le_refl _) (by decide)) (xu_count hw hcs (br_t rfl ?_))
      refine xw_prove hw hcs hfx (fun h5 => br_t rfl (hbig h5)) (fun h5 hs v1 v2 v3 ab il ih => br_f (by decide) (hno h5 hs _ _ _ _ _ _)) (fun h5 hs n v0 v1 v2 v3 kK' kA' kB' kI' oc ol pc pl ph' ab il ih ri ql hp hk => br_f (by decide) (hyes h5 hs _ _ _ _ _ _ _ _ _ _ _ _ _ _ _ _ _ _ _ hp hk))
    | succ d ih =>
      intro q hq
      have ih2 := ih (q + 1) (by omega)
      rw [cg_base] at ih2
      unfold cg_at at ih2
      refine br_f (nI_ge (b := 4) (by omega) (by decide)) ?_
      rw [le_pm_r _ p1 q (by omega), p2 q (by omega), le_ar_r q (by omega) _ r1, r2 q (by omega)]
      by_cases o : cg_op pr q (st nc) = true
      · rw [if_pos o] at ih2
        rw [if_pos o, if_pos o]
        have l4 : (ar q).toNatClampNeg < 4 := by
          have := lf_dig (k := lp_ar pr a0 a1 (st nc)) (q := q)
          rw [r2 q (by omega), if_pos o] at this
          exact this
        exact br_f (by decide) (lf_pw (by omega) (nm_r (nI_add _ _) (nm_r (nI_1 q) ih2)))
      · rw [if_neg o, Nat.add_zero] at ih2
        rw [if_neg o, if_neg o]
        exact br_t rfl (nm_r (nI_1 q) ih2)
  exact ⟨_, key 4 0 (by omega)⟩
end
