/-! X's steps -/
section
variable {f_litCount f_clauseCount f_stepCount f_bufferSealed f_lastCheckStep f_keptCount f_proofKept f_openCount f_universeSize f_neededInstances f_givenLiterals : Int32} {a_litSign a_litPred a_litArg0 a_litArg1 a_clauseStart a_predArity a_stepKind a_stepA a_stepB a_binding a_keptKind a_keptA a_keptB a_keptInstance a_openCopy a_openLit a_parentCopy a_parentLit a_pathLength a_atomBase a_instanceLits a_instanceHolds a_literalHolds a_restInstances a_pathLiterals : Nat → Int32}
theorem xj_redl {post : Int32 → Prop} {M a : Nat} {x2 x3 : Int32} : ∀ (p : List (Nat × Nat)) (c : Nat), c < 256 → xc_ch a_parentCopy a_parentLit a_pathLength M p c → a < p.length →
    wpX_judgeConnection post (f_litCount, f_clauseCount, f_stepCount, f_bufferSealed, f_lastCheckStep, f_keptCount, f_proofKept, f_openCount, f_universeSize, f_neededInstances, f_givenLiterals, a_litSign, a_litPred, a_litArg0, a_litArg1, a_clauseStart, a_predArity, a_stepKind, a_stepA, a_stepB, a_binding, a_keptKind, a_keptA, a_keptB, a_keptInstance, a_openCopy, a_openLit, a_parentCopy, a_parentLit, a_pathLength, a_atomBase, a_instanceLits, a_instanceHolds, a_literalHolds, a_restInstances, a_pathLiterals) x2 x3 (nI (p.getD (p.length - 1 - a) (0, 0)).1) (nI (p.getD (p.length - 1 - a) (0, 0)).2) →
    wX_judgeReduction_40 post x2 x3 (nI a) f_litCount f_clauseCount f_stepCount f_bufferSealed f_lastCheckStep f_keptCount f_proofKept f_openCount f_universeSize f_neededInstances f_givenLiterals a_litSign a_litPred a_litArg0 a_litArg1 a_clauseStart a_predArity a_stepKind a_stepA a_stepB a_binding a_keptKind a_keptA a_keptB a_keptInstance a_openCopy a_openLit a_parentCopy a_parentLit a_pathLength a_atomBase a_instanceLits a_instanceHolds a_literalHolds a_restInstances a_pathLiterals p.length (nI c) (nI (p.length - 1))
  | [], c, _, _, ha, _ => absurd ha (Nat.not_lt_zero a)
  | e :: p, c, hc, hch, ha, h => by
    obtain ⟨h1, h2, h3, h4, h5, h6⟩ := hch
    have hlen := (xc_ch_len h6).2
    have hin : vp_in (nI c) 256 := vp_in_nI hc (by decide)
    have cl : (nI c).toNatClampNeg = c := nI_clamp (by omega)
    rw [List.length_cons] at ha h
    show wX_judgeReduction_40 post x2 x3 (nI a) f_litCount f_clauseCount f_stepCount f_bufferSealed f_lastCheckStep f_keptCount f_proofKept f_openCount f_universeSize f_neededInstances f_givenLiterals a_litSign a_litPred a_litArg0 a_litArg1 a_clauseStart a_predArity a_stepKind a_stepA a_stepB a_binding a_keptKind a_keptA a_keptB a_keptInstance a_openCopy a_openLit a_parentCopy a_parentLit a_pathLength a_atomBase a_instanceLits a_instanceHolds a_literalHolds a_restInstances a_pathLiterals (p.length + 1) (nI c) (nI (p.length + 1 - 1))
    have e1 : p.length + 1 - 1 = p.length := by omega
    rw [e1] at h ⊢
    refine pk_le p.length a (fun z => ?_) (fun z => ?_)
    · rw [cl, h4, h5]
      have ea : p.length - a = 0 := by omega
      rw [ea] at h
      exact ⟨hin, hin, h⟩
    · rw [cl]
      refine ⟨hin, nm_r h4 ?_⟩
      obtain ⟨n, hn⟩ : ∃ n, p.length = n + 1 := ⟨p.length - 1, by omega⟩
      have e2 : nI p.length + (-1) = nI (p.length - 1) := by
        rw [hn, pk_m1]
        exact congrArg nI (by omega)
      refine nm_r e2 ?_
      have e3 : p.length - a = (p.length - 1 - a) + 1 := by omega
      rw [e3, List.getD_cons_succ] at h
      exact xj_redl p e.1 (by omega) h6 z h
theorem xj_red {post : Int32 → Prop} {M c i : Nat} {x3 : Int32} {p : List (Nat × Nat)} (hi : i < 256) (hc : c < 256) (hch : xc_ch a_parentCopy a_parentLit a_pathLength M p c)
    (h0 : ck_out (a_stepA i) p.length → post (-14))
    (h1 : ¬ ck_out (a_stepA i) p.length → wpX_judgeConnection post (f_litCount, f_clauseCount, f_stepCount, f_bufferSealed, f_lastCheckStep, f_keptCount, f_proofKept, f_openCount, f_universeSize, f_neededInstances, f_givenLiterals, a_litSign, a_litPred, a_litArg0, a_litArg1, a_clauseStart, a_predArity, a_stepKind, a_stepA, a_stepB, a_binding, a_keptKind, a_keptA, a_keptB, a_keptInstance, a_openCopy, a_openLit, a_parentCopy, a_parentLit, a_pathLength, a_atomBase, a_instanceLits, a_instanceHolds, a_literalHolds, a_restInstances, a_pathLiterals) (nI c) x3 (nI (p.getD (p.length - 1 - (a_stepA i).toNatClampNeg) (0, 0)).1) (nI (p.getD (p.length - 1 - (a_stepA i).toNatClampNeg) (0, 0)).2)) :
    wpX_judgeReduction post (f_litCount, f_clauseCount, f_stepCount, f_bufferSealed, f_lastCheckStep, f_keptCount, f_proofKept, f_openCount, f_universeSize, f_neededInstances, f_givenLiterals, a_litSign, a_litPred, a_litArg0, a_litArg1, a_clauseStart, a_predArity, a_stepKind, a_stepA, a_stepB, a_binding, a_keptKind, a_keptA, a_keptB, a_keptInstance, a_openCopy, a_openLit, a_parentCopy, a_parentLit, a_pathLength, a_atomBase, a_instanceLits, a_instanceHolds, a_literalHolds, a_restInstances, a_pathLiterals) (nI i) (nI c) x3 := by
  obtain ⟨el, hl⟩ := xc_ch_len hch
  refine ⟨vp_in_nI hi (by decide), ?_⟩
  rw [nI_clamp (show i < 2 ^ 31 by omega), nI_clamp (show c < 2 ^ 31 by omega), el]
  refine nm_e ?_
  rcases ck_out_or (a_stepA i) (n := p.length) (by omega) with ho | ⟨ho, a, ha, e⟩
  · by_cases hn : a_stepA i < 0
    · exact br_t hn (h0 ho)
    · refine br_f hn ⟨vp_in_nI hc (by decide), br_f (fun z => ?_) (h0 ho)⟩
      rcases ho with ho | ho
      · exact hn ho
      · exact absurd z (Int32.not_lt.mpr ho)
  · have hh := h1 ho
    rw [e, nI_clamp (show a < 2 ^ 31 by omega)] at hh
    rw [e]
    refine br_f (nI_pos (by omega)) ⟨vp_in_nI hc (by decide), br_t (nI_lt ha (by omega)) ⟨vp_in_nI hc (by decide), ?_⟩⟩
    have e2 : nI p.length - 1 = nI (p.length - 1) := by
      rw [show (1 : Int32) = nI 1 from rfl, pk_sub (by omega)]
    exact nm_r e2 ⟨_, xj_redl p c hc hch ha hh⟩
theorem xj_isC {post : Int32 → Prop} {nc : Nat} {x : Int32} (h0 : ck_out x nc → post 0) (h1 : ¬ ck_out x nc → post 1) : wpX_isClause post (f_litCount, nI nc, f_stepCount, f_bufferSealed, f_lastCheckStep, f_keptCount, f_proofKept, f_openCount, f_universeSize, f_neededInstances, f_givenLiterals, a_litSign, a_litPred, a_litArg0, a_litArg1, a_clauseStart, a_predArity, a_stepKind, a_stepA, a_stepB, a_binding, a_keptKind, a_keptA, a_keptB, a_keptInstance, a_openCopy, a_openLit, a_parentCopy, a_parentLit, a_pathLength, a_atomBase, a_instanceLits, a_instanceHolds, a_literalHolds, a_restInstances, a_pathLiterals) x := by
  refine br_c (fun e => h0 (Or.inl e)) (fun e => br_c (fun e2 => h0 (Or.inr e2)) (fun e2 => h1 (fun z => z.elim e e2)))
theorem xj_par {post : St1 → Prop} {i c : Nat} {x2 : Int32} {n : Nat} (hi : i < 256) (hc : c < 256) (hl : a_pathLength c = nI n)
    (h : post (f_litCount, f_clauseCount, f_stepCount, f_bufferSealed, f_lastCheckStep, f_keptCount, f_proofKept, f_openCount, f_universeSize, f_neededInstances, f_givenLiterals, a_litSign, a_litPred, a_litArg0, a_litArg1, a_clauseStart, a_predArity, a_stepKind, a_stepA, a_stepB, a_binding, a_keptKind, a_keptA, a_keptB, a_keptInstance, a_openCopy, a_openLit, upd a_parentCopy i (nI c), upd a_parentLit i x2, upd a_pathLength i (nI (n + 1)), a_atomBase, a_instanceLits, a_instanceHolds, a_literalHolds, a_restInstances, a_pathLiterals)) : wpX_setParent post (f_litCount, f_clauseCount, f_stepCount, f_bufferSealed, f_lastCheckStep, f_keptCount, f_proofKept, f_openCount, f_universeSize, f_neededInstances, f_givenLiterals, a_litSign, a_litPred, a_litArg0, a_litArg1, a_clauseStart, a_predArity, a_stepKind, a_stepA, a_stepB, a_binding, a_keptKind, a_keptA, a_keptB, a_keptInstance, a_openCopy, a_openLit, a_parentCopy, a_parentLit, a_pathLength, a_atomBase, a_instanceLits, a_instanceHolds, a_literalHolds, a_restInstances, a_pathLiterals) (nI i) (nI c) x2 := by
  have in1 : vp_in (nI i) 256 := vp_in_nI hi (by decide)
  have in2 : vp_in (nI c) 256 := vp_in_nI hc (by decide)
  refine ⟨in1, ?_⟩
  rw [nI_clamp (show i < 2 ^ 31 by omega), nI_clamp (show c < 2 ^ 31 by omega), hl, nI_1]
  exact nm_e ⟨in1, nm_e ⟨in2, in1, nm_e h⟩⟩
/-- one step of the check -/
theorem xj_step {post : Int32 → St1 → Prop} {nc nl : Nat} {st : Nat → Nat} (hw : cd_wf nc nl st a_litSign a_litPred a_litArg0 a_litArg1 a_predArity)
    (hcs : ∀ c, c ≤ nc → a_clauseStart c = nI (st c)) {b : Nat → Nat} (hb : cr_bx b a_binding) {i : Nat} (h1 : 1 ≤ i) (hi : i < 256) (hp0 : a_pathLength 0 = 0)
    {L : List ck_G} (hL : xc_stk a_openCopy a_openLit a_parentCopy a_parentLit a_pathLength (st nc) i L) (hlen : L.length ≤ i + 2)
    (h : ∀ (r x0 : Int32) (oc ol pc pl ph : Nat → Int32), r = (ck_step nc st (cd_mk (st nc) a_litSign) (cd_mk (st nc) a_litPred) (cd_mk (st nc) a_litArg0) (cd_mk (st nc) a_litArg1) a_stepKind a_stepA a_stepB b i L).1 → ph 0 = 0 →
      (r = 0 → x0 = nI (ck_step nc st (cd_mk (st nc) a_litSign) (cd_mk (st nc) a_litPred) (cd_mk (st nc) a_litArg0) (cd_mk (st nc) a_litArg1) a_stepKind a_stepA a_stepB b i L).2.length ∧
        (ck_step nc st (cd_mk (st nc) a_litSign) (cd_mk (st nc) a_litPred) (cd_mk (st nc) a_litArg0) (cd_mk (st nc) a_litArg1) a_stepKind a_stepA a_stepB b i L).2.length ≤ i + 3 ∧
        xc_stk oc ol pc pl ph (st nc) (i + 1) (ck_step nc st (cd_mk (st nc) a_litSign) (cd_mk (st nc) a_litPred) (cd_mk (st nc) a_litArg0) (cd_mk (st nc) a_litArg1) a_stepKind a_stepA a_stepB b i L).2) →
      post r (nI nl, nI nc, f_stepCount, f_bufferSealed, f_lastCheckStep, f_keptCount, f_proofKept, x0, f_universeSize, f_neededInstances, f_givenLiterals, a_litSign, a_litPred, a_litArg0, a_litArg1, a_clauseStart, a_predArity, a_stepKind, a_stepA, a_stepB, a_binding, a_keptKind, a_keptA, a_keptB, a_keptInstance, oc, ol, pc, pl, ph, a_atomBase, a_instanceLits, a_instanceHolds, a_literalHolds, a_restInstances, a_pathLiterals)) :
    wpX_judgeStep post (nI nl, nI nc, f_stepCount, f_bufferSealed, f_lastCheckStep, f_keptCount, f_proofKept, nI L.length, f_universeSize, f_neededInstances, f_givenLiterals, a_litSign, a_litPred, a_litArg0, a_litArg1, a_clauseStart, a_predArity, a_stepKind, a_stepA, a_stepB, a_binding, a_keptKind, a_keptA, a_keptB, a_keptInstance, a_openCopy, a_openLit, a_parentCopy, a_parentLit, a_pathLength, a_atomBase, a_instanceLits, a_instanceHolds, a_literalHolds, a_restInstances, a_pathLiterals) (nI i) := by
  have hM := hw.2.2.2.2.1
  have hnl := hw.2.1
  have hnc := hw.1
  match L, hL, hlen, h with
  | [], _, _, h => exact br_t rfl (h _ _ _ _ _ _ _ rfl hp0 (fun z => absurd z (by decide)))
  | (c, l, p) :: R, hL, hlen, h =>
    obtain ⟨s1, s2, s3, s4, s5, s6⟩ := hL
    rw [List.length_cons] at hlen
    try dsimp only at s1 s2 s3 s4 s5
    have hini : vp_in (nI i) 256 := vp_in_nI hi (by decide)
    have cli : (nI i).toNatClampNeg = i := nI_clamp (by omega)
    have hinR : vp_in (nI R.length) 258 := vp_in_nI (by omega) (by decide)
    refine br_f (nI_ne0 (by rw [List.length_cons]; omega) (by rw [List.length_cons]; omega)) ?_
    refine nm_r (by rw [List.length_cons]; exact nI_pred R.length) ⟨hinR, ?_⟩
    rw [nI_clamp (show R.length < 2 ^ 31 by omega), s1, s2, cli]
    refine nm_e ⟨hinR, nm_e ⟨hini, ?_⟩⟩
    unfold ck_step at h
    try dsimp only at h
    refine br_c (fun k0 => ?_) (fun k0 => ⟨hini, br_c (fun k1 => ?_) (fun k1 => ?_)⟩)
    · rw [ck_if_t k0] at h
      exact h _ _ _ _ _ _ _ rfl hp0 (fun z => absurd z (by decide))
    · rw [ck_if_f k0, ck_if_t k1] at h
      -- an extension
      refine ⟨hini, ?_⟩
      rw [cli]
      refine nm_e ?_
      refine xj_isC (fun ho => ?_) (fun ho => ?_)
      · rw [ck_if_t ho] at h
        exact br_t rfl (h _ _ _ _ _ _ _ rfl hp0 (fun z => absurd z (by decide)))
      · rw [ck_if_f ho] at h
        refine br_f (by decide) ?_
        obtain ⟨a, ha, ea⟩ := (ck_out_or (a_stepA i) (n := nc) (by omega)).resolve_left ho |>.2
        rw [ea, nI_clamp (show a < 2 ^ 31 by omega)] at h
        rw [ea]
        obtain ⟨b1, b2, b3⟩ := cd_en_bd hw (show a ≤ nc by omega)
        rw [cd_en_lt ha] at b1 b2 b3
        have hst : st (a + 1) ≤ st nc := cd_mono' hw (by omega) (Nat.le_refl _)
        refine xl_len hw hcs (by omega) ?_
        rw [cd_en_lt ha]
        refine ⟨hini, ?_⟩
        rcases ck_out_or (a_stepB i) (n := st (a + 1) - st a) (by omega) with hob | ⟨hob, bb, hbb, eb⟩
        · rw [ck_if_t hob] at h
          have fin := h _ (nI R.length) a_openCopy a_openLit a_parentCopy a_parentLit a_pathLength rfl hp0 (fun z => absurd (show (-13 : Int32) = 0 from z) (by decide))
          by_cases hn : a_stepB i < 0
          · exact br_t hn fin
          · refine br_f hn ⟨hini, br_f (fun z => ?_) fin⟩
            rcases hob with hob | hob
            · exact hn hob
            · exact absurd z (Int32.not_lt.mpr hob)
        · rw [ck_if_f hob, eb, nI_clamp (show bb < 2 ^ 31 by omega)] at h
          rw [eb]
          refine br_f (nI_pos (by omega)) ⟨hini, br_t (nI_lt hbb (by omega)) ⟨vp_in_nI (by omega) (by decide), ?_⟩⟩
          rw [nI_clamp (show a < 2 ^ 31 by omega), hcs a (by omega)]
          refine nm_e ⟨hini, nm_r (nI_add _ _) ?_⟩
          refine xj_conn hw hb hM (show c < 256 by omega) s4 hi (show st a + bb < st nc by omega) ?_
          by_cases hcn : ck_conn (cd_mk (st nc) a_litSign) (cd_mk (st nc) a_litPred) (cd_mk (st nc) a_litArg0) (cd_mk (st nc) a_litArg1) b c l i (st a + bb) = 0
          · rw [ck_if_t hcn] at h
            rw [hcn]
            refine br_t rfl ?_
            refine xj_par hi (show c < 256 by omega) (xc_ch_len s5).1 ?_
            have fr : ∀ j, j < i → upd a_parentCopy i (nI c) j = a_parentCopy j ∧ upd a_parentLit i (nI l) j = a_parentLit j ∧ upd a_pathLength i (nI (p.length + 1)) j = a_pathLength j := by
              intro j hj
              rw [pk_un (by omega), pk_un (by omega), pk_un (by omega)]
              exact ⟨rfl, rfl, rfl⟩
            have lsl : (ck_gl i (st a + bb) ((c, l) :: p) (st (a + 1) - st a) (st a)).length ≤ 2 := by
              have := ck_gl_len' (copy := i) (sk := st a + bb) (p := (c, l) :: p) (st (a + 1) - st a) (st a) (by omega) (by omega)
              omega
            have lsl' : (xg_ls (st a + bb) (st (a + 1) - st a) (st a)).length ≤ 2 := by
              rw [xg_gl, List.length_map] at lsl
              exact lsl
            refine xg_open (sk := st a + bb) (fun j hj1 hj2 => nI_eq (by omega) (by omega)) (by omega) (by omega) (fun oc ol hag hrep => ?_)
            refine h 0 _ oc ol _ _ _ rfl ?_ (fun _ => ⟨?_, ?_, ?_⟩)
            · rw [pk_un (by omega)]
              exact hp0
            · rw [List.length_append, xg_gl, List.length_map, Nat.add_comm]
            · rw [List.length_append]
              omega
            · rw [xg_gl]
              have hch : xc_ch (upd a_parentCopy i (nI c)) (upd a_parentLit i (nI l)) (upd a_pathLength i (nI (p.length + 1))) (st nc) ((c, l) :: p) i := ⟨s3, s4, pk_us, pk_us, pk_us, xc_ch_fr fr s3 s5⟩
              refine xc_stk_app (by omega) hch (xc_stk_fr (by omega) fr hag s6) (fun l' hl' => ?_) hrep
              have := xg_ls_mem hl'
              omega
          · rw [ck_if_f hcn] at h
            exact br_f hcn (h _ _ _ _ _ _ _ rfl hp0 (fun z => absurd z hcn))
    · rw [ck_if_f k0, ck_if_f k1] at h
      refine xj_red hi (show c < 256 by omega) s5 (fun ho => ?_) (fun ho => ?_)
      · rw [ck_if_t ho] at h
        exact h _ _ _ _ _ _ _ rfl hp0 (fun z => absurd z (by decide))
      · rw [ck_if_f ho] at h
        obtain ⟨a, ha, ea⟩ := (ck_out_or (a_stepA i) (n := p.length) (by have := (xc_ch_len s5).2; omega)).resolve_left ho |>.2
        rw [ea, nI_clamp (show a < 2 ^ 31 by have := (xc_ch_len s5).2; omega)] at h ⊢
        have hent := xc_ch_get s5 (p.length - 1 - a) (by omega)
        refine xj_conn hw hb hM (show c < 256 by omega) s4 (by omega) hent.2 ?_
        refine h _ _ _ _ _ _ _ rfl hp0 (fun _ => ⟨rfl, ?_, ?_⟩)
        · try dsimp only
          omega
        · exact xc_stk_fr (by omega) (fun _ _ => ⟨rfl, rfl, rfl⟩) (fun _ _ => ⟨rfl, rfl⟩) s6
end
section
variable {f_litCount f_clauseCount f_stepCount f_bufferSealed f_lastCheckStep f_keptCount f_proofKept f_openCount f_universeSize f_neededInstances f_givenLiterals : Int32} {a_litSign a_litPred a_litArg0 a_litArg1 a_clauseStart a_predArity a_stepKind a_stepA a_stepB a_binding a_keptKind a_keptA a_keptB a_keptInstance a_openCopy a_openLit a_parentCopy a_parentLit a_pathLength a_atomBase a_instanceLits a_instanceHolds a_literalHolds a_restInstances a_pathLiterals : Nat → Int32}
theorem xk_loop {post : Int32 → St1 → Prop} {nc nl ns : Nat} {st : Nat → Nat} (hw : cd_wf nc nl st a_litSign a_litPred a_litArg0 a_litArg1 a_predArity)
    (hcs : ∀ c, c ≤ nc → a_clauseStart c = nI (st c)) {b : Nat → Nat} (hb : cr_bx b a_binding) (hns : ns ≤ 256) : ∀ (r i : Nat) (L : List ck_G) (x0 ls : Int32) (oc ol pc pl ph : Nat → Int32), i + r = ns → 1 ≤ i → ph 0 = 0 →
    x0 = nI L.length → L.length ≤ i + 2 → xc_stk oc ol pc pl ph (st nc) i L →
    (∀ (x0 : Int32) (oc ol pc pl ph : Nat → Int32), ph 0 = 0 →
      post (ck_go nc st (cd_mk (st nc) a_litSign) (cd_mk (st nc) a_litPred) (cd_mk (st nc) a_litArg0) (cd_mk (st nc) a_litArg1) a_stepKind a_stepA a_stepB b r i L).1
        (nI nl, nI nc, nI ns, f_bufferSealed, (ck_go nc st (cd_mk (st nc) a_litSign) (cd_mk (st nc) a_litPred) (cd_mk (st nc) a_litArg0) (cd_mk (st nc) a_litArg1) a_stepKind a_stepA a_stepB b r i L).2, f_keptCount, f_proofKept, x0, f_universeSize, f_neededInstances, f_givenLiterals, a_litSign, a_litPred, a_litArg0, a_litArg1, a_clauseStart, a_predArity, a_stepKind, a_stepA, a_stepB, a_binding, a_keptKind, a_keptA, a_keptB, a_keptInstance, oc, ol, pc, pl, ph, a_atomBase, a_instanceLits, a_instanceHolds, a_literalHolds, a_restInstances, a_pathLiterals)) →
    wX_check_12 post (r + 1) 0 (nI i) (nI nl) (nI nc) (nI ns) f_bufferSealed ls f_keptCount f_proofKept x0 f_universeSize f_neededInstances f_givenLiterals a_litSign a_litPred a_litArg0 a_litArg1 a_clauseStart a_predArity a_stepKind a_stepA a_stepB a_binding a_keptKind a_keptA a_keptB a_keptInstance oc ol pc pl ph a_atomBase a_instanceLits a_instanceHolds a_literalHolds a_restInstances a_pathLiterals
  | 0, i, L, x0, ls, oc, ol, pc, pl, ph, hir, h1, hp0, ex, hlen, hL, h => by
    have ei : i = ns := by omega
    subst ei
    refine br_t (nI_le (Nat.le_refl i) (by omega)) (br_t rfl ?_)
    unfold ck_go at h
    subst ex
    match L, h with
    | [], h => exact br_t (by decide) (h _ _ _ _ _ _ hp0)
    | g :: R, h => exact br_f (nI_nle (by rw [List.length_cons]; omega) (by rw [List.length_cons] at hlen ⊢; omega)) (h _ _ _ _ _ _ hp0)
  | r + 1, i, L, x0, ls, oc, ol, pc, pl, ph, hir, h1, hp0, ex, hlen, hL, h => by
    subst ex
    refine br_f (nI_ge (show i < ns by omega) (by omega)) (br_t rfl ?_)
    refine xj_step hw hcs hb h1 (by omega) hp0 hL hlen (fun rr x0' oc' ol' pc' pl' ph' er hp0' hz => nm_r (nI_1 i) ?_)
    rw [ck_go] at h
    by_cases z : (ck_step nc st (cd_mk (st nc) a_litSign) (cd_mk (st nc) a_litPred) (cd_mk (st nc) a_litArg0) (cd_mk (st nc) a_litArg1) a_stepKind a_stepA a_stepB b i L).1 = 0
    · rw [if_pos z] at h
      have er0 : rr = 0 := er.trans z
      subst er0
      obtain ⟨z1, z2, z3⟩ := hz rfl
      exact xk_loop hw hcs hb hns r (i + 1) _ _ _ oc' ol' pc' pl' ph' (by omega) (by omega) hp0' z1 (by omega) z3 h
    · rw [if_neg z] at h
      have hne : ¬ rr = 0 := fun e => z (er.symm.trans e)
      have fin : wX_check_41 post rr (nI nl) (nI nc) (nI ns) f_bufferSealed (nI i) f_keptCount f_proofKept x0' f_universeSize f_neededInstances f_givenLiterals a_litSign a_litPred a_litArg0 a_litArg1 a_clauseStart a_predArity a_stepKind a_stepA a_stepB a_binding a_keptKind a_keptA a_keptB a_keptInstance oc' ol' pc' pl' ph' a_atomBase a_instanceLits a_instanceHolds a_literalHolds a_restInstances a_pathLiterals := by
        refine br_f hne ?_
        rw [er]
        exact h _ _ _ _ _ _ hp0'
      exact br_c (fun _ => fin) (fun _ => br_f hne fin)
theorem xk_check {post : Int32 → St1 → Prop} {nc nl ns : Nat} {st : Nat → Nat} (hw : cd_wf nc nl st a_litSign a_litPred a_litArg0 a_litArg1 a_predArity)
    (hcs : ∀ c, c ≤ nc → a_clauseStart c = nI (st c)) {b : Nat → Nat} (hb : cr_bx b a_binding) (hns : ns ≤ 256) (hp0 : a_pathLength 0 = 0)
    (h : ∀ (x0 : Int32) (oc ol pc pl ph : Nat → Int32), ph 0 = 0 →
      post (ck_all nc st (cd_mk (st nc) a_litSign) (cd_mk (st nc) a_litPred) (cd_mk (st nc) a_litArg0) (cd_mk (st nc) a_litArg1) a_stepKind a_stepA a_stepB b ns).1
        (nI nl, nI nc, nI ns, f_bufferSealed, (ck_all nc st (cd_mk (st nc) a_litSign) (cd_mk (st nc) a_litPred) (cd_mk (st nc) a_litArg0) (cd_mk (st nc) a_litArg1) a_stepKind a_stepA a_stepB b ns).2, f_keptCount, f_proofKept, x0, f_universeSize, f_neededInstances, f_givenLiterals, a_litSign, a_litPred, a_litArg0, a_litArg1, a_clauseStart, a_predArity, a_stepKind, a_stepA, a_stepB, a_binding, a_keptKind, a_keptA, a_keptB, a_keptInstance, oc, ol, pc, pl, ph, a_atomBase, a_instanceLits, a_instanceHolds, a_literalHolds, a_restInstances, a_pathLiterals)) :
    wpX_check post (nI nl, nI nc, nI ns, f_bufferSealed, f_lastCheckStep, f_keptCount, f_proofKept, f_openCount, f_universeSize, f_neededInstances, f_givenLiterals, a_litSign, a_litPred, a_litArg0, a_litArg1, a_clauseStart, a_predArity, a_stepKind, a_stepA, a_stepB, a_binding, a_keptKind, a_keptA, a_keptB, a_keptInstance, a_openCopy, a_openLit, a_parentCopy, a_parentLit, a_pathLength, a_atomBase, a_instanceLits, a_instanceHolds, a_literalHolds, a_restInstances, a_pathLiterals) := by
  have hM := hw.2.2.2.2.1
  have hnl := hw.2.1
  have hnc := hw.1
  -- a verdict of the start
  have bad : ∀ (r : Int32), ¬ r = 0 → post r (nI nl, nI nc, nI ns, f_bufferSealed, 0, f_keptCount, f_proofKept, f_openCount, f_universeSize, f_neededInstances, f_givenLiterals, a_litSign, a_litPred, a_litArg0, a_litArg1, a_clauseStart, a_predArity, a_stepKind, a_stepA, a_stepB, a_binding, a_keptKind, a_keptA, a_keptB, a_keptInstance, a_openCopy, a_openLit, a_parentCopy, a_parentLit, a_pathLength, a_atomBase, a_instanceLits, a_instanceHolds, a_literalHolds, a_restInstances, a_pathLiterals) → ∃ n12 : Nat, wX_check_12 post n12 r 1 (nI nl) (nI nc) (nI ns) f_bufferSealed 0 f_keptCount f_proofKept f_openCount f_universeSize f_neededInstances f_givenLiterals a_litSign a_litPred a_litArg0 a_litArg1 a_clauseStart a_predArity a_stepKind a_stepA a_stepB a_binding a_keptKind a_keptA a_keptB a_keptInstance a_openCopy a_openLit a_parentCopy a_parentLit a_pathLength a_atomBase a_instanceLits a_instanceHolds a_literalHolds a_restInstances a_pathLiterals := by
    intro r hr hh
    exact ⟨1, br_c (fun _ => br_f hr hh) (fun _ => br_f hr (br_f hr hh))⟩
  unfold ck_all at h
  by_cases e0 : ns = 0
  · rw [if_pos e0] at h
    subst e0
    exact br_t rfl (bad _ (by decide) (h _ _ _ _ _ _ hp0))
  · rw [if_neg e0] at h
    refine br_f (nI_ne0 (by omega) (by omega)) ?_
    refine br_c (fun k0 => ?_) (fun k0 => ?_)
    · rw [if_pos k0] at h
      refine nm_e ?_
      refine xj_isC (fun ho => ?_) (fun ho => ?_)
      · rw [ck_if_t ho] at h
        exact br_t rfl (bad _ (by decide) (h _ _ _ _ _ _ hp0))
      · rw [ck_if_f ho] at h
        refine br_f (by decide) ?_
        obtain ⟨a, ha, ea⟩ := (ck_out_or (a_stepA 0) (n := nc) (by omega)).resolve_left ho |>.2
        rw [ea, nI_clamp (show a < 2 ^ 31 by omega)] at h
        rw [ea]
        obtain ⟨b1, b2, b3⟩ := cd_en_bd hw (show a ≤ nc by omega)
        rw [cd_en_lt ha] at b1 b2 b3
        have hst : st (a + 1) ≤ st nc := cd_mono' hw (by omega) (Nat.le_refl _)
        refine xl_len hw hcs (by omega) ?_
        rw [cd_en_lt ha]
        refine ⟨vp_in_nI (by omega) (by decide), ?_⟩
        rw [nI_clamp (show a < 2 ^ 31 by omega), hcs a (by omega)]
        have lsl : (xg_ls 16 (st (a + 1) - st a) (st a)).length ≤ 3 := by
          have := ck_gl_len (copy := 0) (sk := 16) (p := []) (st (a + 1) - st a) (st a)
          rw [xg_gl, List.length_map] at this
          omega
        refine xg_open (base := 0) (sk := 16) (fun j hj1 hj2 => ?_) (by omega) (by omega) (fun oc ol hag hrep => ?_)
        · constructor
          · intro z
            have := congrArg Int32.toInt z
            rw [nI_toInt (by omega), show (-1 : Int32).toInt = -1 from by decide] at this
            omega
          · intro z
            omega
        · refine ⟨ns - 1 + 1, ?_⟩
          refine xk_loop hw hcs hb hns (ns - 1) 1 (ck_gl 0 16 [] (st (a + 1) - st a) (st a)) _ _ oc ol _ _ _ (by omega) (by omega) hp0 ?_ ?_ ?_ h
          · rw [xg_gl, List.length_map, Nat.zero_add]
          · rw [xg_gl, List.length_map]
            omega
          · rw [xg_gl, ← List.append_nil ((xg_ls 16 (st (a + 1) - st a) (st a)).map (fun l => ((0, l, []) : ck_G)))]
            have hch : xc_ch a_parentCopy a_parentLit a_pathLength (st nc) [] 0 := hp0
            refine xc_stk_app (R := []) (by omega) hch trivial (fun l' hl' => ?_) hrep
            have := xg_ls_mem hl'
            omega
    · rw [if_neg k0] at h
      exact bad _ (by decide) (h _ _ _ _ _ _ hp0)
end
