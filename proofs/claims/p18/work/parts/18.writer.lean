/-! X's writer: copy j is the ground clause q j -/
def xw_lt (st q : Nat → Nat) (e : Nat × Nat) : Nat := 3 * q e.1 + (e.2 - st (q e.1 / 4))
def xw_in (st q : Nat → Nat) (e : Nat × Nat) : Prop := st (q e.1 / 4) ≤ e.2 ∧ e.2 < st (q e.1 / 4 + 1)
def xw_g (nc : Nat) (st : Nat → Nat) (sg pr a0 a1 ar : Nat → Int32) (q : Nat → Nat) (e : Nat × Nat) : Nat := cg_L sg pr a0 a1 ar (st nc) e.2 (q e.1 / 2 % 2) (q e.1 % 2)
def xw_ch (st q : Nat → Nat) (kK pc pl ph : Nat → Int32) : List (Nat × Nat) → Nat → Prop
  | [], c => ph c = 0
  | e :: p, c => e.1 < c ∧ ¬ kK e.1 = 2 ∧ xw_in st q e ∧ ph c = nI (p.length + 1) ∧ pc c = nI e.1 ∧ pl c = nI (xw_lt st q e) ∧ xw_ch st q kK pc pl ph p e.1
def xw_goal (nc : Nat) (st : Nat → Nat) (sg pr a0 a1 ar : Nat → Int32) (q : Nat → Nat) (kK pc pl ph ri ql : Nat → Int32) (m : Nat) (g : ck_G) : Prop :=
  g.1 < m ∧ ¬ kK g.1 = 2 ∧ xw_in st q (g.1, g.2.1) ∧ xw_ch st q kK pc pl ph g.2.2 g.1 ∧ cq_ok (g.2.2.map (xw_g nc st sg pr a0 a1 ar q)) ∧
  (∀ k, xs_G (ql g.1) k ↔ k ∈ g.2.2.map (xw_g nc st sg pr a0 a1 ar q)) ∧ (∀ r, xs_R (ri g.1) r → cg_RX nc st a0 a1 r) ∧
  cq_goal (cg_HX nc st sg pr a0 a1 ar) (xs_R (ri g.1)) (xs_G (ql g.1)) (xw_g nc st sg pr a0 a1 ar q (g.1, g.2.1))
def xw_stk (nc : Nat) (st : Nat → Nat) (sg pr a0 a1 ar : Nat → Int32) (q : Nat → Nat) (kK pc pl ph ri ql oc ol : Nat → Int32) (m : Nat) : List ck_G → Prop
  | [] => True
  | g :: R => oc R.length = nI g.1 ∧ ol R.length = nI (xw_lt st q (g.1, g.2.1)) ∧ xw_goal nc st sg pr a0 a1 ar q kK pc pl ph ri ql m g ∧ xw_stk nc st sg pr a0 a1 ar q kK pc pl ph ri ql oc ol m R
theorem xw_ch_len {st q : Nat → Nat} {kK pc pl ph : Nat → Int32} : ∀ {p : List (Nat × Nat)} {c : Nat}, xw_ch st q kK pc pl ph p c → ph c = nI p.length ∧ p.length ≤ c
  | [], c, h => ⟨h, Nat.zero_le _⟩
  | e :: p, c, h => by
    have h2 := (xw_ch_len h.2.2.2.2.2.2).2
    have h1 := h.1
    exact ⟨h.2.2.2.1, by rw [List.length_cons]; omega⟩
theorem xw_ch_mem {st q : Nat → Nat} {kK pc pl ph : Nat → Int32} : ∀ {p : List (Nat × Nat)} {c : Nat}, xw_ch st q kK pc pl ph p c → ∀ e, e ∈ p → e.1 < c ∧ ¬ kK e.1 = 2 ∧ xw_in st q e
  | [], _, _, e, he => by cases he
  | x :: p, c, h, e, he => by
    rcases List.mem_cons.mp he with z | z
    · rw [z]
      exact ⟨h.1, h.2.1, h.2.2.1⟩
    · have := xw_ch_mem h.2.2.2.2.2.2 e z
      have h1 := h.1
      exact ⟨by omega, this.2⟩
/-- nothing below m has changed -/
def xw_fr (q q' : Nat → Nat) (kK kK' pc pc' pl pl' ph ph' ri ri' ql ql' : Nat → Int32) (m : Nat) : Prop :=
  ∀ j, j < m → q' j = q j ∧ kK' j = kK j ∧ pc' j = pc j ∧ pl' j = pl j ∧ ph' j = ph j ∧ ri' j = ri j ∧ ql' j = ql j
theorem xw_ch_fr {st q q' : Nat → Nat} {kK kK' pc pc' pl pl' ph ph' ri ri' ql ql' : Nat → Int32} {m : Nat} (hf : xw_fr q q' kK kK' pc pc' pl pl' ph ph' ri ri' ql ql' m) :
    ∀ {p : List (Nat × Nat)} {c : Nat}, c < m → xw_ch st q kK pc pl ph p c → xw_ch st q' kK' pc' pl' ph' p c
  | [], c, hc, h => by
    show ph' c = 0
    rw [(hf c hc).2.2.2.2.1]
    exact h
  | e :: p, c, hc, h => by
    obtain ⟨h1, h2, h3, h4, h5, h6, h7⟩ := h
    obtain ⟨_, _, f3, f4, f5, _⟩ := hf c hc
    obtain ⟨g1, g2, _⟩ := hf e.1 (by omega)
    refine ⟨h1, by rw [g2]; exact h2, ?_, by rw [f5]; exact h4, by rw [f3]; exact h5, ?_, xw_ch_fr hf (by omega) h7⟩
    · unfold xw_in at h3 ⊢
      rw [g1]
      exact h3
    · rw [f4, h6]
      unfold xw_lt
      rw [g1]
theorem xw_map_fr {nc : Nat} {st q q' : Nat → Nat} {sg pr a0 a1 ar : Nat → Int32} {p : List (Nat × Nat)} (h : ∀ e, e ∈ p → q' e.1 = q e.1) : p.map (xw_g nc st sg pr a0 a1 ar q') = p.map (xw_g nc st sg pr a0 a1 ar q) := by
  apply List.map_congr_left
  intro e he
  unfold xw_g
  rw [h e he]
theorem xw_goal_fr {nc : Nat} {st q q' : Nat → Nat} {sg pr a0 a1 ar : Nat → Int32} {kK kK' pc pc' pl pl' ph ph' ri ri' ql ql' : Nat → Int32} {m m' : Nat} (hm : m ≤ m') (hf : xw_fr q q' kK kK' pc pc' pl pl' ph ph' ri ri' ql ql' m) {g : ck_G}
    (h : xw_goal nc st sg pr a0 a1 ar q kK pc pl ph ri ql m g) : xw_goal nc st sg pr a0 a1 ar q' kK' pc' pl' ph' ri' ql' m' g := by
  obtain ⟨h1, h2, h3, h4, h5, h6, h7, h8⟩ := h
  obtain ⟨f1, f2, f3, f4, f5, f6, f7⟩ := hf g.1 h1
  have em := xw_map_fr (nc := nc) (st := st) (sg := sg) (pr := pr) (a0 := a0) (a1 := a1) (ar := ar) (q := q) (q' := q') (p := g.2.2) (fun e he => (hf e.1 (by have := (xw_ch_mem h4 e he).1; omega)).1)
  unfold xw_goal
  rw [f2, f6, f7, em]
  refine ⟨by omega, h2, ?_, xw_ch_fr hf h1 h4, h5, h6, h7, ?_⟩
  · unfold xw_in at h3 ⊢
    try dsimp only at h3 ⊢
    rw [f1]
    exact h3
  · unfold xw_g at h8 ⊢
    try dsimp only at h8 ⊢
    rw [f1]
    exact h8
theorem xw_stk_fr {nc : Nat} {st q q' : Nat → Nat} {sg pr a0 a1 ar : Nat → Int32} {kK kK' pc pc' pl pl' ph ph' ri ri' ql ql' oc oc' ol ol' : Nat → Int32} {m m' : Nat} (hm : m ≤ m') (hf : xw_fr q q' kK kK' pc pc' pl pl' ph ph' ri ri' ql ql' m) :
    ∀ {L : List ck_G}, (∀ j, j < L.length → oc' j = oc j ∧ ol' j = ol j) → xw_stk nc st sg pr a0 a1 ar q kK pc pl ph ri ql oc ol m L → xw_stk nc st sg pr a0 a1 ar q' kK' pc' pl' ph' ri' ql' oc' ol' m' L
  | [], _, _ => trivial
  | g :: R, ho, h => by
    obtain ⟨h1, h2, h3, h4⟩ := h
    obtain ⟨o1, o2⟩ := ho R.length (by rw [List.length_cons]; omega)
    have f1 := (hf g.1 h3.1).1
    refine ⟨by rw [o1]; exact h1, ?_, xw_goal_fr hm hf h3, xw_stk_fr hm hf (fun j hj => ho j (by rw [List.length_cons]; omega)) h4⟩
    rw [o2, h2]
    unfold xw_lt
    try dsimp only
    rw [f1]
theorem xg_ls_shift {sk d : Nat} : ∀ (n j : Nat), xg_ls (sk + d) n (j + d) = (xg_ls sk n j).map (fun l => l + d)
  | 0, _ => rfl
  | n + 1, j => by
    have ih := xg_ls_shift (sk := sk) (d := d) n (j + 1)
    have e : j + 1 + d = j + d + 1 := by omega
    rw [e] at ih
    by_cases z : j = sk
    · rw [xg_ls_t z, xg_ls_t (by omega)]
      exact ih
    · rw [xg_ls_f z, xg_ls_f (by omega), List.map_cons, ih]
theorem xw_stk_app {nc : Nat} {st q : Nat → Nat} {sg pr a0 a1 ar : Nat → Int32} {kK pc pl ph ri ql oc ol : Nat → Int32} {m copy F S : Nat} {p : List (Nat × Nat)} {R : List ck_G}
    (eF : F = 3 * q copy) (eS : S = st (q copy / 4)) (hR : xw_stk nc st sg pr a0 a1 ar q kK pc pl ph ri ql oc ol m R) :
    ∀ {ls : List Nat}, (∀ l, l ∈ ls → xw_goal nc st sg pr a0 a1 ar q kK pc pl ph ri ql m (copy, l + S, p)) → xg_rep oc ol (nI copy) R.length (ls.map (fun l => l + F)) →
      xw_stk nc st sg pr a0 a1 ar q kK pc pl ph ri ql oc ol m ((ls.map (fun l => l + S)).map (fun l => (copy, l, p)) ++ R)
  | [], _, _ => hR
  | l :: ls, hg, hr => by
    have e : ((ls.map (fun l => l + S)).map (fun l => ((copy, l, p) : ck_G)) ++ R).length = R.length + (ls.map (fun l => l + F)).length := by
      rw [List.length_append, List.length_map, List.length_map, List.length_map]; omega
    obtain ⟨r1, r2, r3⟩ := hr
    refine ⟨?_, ?_, hg l List.mem_cons_self, xw_stk_app eF eS hR (fun l' h' => hg l' (List.mem_cons_of_mem l h')) r3⟩
    · show oc ((ls.map (fun l => l + S)).map (fun l => ((copy, l, p) : ck_G)) ++ R).length = nI copy
      rw [e]
      exact r1
    · show ol ((ls.map (fun l => l + S)).map (fun l => ((copy, l, p) : ck_G)) ++ R).length = nI (xw_lt st q (copy, l + S))
      rw [e, r2]
      unfold xw_lt
      try dsimp only
      rw [← eS, eF]
      exact congrArg nI (by omega)
theorem xw_row {nc nl : Nat} {st q : Nat → Nat} {sg pr a0 a1 ar il ih : Nat → Int32} (hw : cd_wf nc nl st sg pr a0 a1 ar) (htab : xi_tab nc st sg pr a0 a1 ar il ih) {e : Nat × Nat} (hX : cg_RX nc st a0 a1 (q e.1)) (hin : xw_in st q e) :
    il (xw_lt st q e) = nI (xw_g nc st sg pr a0 a1 ar q e) ∧ xw_lt st q e < 96 ∧ cg_HX nc st sg pr a0 a1 ar (q e.1) (xw_g nc st sg pr a0 a1 ar q e) ∧ e.2 < st nc := by
  have hnc := hw.1
  obtain ⟨i1, i2⟩ := hin
  have hq := hX.1
  obtain ⟨b1, b2, b3⟩ := cd_en_bd hw (show q e.1 / 4 ≤ nc by omega)
  rw [cd_en_lt (by omega)] at b1 b2 b3
  have hst := cd_mono' hw (c := q e.1 / 4 + 1) (d := nc) (by omega) (Nat.le_refl _)
  have r := (htab _ hX).1 (e.2 - st (q e.1 / 4)) (by omega)
  have e1 : st (q e.1 / 4) + (e.2 - st (q e.1 / 4)) = e.2 := by omega
  rw [e1, if_pos i2] at r
  refine ⟨r, ?_, ⟨e.2, i1, i2, rfl⟩, by omega⟩
  unfold xw_lt
  omega
theorem xw_neg : ∀ K, K < 10 → nI K ^^^ 1 = nI (cq_neg K) := by decide
theorem cq_neg_lt {K : Nat} (h : K < 10) : cq_neg K < 10 := by
  unfold cq_neg; split <;> omega
section
variable {f_litCount f_clauseCount f_stepCount f_bufferSealed f_lastCheckStep f_keptCount f_proofKept f_openCount f_universeSize f_neededInstances f_givenLiterals : Int32} {a_litSign a_litPred a_litArg0 a_litArg1 a_clauseStart a_predArity a_stepKind a_stepA a_stepB a_binding a_keptKind a_keptA a_keptB a_keptInstance a_openCopy a_openLit a_parentCopy a_parentLit a_pathLength a_atomBase a_instanceLits a_instanceHolds a_literalHolds a_restInstances a_pathLiterals : Nat → Int32}
theorem xw_find {post : Int32 → Prop} {nc nl : Nat} {st q : Nat → Nat} {sg pr a0 a1 ar kK : Nat → Int32} (hw : cd_wf nc nl st sg pr a0 a1 ar) (htab : xi_tab nc st sg pr a0 a1 ar a_instanceLits a_instanceHolds)
    (h5 : cg_base pr ar (st nc) (cg_oc a0 a1 0 (st nc) && cg_oc a0 a1 1 (st nc)) 4 ≤ 5) {m : Nat} (hm : m < 10) :
    ∀ (p : List (Nat × Nat)) (c : Nat), xw_ch st q kK a_parentCopy a_parentLit a_pathLength p c → c < 256 → (∀ e, e ∈ p → cg_RX nc st a0 a1 (q e.1)) →
      (∀ n, n < p.length → xw_g nc st sg pr a0 a1 ar q (p.getD n (0, 0)) = m → post (nI (p.length - 1 - n))) → ((∀ e, e ∈ p → ¬ xw_g nc st sg pr a0 a1 ar q e = m) → post (-1)) →
      wX_findOnPath_16 post (nI m) f_litCount f_clauseCount f_stepCount f_bufferSealed f_lastCheckStep f_keptCount f_proofKept f_openCount f_universeSize f_neededInstances f_givenLiterals a_litSign a_litPred a_litArg0 a_litArg1 a_clauseStart a_predArity a_stepKind a_stepA a_stepB a_binding a_keptKind a_keptA a_keptB a_keptInstance a_openCopy a_openLit a_parentCopy a_parentLit a_pathLength a_atomBase a_instanceLits a_instanceHolds a_literalHolds a_restInstances a_pathLiterals (p.length + 1) (nI c) (nI p.length + (-1))
  | [], c, _, _, _, _, h0 => br_t (by decide) (h0 (fun e he => by cases he))
  | e :: p, c, hch, hc, hX, h1, h0 => by
    obtain ⟨c1, c2, c3, c4, c5, c6, c7⟩ := hch
    have hlen := (xw_ch_len c7).2
    obtain ⟨r1, r2, r3, _⟩ := xw_row hw htab (hX e List.mem_cons_self) c3
    have hlt := cg_HX_lt hw h5 (hX e List.mem_cons_self).1 r3
    have hin : vp_in (nI c) 256 := vp_in_nI hc (by decide)
    rw [List.length_cons, pk_m1]
    refine br_f (nI_pos (by omega)) ⟨hin, ?_⟩
    rw [nI_clamp (show c < 2 ^ 31 by omega), c5, c6, nI_clamp (show xw_lt st q e < 2 ^ 31 by omega), r1]
    refine ⟨vp_in_nI r2 (by decide), pk_eq (xw_g nc st sg pr a0 a1 ar q e) m (fun z => ?_) (fun z => ⟨hin, nm_e (nm_e ?_)⟩)⟩
    · have := h1 0 (by rw [List.length_cons]; omega) z
      rw [List.length_cons] at this
      exact this
    · refine xw_find hw htab h5 hm p e.1 c7 (by omega) (fun e' he' => hX e' (List.mem_cons_of_mem e he')) (fun n hn z2 => ?_) (fun hall => h0 (fun e' he' => ?_))
      · have := h1 (n + 1) (by rw [List.length_cons]; omega) (by rw [List.getD_cons_succ]; exact z2)
        rw [List.length_cons] at this
        have e2 : p.length + 1 - 1 - (n + 1) = p.length - 1 - n := by omega
        rw [e2] at this
        exact this
      · rcases List.mem_cons.mp he' with y | y
        · rw [y]
          exact z
        · exact hall e' y
theorem xw_copy {post : St1 → Prop} {i inst : Nat} {x1 x3 : Int32} (hi : i < 256) (hq : inst < 32)
    (h : post (f_litCount, f_clauseCount, f_stepCount, f_bufferSealed, f_lastCheckStep, f_keptCount, f_proofKept, f_openCount, f_universeSize, f_neededInstances, f_givenLiterals, a_litSign, a_litPred, a_litArg0, a_litArg1, a_clauseStart, a_predArity, a_stepKind, a_stepA, a_stepB, a_binding, upd a_keptKind i x1, upd a_keptA i (nI (inst / 4)), upd a_keptB i x3, upd a_keptInstance i (nI inst), a_openCopy, a_openLit, a_parentCopy, a_parentLit, a_pathLength, a_atomBase, a_instanceLits, a_instanceHolds, a_literalHolds, upd a_restInstances i (f_neededInstances &&& (((1 : Int32) <<< (nI inst &&& 31)) ^^^ (-1))), upd a_pathLiterals i f_givenLiterals)) :
    wpX_keepCopy post (f_litCount, f_clauseCount, f_stepCount, f_bufferSealed, f_lastCheckStep, f_keptCount, f_proofKept, f_openCount, f_universeSize, f_neededInstances, f_givenLiterals, a_litSign, a_litPred, a_litArg0, a_litArg1, a_clauseStart, a_predArity, a_stepKind, a_stepA, a_stepB, a_binding, a_keptKind, a_keptA, a_keptB, a_keptInstance, a_openCopy, a_openLit, a_parentCopy, a_parentLit, a_pathLength, a_atomBase, a_instanceLits, a_instanceHolds, a_literalHolds, a_restInstances, a_pathLiterals) (nI i) x1 (nI inst) x3 := by
  have hin : vp_in (nI i) 256 := vp_in_nI hi (by decide)
  have ed : nI inst / 4 = nI (inst / 4) := by
    rw [show (4 : Int32) = nI 4 from rfl, pk_div (by omega) (by omega) (by omega)]
  refine ⟨hin, ?_⟩
  rw [nI_clamp (show i < 2 ^ 31 by omega), ed]
  exact nm_e ⟨by decide, hin, nm_e ⟨hin, nm_e ⟨hin, nm_e ⟨hin, nm_e ⟨hin, nm_e h⟩⟩⟩⟩⟩
end
