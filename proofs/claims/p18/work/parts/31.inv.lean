/-! what holds of the object between the law's turns -/
def lj_buf (nc : Nat) (st : Nat → Nat) (sg pr a0 a1 : Nat → Int32) (sl : Int32) (ns : Nat) (xK xA xB bd : Nat → Int32) : Prop :=
  ns ≤ 256 ∧ ∃ b, cr_bx b bd ∧ (sl = 0 ∨ (sl = 1 ∧ cr_ok nc st sg pr a0 a1 xK xA xB b ns))
def lj_kept (nc : Nat) (st : Nat → Nat) (sg pr a0 a1 : Nat → Int32) (kp : Int32) (kc : Nat) (kK kA kB kI : Nat → Int32) : Prop :=
  kp = 0 ∨ (kp = 1 ∧ cr_kx nc st sg pr a0 a1 kc kK kA kB kI)
def lj_Q (nc nl : Nat) (st : Nat → Nat) (sl kp : Int32) (ns kc : Nat) (sg pr a0 a1 ar cs ow xK xA xB bd kK kA kB kI lh ph : Nat → Int32) : Prop :=
  cr_cls nc nl st cs ow sg pr a0 a1 ar ∧ cr_fix lh ph ∧ lj_buf nc st sg pr a0 a1 sl ns xK xA xB bd ∧ lj_kept nc st sg pr a0 a1 kp kc kK kA kB kI
theorem lj_sl {nc : Nat} {st : Nat → Nat} {sg pr a0 a1 : Nat → Int32} {sl : Int32} {ns : Nat} {xK xA xB bd : Nat → Int32} (h : lj_buf nc st sg pr a0 a1 sl ns xK xA xB bd) : sl = 0 ∨ sl = 1 := by
  obtain ⟨_, _, _, h | h⟩ := h
  · exact Or.inl h
  · exact Or.inr h.1
theorem lj_kp {nc : Nat} {st : Nat → Nat} {sg pr a0 a1 : Nat → Int32} {kp : Int32} {kc : Nat} {kK kA kB kI : Nat → Int32} (h : lj_kept nc st sg pr a0 a1 kp kc kK kA kB kI) : kp = 0 ∨ kp = 1 := by
  rcases h with h | h
  · exact Or.inl h
  · exact Or.inr h.1
theorem lj_buf0 {nc : Nat} {st : Nat → Nat} {sg pr a0 a1 xK xA xB bd : Nat → Int32} : lj_buf nc st sg pr a0 a1 0 0 xK xA xB (xe_fill 514 bd) :=
  ⟨Nat.zero_le _, _, cr_bx_id bd, Or.inl rfl⟩
theorem lj_buf_u {nc nc' : Nat} {st st' : Nat → Nat} {sg pr a0 a1 sg' pr' a0' a1' xK xA xB bd : Nat → Int32} {ns : Nat} (h : lj_buf nc st sg pr a0 a1 0 ns xK xA xB bd) : lj_buf nc' st' sg' pr' a0' a1' 0 ns xK xA xB bd := by
  obtain ⟨h1, b, hb, _⟩ := h
  exact ⟨h1, b, hb, Or.inl rfl⟩
theorem lj_buf_add {nc nl : Nat} {st : Nat → Nat} {sg pr a0 a1 : Nat → Int32} {v1 v2 v3 v4 : Int32} {sl : Int32} {ns : Nat} {xK xA xB bd : Nat → Int32} (hM : st nc ≤ nl)
    (h : lj_buf nc st sg pr a0 a1 sl ns xK xA xB bd) : lj_buf nc st (upd sg nl v1) (upd pr nl v2) (upd a0 nl v3) (upd a1 nl v4) sl ns xK xA xB bd := by
  unfold lj_buf cr_ok at h ⊢
  rw [cd_mk_upd hM, cd_mk_upd hM, cd_mk_upd hM, cd_mk_upd hM]
  exact h
theorem lj_kept_add {nc nl : Nat} {st : Nat → Nat} {sg pr a0 a1 : Nat → Int32} {v1 v2 v3 v4 : Int32} {kp : Int32} {kc : Nat} {kK kA kB kI : Nat → Int32} (hM : st nc ≤ nl)
    (h : lj_kept nc st sg pr a0 a1 kp kc kK kA kB kI) : lj_kept nc st (upd sg nl v1) (upd pr nl v2) (upd a0 nl v3) (upd a1 nl v4) kp kc kK kA kB kI := by
  unfold lj_kept cr_kx at h ⊢
  rw [cd_mk_upd hM, cd_mk_upd hM, cd_mk_upd hM, cd_mk_upd hM]
  exact h
section
variable {nc nl : Nat} {st : Nat → Nat} {sl kp ls : Int32} {ns kc : Nat} {sg pr a0 a1 ar cs ow xK xA xB bd kK kA kB kI lh ph : Nat → Int32} {w0 w1 w2 w3 : Int32} {X0 X1 X2 X3 X4 X5 X6 X7 X8 : Nat → Int32}
theorem lm_endClause {post : Int32 → St1 → Prop} (Q : lj_Q nc nl st sl kp ns kc sg pr a0 a1 ar cs ow xK xA xB bd kK kA kB kI lh ph) (h : ∀ (r : Int32) {nc nl : Nat} {st : Nat → Nat} {sl kp ls : Int32} {ns kc : Nat} {sg pr a0 a1 ar cs ow xK xA xB bd kK kA kB kI lh ph : Nat → Int32} {w0 w1 w2 w3 : Int32} {X0 X1 X2 X3 X4 X5 X6 X7 X8 : Nat → Int32}, lj_Q nc nl st sl kp ns kc sg pr a0 a1 ar cs ow xK xA xB bd kK kA kB kI lh ph → post r (nI nl, nI nc, nI ns, sl, ls, nI kc, kp, w0, w1, w2, w3, sg, pr, a0, a1, cs, ar, xK, xA, xB, bd, kK, kA, kB, kI, X0, X1, X2, X3, ph, X4, X5, X6, lh, X7, X8)) : wpX_endClause post (nI nl, nI nc, nI ns, sl, ls, nI kc, kp, w0, w1, w2, w3, sg, pr, a0, a1, cs, ar, xK, xA, xB, bd, kK, kA, kB, kI, X0, X1, X2, X3, ph, X4, X5, X6, lh, X7, X8) := by
  obtain ⟨h1, h2, h3, h4⟩ := id Q
  have hnc := h1.1.1
  by_cases hc : nc < 8
  · refine br_t (nI_lt (b := 8) hc (by decide)) ?_
    refine nm_r (nI_1 nc) ⟨vp_in_nI (by omega) (by decide), ?_⟩
    rw [nI_clamp (show nc + 1 < 2 ^ 31 by omega)]
    refine nm_e ?_
    have hcl := cr_cls_end h1 hc
    rcases lj_sl h3 with rfl | rfl
    · refine xe_forget (fun _ => ?_) (fun e => absurd rfl e)
      exact h _ (nc := nc + 1) ⟨hcl, h2, lj_buf_u h3, Or.inl rfl⟩
    · refine xe_forget (fun e => absurd e (by decide)) (fun _ => ?_)
      exact h _ (nc := nc + 1) (ns := 0) ⟨hcl, h2, lj_buf0, Or.inl rfl⟩
  · have e8 : nc = 8 := by omega
    subst e8
    exact br_f (nI_nlt (b := 8) (a := 8) (Nat.le_refl _) (by decide)) (h _ Q)
theorem lm_addLiteral {post : Int32 → St1 → Prop} (v1 v2 v3 v4 : Int32) (Q : lj_Q nc nl st sl kp ns kc sg pr a0 a1 ar cs ow xK xA xB bd kK kA kB kI lh ph) (h : ∀ (r : Int32) {nc nl : Nat} {st : Nat → Nat} {sl kp ls : Int32} {ns kc : Nat} {sg pr a0 a1 ar cs ow xK xA xB bd kK kA kB kI lh ph : Nat → Int32} {w0 w1 w2 w3 : Int32} {X0 X1 X2 X3 X4 X5 X6 X7 X8 : Nat → Int32}, lj_Q nc nl st sl kp ns kc sg pr a0 a1 ar cs ow xK xA xB bd kK kA kB kI lh ph → post r (nI nl, nI nc, nI ns, sl, ls, nI kc, kp, w0, w1, w2, w3, sg, pr, a0, a1, cs, ar, xK, xA, xB, bd, kK, kA, kB, kI, X0, X1, X2, X3, ph, X4, X5, X6, lh, X7, X8)) : wpX_addLiteral post (nI nl, nI nc, nI ns, sl, ls, nI kc, kp, w0, w1, w2, w3, sg, pr, a0, a1, cs, ar, xK, xA, xB, bd, kK, kA, kB, kI, X0, X1, X2, X3, ph, X4, X5, X6, lh, X7, X8) v1 v2 v3 v4 := by
  obtain ⟨h1, h2, h3, h4⟩ := id Q
  obtain ⟨hw, hcs, how⟩ := id h1
  obtain ⟨w1', w2', w3', w4', w5, w6, w7, w8⟩ := id hw
  refine xa_add (fun hz => h _ Q) (fun hz => ?_)
  by_cases hc : nc < 8
  · refine br_t (nI_lt (b := 8) hc (by decide)) ⟨vp_in_nI (by omega) (by decide), ?_⟩
    rw [nI_clamp (show nc < 2 ^ 31 by omega), hcs nc (Nat.le_refl _), pk_sub w5]
    refine pk_le 3 (nl - st nc) (fun e3 => h _ Q) (fun e3 => ?_)
    refine pk_lt nl 16 (fun e16 => ?_) (fun e16 => h _ Q)
    obtain ⟨p, hp, ep⟩ := hz.2.1
    subst ep
    have hin : vp_in (nI p) 4 := vp_in_nI hp (by decide)
    have hil : vp_in (nI nl) 16 := vp_in_nI e16 (by decide)
    have cp : (nI p).toNatClampNeg = p := nI_clamp (by omega)
    have cl : (nI nl).toNatClampNeg = nl := nI_clamp (by omega)
    have good : (ar p = -1 ∨ ar p = nI (ck_ar v3 v4)) → wX_addLiteral_132 post v1 (nI p) v3 v4 (nI (ck_ar v3 v4)) (nI nl) (nI nc) (nI ns) sl ls (nI kc) kp w0 w1 w2 w3 sg pr a0 a1 cs ar xK xA xB bd kK kA kB kI X0 X1 X2 X3 ph X4 X5 X6 lh X7 X8 := by
      intro har
      have hcl := cr_cls_add h1 hz hp hc (by omega) e16 har
      unfold wX_addLiteral_132
      rw [cp, cl]
      refine ⟨hin, nm_e ⟨hil, nm_e ⟨hil, nm_e ⟨hil, nm_e ⟨hil, nm_e (nm_r (nI_1 nl) ?_)⟩⟩⟩⟩⟩
      exact h _ (nl := nl + 1) ⟨hcl, h2, lj_buf_add w5 h3, lj_kept_add w5 h4⟩
    refine xa_arity ⟨hin, ?_⟩
    rw [cp]
    exact br_c (fun e => good (Or.inl e)) (fun e => ⟨hin, br_c (fun e2 => good (Or.inr e2)) (fun e2 => h _ Q)⟩)
  · have e8 : nc = 8 := by omega
    subst e8
    exact br_f (nI_nlt (b := 8) (a := 8) (Nat.le_refl _) (by decide)) (h _ Q)
theorem lm_clearProof {post : St1 → Prop} (Q : lj_Q nc nl st sl kp ns kc sg pr a0 a1 ar cs ow xK xA xB bd kK kA kB kI lh ph) (h : ∀ {nc nl : Nat} {st : Nat → Nat} {sl kp ls : Int32} {ns kc : Nat} {sg pr a0 a1 ar cs ow xK xA xB bd kK kA kB kI lh ph : Nat → Int32} {w0 w1 w2 w3 : Int32} {X0 X1 X2 X3 X4 X5 X6 X7 X8 : Nat → Int32}, lj_Q nc nl st sl kp ns kc sg pr a0 a1 ar cs ow xK xA xB bd kK kA kB kI lh ph → post (nI nl, nI nc, nI ns, sl, ls, nI kc, kp, w0, w1, w2, w3, sg, pr, a0, a1, cs, ar, xK, xA, xB, bd, kK, kA, kB, kI, X0, X1, X2, X3, ph, X4, X5, X6, lh, X7, X8)) : wpX_clearProof post (nI nl, nI nc, nI ns, sl, ls, nI kc, kp, w0, w1, w2, w3, sg, pr, a0, a1, cs, ar, xK, xA, xB, bd, kK, kA, kB, kI, X0, X1, X2, X3, ph, X4, X5, X6, lh, X7, X8) := by
  obtain ⟨h1, h2, h3, h4⟩ := id Q
  unfold wpX_clearProof
  dsimp only
  refine xe_empty (post := fun u' => post u') ?_
  exact h (ns := 0) ⟨h1, h2, lj_buf0, h4⟩
theorem lm_clearClauses {post : St1 → Prop} (Q : lj_Q nc nl st sl kp ns kc sg pr a0 a1 ar cs ow xK xA xB bd kK kA kB kI lh ph) (h : ∀ {nc nl : Nat} {st : Nat → Nat} {sl kp ls : Int32} {ns kc : Nat} {sg pr a0 a1 ar cs ow xK xA xB bd kK kA kB kI lh ph : Nat → Int32} {w0 w1 w2 w3 : Int32} {X0 X1 X2 X3 X4 X5 X6 X7 X8 : Nat → Int32}, lj_Q nc nl st sl kp ns kc sg pr a0 a1 ar cs ow xK xA xB bd kK kA kB kI lh ph → post (nI nl, nI nc, nI ns, sl, ls, nI kc, kp, w0, w1, w2, w3, sg, pr, a0, a1, cs, ar, xK, xA, xB, bd, kK, kA, kB, kI, X0, X1, X2, X3, ph, X4, X5, X6, lh, X7, X8)) : wpX_clearClauses post (nI nl, nI nc, nI ns, sl, ls, nI kc, kp, w0, w1, w2, w3, sg, pr, a0, a1, cs, ar, xK, xA, xB, bd, kK, kA, kB, kI, X0, X1, X2, X3, ph, X4, X5, X6, lh, X7, X8) := by
  obtain ⟨⟨hw, hcs, how⟩, h2, h3, h4⟩ := id Q
  have e0 : cs 0 = nI 0 := by rw [hcs 0 (Nat.zero_le _), hw.2.2.1]
  have hwf : cr_cls 0 0 (fun _ => 0) cs ow sg pr a0 a1 (xe_m1 4 ar) := by
    refine ⟨⟨Nat.zero_le _, Nat.zero_le _, rfl, fun c hc => absurd hc (Nat.not_lt_zero c), Nat.zero_le _, Nat.zero_le _, fun j hj => absurd hj (Nat.not_lt_zero j), fun p hp => Or.inl (if_pos hp)⟩, fun c hc => ?_, fun j hj => absurd hj (Nat.not_lt_zero j)⟩
    have : c = 0 := by omega
    rw [this]
    exact e0
  unfold wpX_clearClauses
  dsimp only
  refine xe_remove (post := fun u => wpX_forgetProofs (fun u' => post u') u) ?_
  rcases lj_sl h3 with rfl | rfl
  · refine xe_forget (fun _ => ?_) (fun e => absurd rfl e)
    exact h (nl := 0) (nc := 0) (st := fun _ => 0) ⟨hwf, h2, lj_buf_u h3, Or.inl rfl⟩
  · refine xe_forget (fun e => absurd e (by decide)) (fun _ => ?_)
    exact h (nl := 0) (nc := 0) (st := fun _ => 0) (ns := 0) ⟨hwf, h2, lj_buf0, Or.inl rfl⟩
theorem lm_addStep {post : Int32 → St1 → Prop} (v1 v2 v3 : Int32) (Q : lj_Q nc nl st sl kp ns kc sg pr a0 a1 ar cs ow xK xA xB bd kK kA kB kI lh ph) (h : ∀ (r : Int32) {nc nl : Nat} {st : Nat → Nat} {sl kp ls : Int32} {ns kc : Nat} {sg pr a0 a1 ar cs ow xK xA xB bd kK kA kB kI lh ph : Nat → Int32} {w0 w1 w2 w3 : Int32} {X0 X1 X2 X3 X4 X5 X6 X7 X8 : Nat → Int32}, lj_Q nc nl st sl kp ns kc sg pr a0 a1 ar cs ow xK xA xB bd kK kA kB kI lh ph → post r (nI nl, nI nc, nI ns, sl, ls, nI kc, kp, w0, w1, w2, w3, sg, pr, a0, a1, cs, ar, xK, xA, xB, bd, kK, kA, kB, kI, X0, X1, X2, X3, ph, X4, X5, X6, lh, X7, X8)) : wpX_addStep post (nI nl, nI nc, nI ns, sl, ls, nI kc, kp, w0, w1, w2, w3, sg, pr, a0, a1, cs, ar, xK, xA, xB, bd, kK, kA, kB, kI, X0, X1, X2, X3, ph, X4, X5, X6, lh, X7, X8) v1 v2 v3 := by
  obtain ⟨h1, h2, h3, h4⟩ := id Q
  rcases lj_sl h3 with rfl | rfl
  · refine br_t rfl ?_
    refine br_c (fun e => h _ Q) (fun e1 => br_c (fun e2 => ?_) (fun e2 => h _ Q))
    have hns := h3.1
    refine pk_lt ns 256 (fun hlt => ?_) (fun hge => h _ Q)
    have hin : vp_in (nI ns) 256 := vp_in_nI hlt (by decide)
    have cl : (nI ns).toNatClampNeg = ns := nI_clamp (by omega)
    rw [cl]
    refine ⟨hin, nm_e ⟨hin, nm_e ⟨hin, nm_e (nm_r (nI_1 ns) ?_)⟩⟩⟩
    obtain ⟨_, b, hb, _⟩ := h3
    exact h _ (ns := ns + 1) ⟨h1, h2, ⟨by omega, b, hb, Or.inl rfl⟩, h4⟩
  · exact br_f (by decide) (h _ Q)
theorem lm_bind {post : Int32 → St1 → Prop} (v1 v2 v3 v4 : Int32) (Q : lj_Q nc nl st sl kp ns kc sg pr a0 a1 ar cs ow xK xA xB bd kK kA kB kI lh ph) (h : ∀ (r : Int32) {nc nl : Nat} {st : Nat → Nat} {sl kp ls : Int32} {ns kc : Nat} {sg pr a0 a1 ar cs ow xK xA xB bd kK kA kB kI lh ph : Nat → Int32} {w0 w1 w2 w3 : Int32} {X0 X1 X2 X3 X4 X5 X6 X7 X8 : Nat → Int32}, lj_Q nc nl st sl kp ns kc sg pr a0 a1 ar cs ow xK xA xB bd kK kA kB kI lh ph → post r (nI nl, nI nc, nI ns, sl, ls, nI kc, kp, w0, w1, w2, w3, sg, pr, a0, a1, cs, ar, xK, xA, xB, bd, kK, kA, kB, kI, X0, X1, X2, X3, ph, X4, X5, X6, lh, X7, X8)) : wpX_bind post (nI nl, nI nc, nI ns, sl, ls, nI kc, kp, w0, w1, w2, w3, sg, pr, a0, a1, cs, ar, xK, xA, xB, bd, kK, kA, kB, kI, X0, X1, X2, X3, ph, X4, X5, X6, lh, X7, X8) v1 v2 v3 v4 := by
  obtain ⟨h1, h2, h3, h4⟩ := id Q
  rcases lj_sl h3 with rfl | rfl
  · refine xb_bind (fun hz => h _ Q) (fun hz => ?_)
    obtain ⟨⟨c, hc, rfl⟩, hw, ⟨t, ht, rfl⟩, hd⟩ := hz
    obtain ⟨w, hw2, rfl⟩ : ∃ w, (w = 2 ∨ w = 3) ∧ v2 = nI w := by
      rcases hw with e | e
      · exact ⟨2, Or.inl rfl, e⟩
      · exact ⟨3, Or.inr rfl, e⟩
    have hw3 : 2 ≤ w ∧ w ≤ 3 := by omega
    have eX : (2 : Int32) * nI c + nI w = nI (2 * c + w) := by
      rw [show (2 : Int32) = nI 2 from rfl, pk_mul, nI_add]
    have inX : vp_in (nI (2 * c + w)) 514 := vp_in_nI (by omega) (by decide)
    have cX : (nI (2 * c + w)).toNatClampNeg = 2 * c + w := nI_clamp (by omega)
    obtain ⟨hn, b, hb, _⟩ := h3
    by_cases hlt : t < 2
    · have n2 : nI t < 2 := nI_lt (b := 2) hlt (by decide)
      refine br_t n2 ?_
      rw [eX, cX]
      refine ⟨inX, nm_e ?_⟩
      exact h _ ⟨h1, h2, ⟨hn, _, cr_bx_put hb (by omega) (by omega), Or.inl rfl⟩, h4⟩
    · have n2 : ¬ nI t < 2 := nI_nlt (b := 2) (by omega) (by omega)
      obtain ⟨d, hd2, rfl⟩ := hd n2
      have eT : (2 : Int32) * nI d + nI t = nI (2 * d + t) := by
        rw [show (2 : Int32) = nI 2 from rfl, pk_mul, nI_add]
      refine br_f n2 ?_
      rw [eX, cX, eT]
      refine ⟨inX, nm_e ?_⟩
      exact h _ ⟨h1, h2, ⟨hn, _, cr_bx_put hb (by omega) (by omega), Or.inl rfl⟩, h4⟩
  · exact br_f (by decide) (h _ Q)
/-- the check: its answer with its step; valid if sealed; if valid, the clauses are refuted -/
theorem lm_check {post : Int32 → St1 → Prop} (Q : lj_Q nc nl st sl kp ns kc sg pr a0 a1 ar cs ow xK xA xB bd kK kA kB kI lh ph)
    (h : ∀ (r ls' x0 : Int32) (oc ol pc pl ph' : Nat → Int32), (sl = 1 → r = 0) → (r = 0 → ls' = -1 ∧ ¬ cq_sat (cg_HX nc st sg pr a0 a1 ar) (cg_RX nc st a0 a1) (fun _ => False)) → lj_Q nc nl st sl kp ns kc sg pr a0 a1 ar cs ow xK xA xB bd kK kA kB kI lh ph' → post r (nI nl, nI nc, nI ns, sl, ls', nI kc, kp, x0, w1, w2, w3, sg, pr, a0, a1, cs, ar, xK, xA, xB, bd, kK, kA, kB, kI, oc, ol, pc, pl, ph', X4, X5, X6, lh, X7, X8)) :
    wpX_check post (nI nl, nI nc, nI ns, sl, ls, nI kc, kp, w0, w1, w2, w3, sg, pr, a0, a1, cs, ar, xK, xA, xB, bd, kK, kA, kB, kI, X0, X1, X2, X3, ph, X4, X5, X6, lh, X7, X8) := by
  obtain ⟨⟨hw, hcs, how⟩, ⟨h2a, h2b⟩, ⟨hns, b, hb, hsl⟩, h4⟩ := id Q
  refine xk_check hw hcs hb hns h2b (fun x0 oc ol pc pl ph' hp0 => ?_)
  refine h _ _ _ _ _ _ _ _ (fun e => ?_) (fun e => ?_) ⟨⟨hw, hcs, how⟩, ⟨h2a, hp0⟩, ⟨hns, b, hb, hsl⟩, h4⟩
  · rcases hsl with z | ⟨_, z⟩
    · rw [z] at e
      exact absurd e (by decide)
    · unfold cr_ok at z
      rw [z]
  · have hall := lk_all1 e
    exact ⟨by rw [hall], sd_all hw hb.1 hb.2.1 hall⟩
end
