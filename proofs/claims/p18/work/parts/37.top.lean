/-! the law's turns -/
theorem lw_10 {post : Int32 → Prop} {L : Nat} {xs : Nat → Int32} {mc ms : Nat} (hL : L ≤ 260) (hp : post 1) : ∀ (n i : Nat), i ≤ L + 1 → L + 2 ≤ 2 * n + i → ∀ {nc nl : Nat} {st : Nat → Nat} {sl kp ls : Int32} {ns kc : Nat} {sg pr a0 a1 ar cs ow xK xA xB bd kK kA kB kI lh ph : Nat → Int32} {w0 w1 w2 w3 : Int32} {X0 X1 X2 X3 X4 X5 X6 X7 X8 : Nat → Int32}, lj_Q nc nl st sl kp ns kc sg pr a0 a1 ar cs ow xK xA xB bd kK kA kB kI lh ph → wL_law_10 post L xs mc ms n (nI i) (nI nl) (nI nc) (nI ns) sl ls (nI kc) kp w0 w1 w2 w3 sg pr a0 a1 cs ar xK xA xB bd kK kA kB kI X0 X1 X2 X3 ph X4 X5 X6 lh X7 X8 := by
  intro n
  induction n with
  | zero =>
    intro i h1 h2
    omega
  | succ n ih =>
    intro i h1 h2 nc nl st sl kp ls ns kc sg pr a0 a1 ar cs ow xK xA xB bd kK kA kB kI lh ph w0 w1 w2 w3 X0 X1 X2 X3 X4 X5 X6 X7 X8 Q
    obtain ⟨q1, q2, q3, q4⟩ := id Q
    by_cases e : L ≤ i
    · exact br_t (nI_le e (by omega)) hp
    · have hJ : ∀ {nc nl : Nat} {st : Nat → Nat} {sl kp ls : Int32} {ns kc : Nat} {sg pr a0 a1 ar cs ow xK xA xB bd kK kA kB kI lh ph : Nat → Int32} {w0 w1 w2 w3 : Int32} {X0 X1 X2 X3 X4 X5 X6 X7 X8 : Nat → Int32}, lj_Q nc nl st sl kp ns kc sg pr a0 a1 ar cs ow xK xA xB bd kK kA kB kI lh ph → wL_law_10 post L xs mc ms n (nI (i + 2)) (nI nl) (nI nc) (nI ns) sl ls (nI kc) kp w0 w1 w2 w3 sg pr a0 a1 cs ar xK xA xB bd kK kA kB kI X0 X1 X2 X3 ph X4 X5 X6 lh X7 X8 := ih (i + 2) (by omega) (by omega)
      refine br_f (nI_ge (a := i) (b := L) (by omega) (by omega)) (lf_cell hL (by omega) (fun r94 => ⟨by decide, nm_e ?_⟩))
      rw [nI_1 i]
      have add : ∀ (r x7 z : Int32), wL_law_76 post L xs (wL_law_10 post L xs mc ms n) (nI i) r 0 0 x7 z mc ms (nI nl) (nI nc) (nI ns) sl ls (nI kc) kp w0 w1 w2 w3 sg pr a0 a1 cs ar xK xA xB bd kK kA kB kI X0 X1 X2 X3 ph X4 X5 X6 lh X7 X8 := by
        intro r x7 z
        have a117 : ∀ z0 z1 z2 z3 : Int32, wL_law_117 post L xs (wL_law_10 post L xs mc ms n) (nI i) 0 0 z0 z1 z2 z3 mc ms (nI nl) (nI nc) (nI ns) sl ls (nI kc) kp w0 w1 w2 w3 sg pr a0 a1 cs ar xK xA xB bd kK kA kB kI X0 X1 X2 X3 ph X4 X5 X6 lh X7 X8 := by
          intro z0 z1 z2 z3
          unfold wL_law_117
          exact lm_addLiteral _ _ _ _ Q (fun r => fun Q' => lz_366_0 Q' hJ)
        have a101 : ∀ x8 z0 z1 z2 : Int32, wL_law_101 post L xs (wL_law_10 post L xs mc ms n) (nI i) r 0 0 x8 z0 z1 z2 mc ms (nI nl) (nI nc) (nI ns) sl ls (nI kc) kp w0 w1 w2 w3 sg pr a0 a1 cs ar xK xA xB bd kK kA kB kI X0 X1 X2 X3 ph X4 X5 X6 lh X7 X8 := by
          intro x8 z0 z1 z2
          exact br_c (fun _ => a117 _ _ _ _) (fun _ => a117 _ _ _ _)
        exact br_c (fun _ => a101 _ _ _ _) (fun _ => a101 _ _ _ _)
      refine lf_cell hL (by omega) (fun r97 => br_c (fun _ => ?_) (fun _ => nm_e (br_c (fun _ => add _ _ _) (fun _ => br_c (fun _ => add _ _ _) (fun _ => add _ _ _)))))
      refine br_c (fun _ => ?_) (fun _ => br_c (fun _ => ?_) (fun _ => br_c (fun _ => ?_) (fun _ => br_c (fun _ => ?_) (fun _ => br_c (fun _ => ⟨by decide, ?_⟩) (fun _ => br_c (fun _ => ?_) (fun _ => nm_e (br_c (fun _ => ?_) (fun _ => br_c (fun _ => ?_) (fun _ => ?_)))))))))
      · exact lm_endClause Q (fun r => fun Q' => lz_366_0 Q' hJ)
      · exact lz_366_1 Q (Or.inl rfl) hJ
      · -- a check
        refine ⟨cr_bool (lj_sl q3), ?_⟩
        refine lm_check Q (fun r ls' x0 oc ol pc pl ph' hs hr Q' => ?_)
        have fin : wL_law_185 post L xs (wL_law_10 post L xs mc ms n) (nI i) 0 0 r mc ms (nI nl) (nI nc) (nI ns) sl ls' (nI kc) kp x0 w1 w2 w3 sg pr a0 a1 cs ar xK xA xB bd kK kA kB kI oc ol pc pl ph' X4 X5 X6 lh X7 X8 :=
          br_c (fun e => lz_366_1 Q' (Or.inr (hr e).2) hJ) (fun e => lz_366_0 Q' hJ)
        refine br_c (fun _ => fin) (fun e0 => ?_)
        have e1 : sl = 1 := (lj_sl q3).resolve_left e0
        exact br_t (hs e1) (br_t (hr (hs e1)).1 fin)
      · -- an adoption
        refine ⟨cr_bool (lj_kp q4), ?_⟩
        rcases id q4 with rfl | ⟨rfl, hx⟩
        · exact br_t rfl (br_t rfl (br_t rfl (lz_366_0 Q hJ)))
        · refine xd_adopt hx (fun xK' xA' xB' bd' b hbx hok => br_f (by decide) (br_t rfl ?_))
          refine lm_check (lz_sealed Q hx hbx hok) (fun r ls' x0 oc ol pc pl ph' hs hr Q3 => ?_)
          have r0 := hs rfl
          subst r0
          exact br_t rfl (br_t (hr rfl).1 (lz_366_0 Q3 hJ))
      · exact lm_addStep _ _ _ Q (fun r => fun Q' => lz_366_0 Q' hJ)
      · exact lm_bind _ _ _ _ Q (fun r => fun Q' => lz_366_0 Q' hJ)
      · exact lm_clearClauses Q (fun Q' => lz_366_0 Q' hJ)
      · exact lm_endClause Q (fun r => fun Q' => lz_366_0 Q' hJ)
      · exact lm_clearProof Q (fun Q' => lz_366_0 Q' hJ)
theorem i_vc (xs : Nat → Int32) (L : Nat) (hL : L ≤ 260) : wpL_law (fun r => r = 1) L xs := by
  refine ⟨25, 4321, by decide, by decide, ?_⟩
  refine ⟨by decide, by decide, by decide, by decide, by decide, by decide, by decide, by decide, by decide, by decide, by decide, by decide, by decide, by decide, by decide, by decide, by decide, by decide, by decide, by decide, by decide, by decide, by decide, by decide, by decide, by decide, by decide, by decide, by decide, by decide, by decide, by decide, by decide, by decide, by decide, by decide, by decide, by decide, by decide, by decide, by decide, by decide, by decide, by decide, by decide, by decide, by decide, by decide, by decide, by decide, ?_⟩
  refine xt_tab (fun lh hlh => ?_)
  refine xe_empty (xe_remove ?_)
  refine ⟨L + 2, ?_⟩
  refine lw_10 (post := fun r => r = 1) hL rfl (L + 2) 0 (by omega) (by omega) (nc := 0) (nl := 0) (st := fun _ => 0) (ns := 0) (kc := 0) (ow := fun _ => 0) ?_
  exact ⟨⟨⟨Nat.zero_le _, Nat.zero_le _, rfl, fun c hc => absurd hc (Nat.not_lt_zero c), Nat.zero_le _, Nat.zero_le _, fun j hj => absurd hj (Nat.not_lt_zero j), fun p hp => Or.inl (if_pos hp)⟩, fun c hc => rfl, fun j hj => absurd hj (Nat.not_lt_zero j)⟩, ⟨hlh, rfl⟩, lj_buf0, Or.inl rfl⟩
