/-! the goals as X keeps them: a copy's path is the chain of its parents -/
def xc_ch (pc pl ph : Nat → Int32) (M : Nat) : List (Nat × Nat) → Nat → Prop
  | [], c => ph c = 0
  | e :: p, c => e.1 < c ∧ e.2 < M ∧ ph c = nI (p.length + 1) ∧ pc c = nI e.1 ∧ pl c = nI e.2 ∧ xc_ch pc pl ph M p e.1
def xc_stk (oc ol pc pl ph : Nat → Int32) (M m : Nat) : List ck_G → Prop
  | [] => True
  | g :: R => oc R.length = nI g.1 ∧ ol R.length = nI g.2.1 ∧ g.1 < m ∧ g.2.1 < M ∧ xc_ch pc pl ph M g.2.2 g.1 ∧ xc_stk oc ol pc pl ph M m R
theorem xc_ch_len {pc pl ph : Nat → Int32} {M : Nat} : ∀ {p : List (Nat × Nat)} {c : Nat}, xc_ch pc pl ph M p c → ph c = nI p.length ∧ p.length ≤ c
  | [], c, h => ⟨h, Nat.zero_le _⟩
  | e :: p, c, h => by
    have h2 := (xc_ch_len h.2.2.2.2.2).2
    have h1 := h.1
    exact ⟨h.2.2.1, by rw [List.length_cons]; omega⟩
theorem xc_ch_fr {pc pl ph pc' pl' ph' : Nat → Int32} {M m : Nat} (hf : ∀ j, j < m → pc' j = pc j ∧ pl' j = pl j ∧ ph' j = ph j) :
    ∀ {p : List (Nat × Nat)} {c : Nat}, c < m → xc_ch pc pl ph M p c → xc_ch pc' pl' ph' M p c
  | [], c, hc, h => by
    show ph' c = 0
    rw [(hf c hc).2.2]
    exact h
  | e :: p, c, hc, h => by
    obtain ⟨h1, h2, h3, h4, h5, h6⟩ := h
    obtain ⟨f1, f2, f3⟩ := hf c hc
    exact ⟨h1, h2, by rw [f3]; exact h3, by rw [f1]; exact h4, by rw [f2]; exact h5, xc_ch_fr hf (by omega) h6⟩
theorem xc_stk_fr {oc ol pc pl ph oc' ol' pc' pl' ph' : Nat → Int32} {M m m' : Nat} (hm : m ≤ m') (hf : ∀ j, j < m → pc' j = pc j ∧ pl' j = pl j ∧ ph' j = ph j) :
    ∀ {L : List ck_G}, (∀ j, j < L.length → oc' j = oc j ∧ ol' j = ol j) → xc_stk oc ol pc pl ph M m L → xc_stk oc' ol' pc' pl' ph' M m' L
  | [], _, _ => trivial
  | g :: R, ho, h => by
    obtain ⟨h1, h2, h3, h4, h5, h6⟩ := h
    obtain ⟨o1, o2⟩ := ho R.length (by rw [List.length_cons]; omega)
    exact ⟨by rw [o1]; exact h1, by rw [o2]; exact h2, by omega, h4, xc_ch_fr hf h3 h5, xc_stk_fr hm hf (fun j hj => ho j (by rw [List.length_cons]; omega)) h6⟩
theorem xc_ch_get {pc pl ph : Nat → Int32} {M : Nat} : ∀ {p : List (Nat × Nat)} {c : Nat}, xc_ch pc pl ph M p c → ∀ n, n < p.length → (p.getD n (0, 0)).1 < c ∧ (p.getD n (0, 0)).2 < M
  | [], _, _, n, hn => absurd hn (Nat.not_lt_zero n)
  | e :: p, c, h, 0, _ => ⟨h.1, h.2.1⟩
  | e :: p, c, h, n + 1, hn => by
    obtain ⟨x, y⟩ := xc_ch_get h.2.2.2.2.2 n (by rw [List.length_cons] at hn; omega)
    have := h.1
    rw [List.getD_cons_succ]
    exact ⟨by omega, y⟩
/-! pushing the goals of a copy -/
def xg_ls (sk : Nat) : Nat → Nat → List Nat
  | 0, _ => []
  | n + 1, j => if j = sk then xg_ls sk n (j + 1) else j :: xg_ls sk n (j + 1)
theorem xg_ls_t {sk n j : Nat} (e : j = sk) : xg_ls sk (n + 1) j = xg_ls sk n (j + 1) := if_pos e
theorem xg_ls_f {sk n j : Nat} (e : ¬ j = sk) : xg_ls sk (n + 1) j = j :: xg_ls sk n (j + 1) := if_neg e
theorem xg_gl {copy sk : Nat} {p : List (Nat × Nat)} : ∀ (n j : Nat), ck_gl copy sk p n j = (xg_ls sk n j).map (fun l => (copy, l, p))
  | 0, _ => rfl
  | n + 1, j => by
    unfold ck_gl
    by_cases e : j = sk
    · rw [if_pos e, xg_ls_t e]
      exact xg_gl n (j + 1)
    · rw [if_neg e, xg_ls_f e, List.map_cons]
      exact congrArg _ (xg_gl n (j + 1))
theorem xg_ls_mem {sk : Nat} : ∀ {n j l : Nat}, l ∈ xg_ls sk n j → j ≤ l ∧ l < j + n ∧ ¬ l = sk
  | 0, _, _, h => by cases h
  | n + 1, j, l, h => by
    by_cases e : j = sk
    · rw [xg_ls_t e] at h
      obtain ⟨x, y, z⟩ := xg_ls_mem h
      exact ⟨by omega, by omega, z⟩
    · rw [xg_ls_f e] at h
      rcases List.mem_cons.mp h with h | h
      · subst h
        exact ⟨Nat.le_refl _, by omega, e⟩
      · obtain ⟨x, y, z⟩ := xg_ls_mem h
        exact ⟨by omega, by omega, z⟩
theorem xg_ls_suf {sk : Nat} (len first : Nat) : ∀ k, k ≤ len → (xg_ls sk (len - k) (first + k)).length ≤ (xg_ls sk len first).length
  | 0, _ => Nat.le_refl _
  | k + 1, hk => by
    have h := xg_ls_suf (sk := sk) len first k (by omega)
    have e : len - k = (len - (k + 1)) + 1 := by omega
    rw [e] at h
    have e2 : first + (k + 1) = first + k + 1 := by omega
    rw [e2]
    by_cases z : first + k = sk
    · rw [xg_ls_t z] at h
      exact h
    · rw [xg_ls_f z, List.length_cons] at h
      omega
def xg_rep (oc ol : Nat → Int32) (x : Int32) (base : Nat) : List Nat → Prop
  | [] => True
  | l :: ls => oc (base + ls.length) = x ∧ ol (base + ls.length) = nI l ∧ xg_rep oc ol x base ls
theorem xg_rep_fr {oc ol oc' ol' : Nat → Int32} {x : Int32} {base : Nat} : ∀ {ls : List Nat}, (∀ j, j < base + ls.length → oc' j = oc j ∧ ol' j = ol j) → xg_rep oc ol x base ls → xg_rep oc' ol' x base ls
  | [], _, _ => trivial
  | l :: ls, ho, h => by
    obtain ⟨o1, o2⟩ := ho (base + ls.length) (by rw [List.length_cons]; omega)
    exact ⟨by rw [o1]; exact h.1, by rw [o2]; exact h.2.1, xg_rep_fr (fun j hj => ho j (by rw [List.length_cons]; omega)) h.2.2⟩
section
variable {f_litCount f_clauseCount f_stepCount f_bufferSealed f_lastCheckStep f_keptCount f_proofKept f_openCount f_universeSize f_neededInstances f_givenLiterals : Int32} {a_litSign a_litPred a_litArg0 a_litArg1 a_clauseStart a_predArity a_stepKind a_stepA a_stepB a_binding a_keptKind a_keptA a_keptB a_keptInstance a_openCopy a_openLit a_parentCopy a_parentLit a_pathLength a_atomBase a_instanceLits a_instanceHolds a_literalHolds a_restInstances a_pathLiterals : Nat → Int32}
theorem xg_open {post : St1 → Prop} {base len first sk : Nat} {x1 skI : Int32} (hsk : ∀ j, first ≤ j → j < first + len → (nI j = skI ↔ j = sk)) (hfl : first + len < 2 ^ 30)
    (room : base + (xg_ls sk len first).length ≤ 258)
    (h : ∀ oc ol : Nat → Int32, (∀ j, j < base → oc j = a_openCopy j ∧ ol j = a_openLit j) → xg_rep oc ol x1 base (xg_ls sk len first) →
      post (f_litCount, f_clauseCount, f_stepCount, f_bufferSealed, f_lastCheckStep, f_keptCount, f_proofKept, nI (base + (xg_ls sk len first).length), f_universeSize, f_neededInstances, f_givenLiterals, a_litSign, a_litPred, a_litArg0, a_litArg1, a_clauseStart, a_predArity, a_stepKind, a_stepA, a_stepB, a_binding, a_keptKind, a_keptA, a_keptB, a_keptInstance, oc, ol, a_parentCopy, a_parentLit, a_pathLength, a_atomBase, a_instanceLits, a_instanceHolds, a_literalHolds, a_restInstances, a_pathLiterals)) :
    wpX_openGoals post (f_litCount, f_clauseCount, f_stepCount, f_bufferSealed, f_lastCheckStep, f_keptCount, f_proofKept, nI base, f_universeSize, f_neededInstances, f_givenLiterals, a_litSign, a_litPred, a_litArg0, a_litArg1, a_clauseStart, a_predArity, a_stepKind, a_stepA, a_stepB, a_binding, a_keptKind, a_keptA, a_keptB, a_keptInstance, a_openCopy, a_openLit, a_parentCopy, a_parentLit, a_pathLength, a_atomBase, a_instanceLits, a_instanceHolds, a_literalHolds, a_restInstances, a_pathLiterals) x1 (nI first) (nI len) skI := by
  have key : ∀ k, k ≤ len → ∀ (oc ol : Nat → Int32), (∀ j, j < base → oc j = a_openCopy j ∧ ol j = a_openLit j) → xg_rep oc ol x1 base (xg_ls sk (len - k) (first + k)) →
      wX_openGoals_5 post x1 (nI first) skI f_litCount f_clauseCount f_stepCount f_bufferSealed f_lastCheckStep f_keptCount f_proofKept f_universeSize f_neededInstances f_givenLiterals (k + 1) (nI k + (-1)) (nI (base + (xg_ls sk (len - k) (first + k)).length)) a_litSign a_litPred a_litArg0 a_litArg1 a_clauseStart a_predArity a_stepKind a_stepA a_stepB a_binding a_keptKind a_keptA a_keptB a_keptInstance oc ol a_parentCopy a_parentLit a_pathLength a_atomBase a_instanceLits a_instanceHolds a_literalHolds a_restInstances a_pathLiterals := by
    intro k
    induction k with
    | zero =>
      intro _ oc ol hag hrep
      exact br_t (by decide) (h oc ol hag hrep)
    | succ k ih =>
      intro hk oc ol hag hrep
      rw [pk_m1]
      have e : len - k = (len - (k + 1)) + 1 := by omega
      have e2 : first + (k + 1) = first + k + 1 := by omega
      rw [e2] at hrep ⊢
      have ih2 := ih (by omega)
      rw [e] at ih2
      refine br_f (nI_pos (by omega)) ?_
      rw [nI_add]
      refine ek_if (hsk (first + k) (by omega) (by omega)) (fun z => nm_e ?_) (fun z => ?_)
      · rw [xg_ls_t z] at ih2
        exact ih2 oc ol hag hrep
      · rw [xg_ls_f z] at ih2
        have hs := xg_ls_suf (sk := sk) len first k (by omega)
        rw [e, xg_ls_f z, List.length_cons] at hs
        have hin : vp_in (nI (base + (xg_ls sk (len - (k + 1)) (first + k + 1)).length)) 258 := vp_in_nI (by omega) (by decide)
        refine ⟨hin, nm_e ⟨hin, nm_e (nm_r (nI_1 _) (nm_e ?_))⟩⟩
        rw [nI_clamp (show base + (xg_ls sk (len - (k + 1)) (first + k + 1)).length < 2 ^ 31 by omega)]
        refine ih2 _ _ (fun j hj => ?_) ⟨pk_us, pk_us, xg_rep_fr (fun j hj => ?_) hrep⟩
        · rw [pk_un (by omega), pk_un (by omega)]
          exact hag j hj
        · rw [pk_un (by omega), pk_un (by omega)]
          exact ⟨rfl, rfl⟩
  have e0 : len - len = 0 := by omega
  have k0 := key len (Nat.le_refl _) a_openCopy a_openLit (fun _ _ => ⟨rfl, rfl⟩) (by rw [e0]; trivial)
  rw [e0] at k0
  exact nm_r (Int32.sub_eq_add_neg _ _) ⟨_, k0⟩
end
theorem xc_stk_app {oc ol pc pl ph : Nat → Int32} {M m copy : Nat} {p : List (Nat × Nat)} {R : List ck_G} (hc : copy < m) (hch : xc_ch pc pl ph M p copy) (hR : xc_stk oc ol pc pl ph M m R) :
    ∀ {ls : List Nat}, (∀ l, l ∈ ls → l < M) → xg_rep oc ol (nI copy) R.length ls → xc_stk oc ol pc pl ph M m (ls.map (fun l => (copy, l, p)) ++ R)
  | [], _, _ => hR
  | l :: ls, hl, hr => by
    have e : (ls.map (fun l => ((copy, l, p) : ck_G)) ++ R).length = R.length + ls.length := by
      rw [List.length_append, List.length_map]; omega
    refine ⟨?_, ?_, hc, hl l List.mem_cons_self, hch, xc_stk_app hc hch hR (fun l' h' => hl l' (List.mem_cons_of_mem l h')) hr.2.2⟩
    · show oc (ls.map (fun l => ((copy, l, p) : ck_G)) ++ R).length = nI copy
      rw [e]
      exact hr.1
    · show ol (ls.map (fun l => ((copy, l, p) : ck_G)) ++ R).length = nI l
      rw [e]
      exact hr.2.1
/-! resolving -/
def ck_rv (o : Option Nat) : Int32 := match o with
  | some x => nI x
  | none => -1
theorem ck_res_lt {b : Nat → Nat} (hb : ∀ t, t < 514 → b t < 514) : ∀ (n t : Nat), t < 514 → ∀ x, ck_res b n t = some x → x < 514
  | 0, _, _, _, h => by cases h
  | n + 1, t, ht, x, h => by
    unfold ck_res at h
    by_cases e : b t = t
    · rw [if_pos e] at h
      cases h
      exact ht
    · rw [if_neg e] at h
      exact ck_res_lt hb n (b t) (hb t ht) x h
section
variable {f_litCount f_clauseCount f_stepCount f_bufferSealed f_lastCheckStep f_keptCount f_proofKept f_openCount f_universeSize f_neededInstances f_givenLiterals : Int32} {a_litSign a_litPred a_litArg0 a_litArg1 a_clauseStart a_predArity a_stepKind a_stepA a_stepB a_binding a_keptKind a_keptA a_keptB a_keptInstance a_openCopy a_openLit a_parentCopy a_parentLit a_pathLength a_atomBase a_instanceLits a_instanceHolds a_literalHolds a_restInstances a_pathLiterals : Nat → Int32}
theorem xr_loop {post : Int32 → Prop} {b : Nat → Nat} (hb : cr_bx b a_binding) : ∀ (n t mv : Nat), mv + n = 513 → t < 514 → post (ck_rv (ck_res b n t)) → wX_resolve_20 post f_litCount f_clauseCount f_stepCount f_bufferSealed f_lastCheckStep f_keptCount f_proofKept f_openCount f_universeSize f_neededInstances f_givenLiterals a_litSign a_litPred a_litArg0 a_litArg1 a_clauseStart a_predArity a_stepKind a_stepA a_stepB a_binding a_keptKind a_keptA a_keptB a_keptInstance a_openCopy a_openLit a_parentCopy a_parentLit a_pathLength a_atomBase a_instanceLits a_instanceHolds a_literalHolds a_restInstances a_pathLiterals (n + 1) (nI t) (nI mv)
  | 0, t, mv, hm, ht, h => by
    exact br_t (nI_lt (a := 512) (b := mv) (by omega) (by omega)) h
  | n + 1, t, mv, hm, ht, h => by
    obtain ⟨hb1, hb2⟩ := hb.2.2 t ht
    have hin : vp_in (nI t) 514 := vp_in_nI ht (by decide)
    refine br_f (nI_nlt (b := mv) (a := 512) (by omega) (by decide)) ⟨hin, ?_⟩
    rw [nI_clamp (show t < 2 ^ 31 by omega), hb2]
    unfold ck_res at h
    refine pk_eq (b t) t (fun e => ?_) (fun e => ⟨hin, nm_e (nm_r (nI_1 mv) ?_)⟩)
    · rw [if_pos e] at h
      exact h
    · rw [if_neg e] at h
      exact xr_loop hb n (b t) (mv + 1) (by omega) hb1 h
/-- an argument that is a term -/
theorem xr_res {post : Int32 → Prop} {b : Nat → Nat} (hb : cr_bx b a_binding) {c l pos t : Nat} (hc : c < 256) (hl : l < 16) (hp : pos < 2) (ht : t < 4)
    (ha : (if pos = 0 then a_litArg0 l else a_litArg1 l) = nI t) (h : post (ck_rv (ck_res b 513 (ck_tm c t)))) : wpX_resolve post (f_litCount, f_clauseCount, f_stepCount, f_bufferSealed, f_lastCheckStep, f_keptCount, f_proofKept, f_openCount, f_universeSize, f_neededInstances, f_givenLiterals, a_litSign, a_litPred, a_litArg0, a_litArg1, a_clauseStart, a_predArity, a_stepKind, a_stepA, a_stepB, a_binding, a_keptKind, a_keptA, a_keptB, a_keptInstance, a_openCopy, a_openLit, a_parentCopy, a_parentLit, a_pathLength, a_atomBase, a_instanceLits, a_instanceHolds, a_literalHolds, a_restInstances, a_pathLiterals) (nI c) (nI l) (nI pos) := by
  have hin : vp_in (nI l) 16 := vp_in_nI hl (by decide)
  have fin : wpX_termOf (fun r_38 => (∃ n20 : Nat, wX_resolve_20 post f_litCount f_clauseCount f_stepCount f_bufferSealed f_lastCheckStep f_keptCount f_proofKept f_openCount f_universeSize f_neededInstances f_givenLiterals a_litSign a_litPred a_litArg0 a_litArg1 a_clauseStart a_predArity a_stepKind a_stepA a_stepB a_binding a_keptKind a_keptA a_keptB a_keptInstance a_openCopy a_openLit a_parentCopy a_parentLit a_pathLength a_atomBase a_instanceLits a_instanceHolds a_literalHolds a_restInstances a_pathLiterals n20 r_38 0)) (f_litCount, f_clauseCount, f_stepCount, f_bufferSealed, f_lastCheckStep, f_keptCount, f_proofKept, f_openCount, f_universeSize, f_neededInstances, f_givenLiterals, a_litSign, a_litPred, a_litArg0, a_litArg1, a_clauseStart, a_predArity, a_stepKind, a_stepA, a_stepB, a_binding, a_keptKind, a_keptA, a_keptB, a_keptInstance, a_openCopy, a_openLit, a_parentCopy, a_parentLit, a_pathLength, a_atomBase, a_instanceLits, a_instanceHolds, a_literalHolds, a_restInstances, a_pathLiterals) (nI c) (nI t) := by
    unfold ck_tm at h
    by_cases h2 : t < 2
    · rw [if_pos h2] at h
      refine br_t (nI_lt (b := 2) h2 (by decide)) ⟨_, xr_loop hb 513 t 0 rfl (by omega) h⟩
    · rw [if_neg h2] at h
      refine br_f (nI_nlt (b := 2) (by omega) (by omega)) ⟨514, ?_⟩
      rw [show (2 : Int32) = nI 2 from rfl, pk_mul, nI_add]
      exact xr_loop hb 513 (2 * c + t) 0 rfl (by omega) h
  by_cases e : pos = 0
  · subst e
    rw [if_pos rfl] at ha
    refine br_t rfl ⟨hin, ?_⟩
    rw [nI_clamp (show l < 2 ^ 31 by omega), ha]
    exact fin
  · have e1 : pos = 1 := by omega
    subst e1
    rw [if_neg e] at ha
    refine br_f (by decide) ⟨hin, ?_⟩
    rw [nI_clamp (show l < 2 ^ 31 by omega), ha]
    exact fin
end
/-! connections -/
theorem cd_arg {nc nl : Nat} {st : Nat → Nat} {sg pr a0 a1 ar : Nat → Int32} (hw : cd_wf nc nl st sg pr a0 a1 ar) {l : Nat} (hl : l < nl) :
    ck_ar (a0 l) (a1 l) ≤ 2 ∧ ∀ pos, pos < ck_ar (a0 l) (a1 l) → ∃ t, t < 4 ∧ (if pos = 0 then a0 l else a1 l) = nI t ∧ ck_ag a0 a1 l pos = t := by
  obtain ⟨_, _, _, _, _, _, w7, _⟩ := hw
  obtain ⟨_, _, l3, l4, l5⟩ := w7 l hl
  unfold ck_ar ck_ag
  by_cases e : a0 l = -1
  · rw [if_pos e]
    exact ⟨by omega, fun pos hp => absurd hp (Nat.not_lt_zero pos)⟩
  · obtain ⟨t0, ht0, e0⟩ := l3.resolve_left e
    rw [if_neg e]
    by_cases e2 : a1 l = -1
    · rw [if_pos e2]
      refine ⟨by omega, fun pos hp => ?_⟩
      have : pos = 0 := by omega
      subst this
      rw [if_pos rfl, if_pos rfl, e0]
      exact ⟨t0, ht0, rfl, nI_clamp (by omega)⟩
    · obtain ⟨t1, ht1, e1⟩ := l4.resolve_left e2
      rw [if_neg e2]
      refine ⟨by omega, fun pos hp => ?_⟩
      by_cases z : pos = 0
      · rw [if_pos z, if_pos z, e0]
        exact ⟨t0, ht0, rfl, nI_clamp (by omega)⟩
      · rw [if_neg z, if_neg z, e1]
        exact ⟨t1, ht1, rfl, nI_clamp (by omega)⟩
theorem cd_ar_eq {nc nl : Nat} {st : Nat → Nat} {sg pr a0 a1 ar : Nat → Int32} (hw : cd_wf nc nl st sg pr a0 a1 ar) {l l2 : Nat} (hl : l < nl) (hl2 : l2 < nl) (hp : pr l = pr l2) :
    ck_ar (a0 l) (a1 l) = ck_ar (a0 l2) (a1 l2) := by
  have b1 := (cd_arg hw hl).1
  have b2 := (cd_arg hw hl2).1
  obtain ⟨_, _, _, _, _, _, w7, _⟩ := hw
  obtain ⟨_, ⟨p, hp4, e, ea⟩, _⟩ := w7 l hl
  obtain ⟨_, ⟨p2, hp24, e2, ea2⟩, _⟩ := w7 l2 hl2
  rw [e, e2, nI_eq (by omega) (by omega)] at hp
  subst hp
  rw [ea, nI_eq (by omega) (by omega)] at ea2
  exact ea2
theorem ck_rv_none : ck_rv none = -1 := rfl
theorem ck_rv_some {x : Nat} (h : x < 514) : ¬ ck_rv (some x) = -1 := by
  show ¬ nI x = -1
  intro e
  have := congrArg Int32.toInt e
  rw [nI_toInt (by omega), show (-1 : Int32).toInt = -1 from by decide] at this
  omega
section
variable {f_litCount f_clauseCount f_stepCount f_bufferSealed f_lastCheckStep f_keptCount f_proofKept f_openCount f_universeSize f_neededInstances f_givenLiterals : Int32} {a_litSign a_litPred a_litArg0 a_litArg1 a_clauseStart a_predArity a_stepKind a_stepA a_stepB a_binding a_keptKind a_keptA a_keptB a_keptInstance a_openCopy a_openLit a_parentCopy a_parentLit a_pathLength a_atomBase a_instanceLits a_instanceHolds a_literalHolds a_restInstances a_pathLiterals : Nat → Int32}
theorem xj_conn {post : Int32 → Prop} {nc nl : Nat} {st : Nat → Nat} (hw : cd_wf nc nl st a_litSign a_litPred a_litArg0 a_litArg1 a_predArity) {b : Nat → Nat} (hb : cr_bx b a_binding)
    {M c1 l1 c2 l2 : Nat} (hM : M ≤ nl) (hc1 : c1 < 256) (hl1 : l1 < M) (hc2 : c2 < 256) (hl2 : l2 < M)
    (h : post (ck_conn (cd_mk M a_litSign) (cd_mk M a_litPred) (cd_mk M a_litArg0) (cd_mk M a_litArg1) b c1 l1 c2 l2)) : wpX_judgeConnection post (f_litCount, f_clauseCount, f_stepCount, f_bufferSealed, f_lastCheckStep, f_keptCount, f_proofKept, f_openCount, f_universeSize, f_neededInstances, f_givenLiterals, a_litSign, a_litPred, a_litArg0, a_litArg1, a_clauseStart, a_predArity, a_stepKind, a_stepA, a_stepB, a_binding, a_keptKind, a_keptA, a_keptB, a_keptInstance, a_openCopy, a_openLit, a_parentCopy, a_parentLit, a_pathLength, a_atomBase, a_instanceLits, a_instanceHolds, a_literalHolds, a_restInstances, a_pathLiterals) (nI c1) (nI l1) (nI c2) (nI l2) := by
  have hnl := hw.2.1
  have in1 : vp_in (nI l1) 16 := vp_in_nI (by omega) (by decide)
  have in2 : vp_in (nI l2) 16 := vp_in_nI (by omega) (by decide)
  have cl1 : (nI l1).toNatClampNeg = l1 := nI_clamp (by omega)
  have cl2 : (nI l2).toNatClampNeg = l2 := nI_clamp (by omega)
  unfold ck_conn at h
  rw [cd_mk_lt hl1, cd_mk_lt hl1, cd_mk_lt hl1, cd_mk_lt hl1, cd_mk_lt hl2, cd_mk_lt hl2] at h
  refine ⟨in1, in2, ?_⟩
  rw [cl1, cl2]
  refine br_c (fun e => ?_) (fun e => ⟨in1, in2, br_c (fun ep => ?_) (fun ep => ?_)⟩)
  · rw [if_pos (Or.inl e)] at h
    exact h
  · rw [if_neg (fun z => z.elim e (fun y => y ep))] at h
    obtain ⟨_, ⟨p, hp4, epr, ear⟩, _⟩ := hw.2.2.2.2.2.2.1 l1 (by omega)
    obtain ⟨ha2, harg⟩ := cd_arg hw (show l1 < nl by omega)
    obtain ⟨_, harg2⟩ := cd_arg hw (show l2 < nl by omega)
    rw [← cd_ar_eq hw (by omega) (by omega) ep] at harg2
    rw [epr, nI_clamp (show p < 2 ^ 31 by omega), ear]
    refine ⟨in1, vp_in_nI hp4 (by decide), nm_e ?_⟩
    have key : ∀ (r pos : Nat), pos + r = ck_ar (a_litArg0 l1) (a_litArg1 l1) →
        post (ck_ps b (fun p => ck_tm c1 (ck_ag (cd_mk M a_litArg0) (cd_mk M a_litArg1) l1 p)) (fun p => ck_tm c2 (ck_ag (cd_mk M a_litArg0) (cd_mk M a_litArg1) l2 p)) r pos) →
        wX_judgeConnection_51 post (nI c1) (nI l1) (nI c2) (nI l2) (nI (ck_ar (a_litArg0 l1) (a_litArg1 l1))) f_litCount f_clauseCount f_stepCount f_bufferSealed f_lastCheckStep f_keptCount f_proofKept f_openCount f_universeSize f_neededInstances f_givenLiterals a_litSign a_litPred a_litArg0 a_litArg1 a_clauseStart a_predArity a_stepKind a_stepA a_stepB a_binding a_keptKind a_keptA a_keptB a_keptInstance a_openCopy a_openLit a_parentCopy a_parentLit a_pathLength a_atomBase a_instanceLits a_instanceHolds a_literalHolds a_restInstances a_pathLiterals (r + 1) (nI pos) := by
      intro r
      induction r with
      | zero =>
        intro pos hpos hh
        exact br_t (nI_le (by omega) (by omega)) hh
      | succ r ih =>
        intro pos hpos hh
        refine br_f (nI_ge (show pos < ck_ar (a_litArg0 l1) (a_litArg1 l1) by omega) (by omega)) ?_
        obtain ⟨t, ht, et, eg⟩ := harg pos (by omega)
        obtain ⟨t2, ht2, et2, eg2⟩ := harg2 pos (by omega)
        have m1 : ck_ag (cd_mk M a_litArg0) (cd_mk M a_litArg1) l1 pos = t := by
          rw [← eg]; unfold ck_ag; rw [cd_mk_lt hl1, cd_mk_lt hl1]
        have m2 : ck_ag (cd_mk M a_litArg0) (cd_mk M a_litArg1) l2 pos = t2 := by
          rw [← eg2]; unfold ck_ag; rw [cd_mk_lt hl2, cd_mk_lt hl2]
        unfold ck_ps at hh
        try dsimp only at hh
        rw [m1, m2] at hh
        have hbt : ∀ t, t < 514 → b t < 514 := fun t ht => (hb.2.2 t ht).1
        have tm1 : ck_tm c1 t < 514 := by unfold ck_tm; split <;> omega
        have tm2 : ck_tm c2 t2 < 514 := by unfold ck_tm; split <;> omega
        refine xr_res hb hc1 (by omega) (by omega) ht et ?_
        refine xr_res hb hc2 (by omega) (by omega) ht2 et2 ?_
        cases o1 : ck_res b 513 (ck_tm c1 t) with
        | none =>
          rw [o1] at hh
          exact br_t rfl hh
        | some x =>
          have hx := ck_res_lt hbt 513 _ tm1 x o1
          rw [o1] at hh
          refine br_f (ck_rv_some hx) ?_
          cases o2 : ck_res b 513 (ck_tm c2 t2) with
          | none =>
            rw [o2] at hh
            exact br_t rfl hh
          | some y =>
            have hy := ck_res_lt hbt 513 _ tm2 y o2
            rw [o2] at hh
            try dsimp only at hh
            refine br_f (ck_rv_some hy) ?_
            refine pk_eq x y (fun e => ?_) (fun e => ?_)
            · rw [if_pos e] at hh
              exact nm_r (nI_1 pos) (ih (pos + 1) (by omega) hh)
            · rw [if_neg e] at hh
              exact hh
    exact ⟨_, key _ 0 (by omega) h⟩
  · rw [if_pos (Or.inr ep)] at h
    exact h
end
