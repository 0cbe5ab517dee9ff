/-! the check, pure: goals are (copy, literal, path), the path's last entry first; b is the binding by term numbers -/
abbrev ck_G : Type := Nat × Nat × List (Nat × Nat)
def ck_res (b : Nat → Nat) : Nat → Nat → Option Nat
  | 0, _ => none
  | n + 1, t => if b t = t then some t else ck_res b n (b t)
def ck_tm (copy t : Nat) : Nat := if t < 2 then t else 2 * copy + t
def ck_ar (x y : Int32) : Nat := if x = -1 then 0 else if y = -1 then 1 else 2
def ck_ag (a0 a1 : Nat → Int32) (l p : Nat) : Nat := if p = 0 then (a0 l).toNatClampNeg else (a1 l).toNatClampNeg
def ck_ps (b : Nat → Nat) (A1 A2 : Nat → Nat) : Nat → Nat → Int32
  | 0, _ => 0
  | r + 1, p => match ck_res b 513 (A1 p), ck_res b 513 (A2 p) with
    | some x, some y => if x = y then ck_ps b A1 A2 r (p + 1) else -16
    | some _, none => -17
    | none, _ => -17
def ck_conn (sg pr a0 a1 : Nat → Int32) (b : Nat → Nat) (c1 l1 c2 l2 : Nat) : Int32 :=
  if sg l1 = sg l2 ∨ ¬ pr l1 = pr l2 then -15
  else ck_ps b (fun p => ck_tm c1 (ck_ag a0 a1 l1 p)) (fun p => ck_tm c2 (ck_ag a0 a1 l2 p)) (ck_ar (a0 l1) (a1 l1)) 0
/-- the goals of a copy: literals j .. j + n - 1 but sk, the smallest on top -/
def ck_gl (copy sk : Nat) (p : List (Nat × Nat)) : Nat → Nat → List ck_G
  | 0, _ => []
  | n + 1, j => if j = sk then ck_gl copy sk p n (j + 1) else (copy, j, p) :: ck_gl copy sk p n (j + 1)
def ck_out (x : Int32) (n : Nat) : Prop := x < 0 ∨ nI n ≤ x
theorem ck_out_or (x : Int32) {n : Nat} (hn : n < 2 ^ 31) : ck_out x n ∨ (¬ ck_out x n ∧ ∃ j, j < n ∧ x = nI j) := by
  by_cases h : x < 0
  · exact Or.inl (Or.inl h)
  · obtain ⟨j, hj, e⟩ := nI_of h
    by_cases h2 : nI n ≤ x
    · exact Or.inl (Or.inr h2)
    · refine Or.inr ⟨fun z => z.elim h h2, j, ?_, e⟩
      rw [e, nI_leI hn hj] at h2
      omega
theorem ck_out_nI {j n : Nat} (h : j < n) (hn : n < 2 ^ 31) : ¬ ck_out (nI j) n := by
  intro z
  rcases z with z | z
  · exact nI_pos (by omega) z
  · rw [nI_leI hn (by omega)] at z
    omega
theorem ck_out_nI' {j n : Nat} (h : n ≤ j) (hj : j < 2 ^ 31) : ck_out (nI j) n := Or.inr (nI_le h hj)
noncomputable def ck_if {α : Type} (p : Prop) (x y : α) : α := @ite α p (Classical.propDecidable p) x y
theorem ck_if_t {α : Type} {p : Prop} {x y : α} (h : p) : ck_if p x y = x := if_pos h
theorem ck_if_f {α : Type} {p : Prop} {x y : α} (h : ¬ p) : ck_if p x y = y := if_neg h
noncomputable def ck_step (nc : Nat) (st : Nat → Nat) (sg pr a0 a1 : Nat → Int32) (K A B : Nat → Int32) (b : Nat → Nat) (i : Nat) (L : List ck_G) : Int32 × List ck_G :=
  match L with
  | [] => (-18, [])
  | (c, l, p) :: R =>
    ck_if (K i = 0) (-11, R)
    (ck_if (K i = 1)
      (ck_if (ck_out (A i) nc) (-12, R)
        (ck_if (ck_out (B i) (st ((A i).toNatClampNeg + 1) - st (A i).toNatClampNeg)) (-13, R)
          (ck_if (ck_conn sg pr a0 a1 b c l i (st (A i).toNatClampNeg + (B i).toNatClampNeg) = 0)
            (0, ck_gl i (st (A i).toNatClampNeg + (B i).toNatClampNeg) ((c, l) :: p) (st ((A i).toNatClampNeg + 1) - st (A i).toNatClampNeg) (st (A i).toNatClampNeg) ++ R)
            (ck_conn sg pr a0 a1 b c l i (st (A i).toNatClampNeg + (B i).toNatClampNeg), R))))
      (ck_if (ck_out (A i) p.length) (-14, R)
        (ck_conn sg pr a0 a1 b c l (p.getD (p.length - 1 - (A i).toNatClampNeg) (0, 0)).1 (p.getD (p.length - 1 - (A i).toNatClampNeg) (0, 0)).2, R)))
noncomputable def ck_go (nc : Nat) (st : Nat → Nat) (sg pr a0 a1 : Nat → Int32) (K A B : Nat → Int32) (b : Nat → Nat) : Nat → Nat → List ck_G → Int32 × Int32
  | 0, i, L => if L.isEmpty then (0, -1) else (-19, nI i)
  | r + 1, i, L => if (ck_step nc st sg pr a0 a1 K A B b i L).1 = 0 then ck_go nc st sg pr a0 a1 K A B b r (i + 1) (ck_step nc st sg pr a0 a1 K A B b i L).2
    else ((ck_step nc st sg pr a0 a1 K A B b i L).1, nI i)
noncomputable def ck_all (nc : Nat) (st : Nat → Nat) (sg pr a0 a1 : Nat → Int32) (K A B : Nat → Int32) (b : Nat → Nat) (n : Nat) : Int32 × Int32 :=
  if n = 0 then (-10, 0) else
  if K 0 = 0 then
    ck_if (ck_out (A 0) nc) (-12, 0)
      (ck_go nc st sg pr a0 a1 K A B b (n - 1) 1 (ck_gl 0 16 [] (st ((A 0).toNatClampNeg + 1) - st (A 0).toNatClampNeg) (st (A 0).toNatClampNeg)))
  else (-11, 0)
/-! a proof under way: V0, V1 are the constants of a copy's two variables -/
def ck_bok (K : Nat → Int32) (V0 V1 : Nat → Nat) (m : Nat) (b : Nat → Nat) : Prop :=
  b 0 = 0 ∧ b 1 = 1 ∧ ∀ j, j < m → ¬ K j = 2 → b (2 * j + 2) = V0 j ∧ b (2 * j + 3) = V1 j
def ck_rch (nc : Nat) (st : Nat → Nat) (sg pr a0 a1 : Nat → Int32) (K A B : Nat → Int32) (V0 V1 : Nat → Nat) (L1 : List ck_G) (m : Nat) (L : List ck_G) : Prop :=
  ∀ (K' A' B' : Nat → Int32) (b : Nat → Nat), (∀ j, j < m → K' j = K j ∧ A' j = A j ∧ B' j = B j) → ck_bok K V0 V1 m b →
    ∀ r, ck_go nc st sg pr a0 a1 K' A' B' b (r + (m - 1)) 1 L1 = ck_go nc st sg pr a0 a1 K' A' B' b r m L
/-- the constant of an argument in copy j -/
def ck_gv (V0 V1 : Nat → Nat) (j t : Nat) : Nat := if t = 2 then V0 j else if t = 3 then V1 j else t
theorem ck_res0 {b : Nat → Nat} {n t : Nat} (h : b t = t) : ck_res b (n + 1) t = some t := by
  unfold ck_res; rw [if_pos h]
theorem ck_res_gv {K : Nat → Int32} {V0 V1 : Nat → Nat} {m : Nat} {b : Nat → Nat} (hb : ck_bok K V0 V1 m b) {j t : Nat} (hj : j < m) (hK : ¬ K j = 2)
    (ht : t < 4) (h0 : V0 j < 2) (h1 : V1 j < 2) : ck_res b 513 (ck_tm j t) = some (ck_gv V0 V1 j t) := by
  obtain ⟨b0, b1, bv⟩ := hb
  have bc : ∀ v, v < 2 → b v = v := by
    intro v hv
    have : v = 0 ∨ v = 1 := by omega
    rcases this with e | e <;> rw [e] <;> assumption
  obtain ⟨bv0, bv1⟩ := bv j hj hK
  have cases4 : t < 2 ∨ t = 2 ∨ t = 3 := by omega
  rcases cases4 with e | e | e
  · have e2 : ck_gv V0 V1 j t = t := by
      unfold ck_gv; rw [if_neg (by omega), if_neg (by omega)]
    have e3 : ck_tm j t = t := by unfold ck_tm; rw [if_pos e]
    rw [e2, e3]
    exact ck_res0 (bc t e)
  · subst e
    have e2 : ck_gv V0 V1 j 2 = V0 j := by unfold ck_gv; rw [if_pos rfl]
    have e3 : ck_tm j 2 = 2 * j + 2 := by unfold ck_tm; rw [if_neg (by omega)]
    rw [e2, e3]
    show ck_res b (512 + 1) (2 * j + 2) = _
    unfold ck_res
    rw [if_neg (by rw [bv0]; omega), bv0]
    exact ck_res0 (n := 511) (bc _ h0)
  · subst e
    have e2 : ck_gv V0 V1 j 3 = V1 j := by unfold ck_gv; rw [if_neg (by omega), if_pos rfl]
    have e3 : ck_tm j 3 = 2 * j + 3 := by unfold ck_tm; rw [if_neg (by omega)]
    rw [e2, e3]
    show ck_res b (512 + 1) (2 * j + 3) = _
    unfold ck_res
    rw [if_neg (by rw [bv1]; omega), bv1]
    exact ck_res0 (n := 511) (bc _ h1)
/-- a ground connection between the literal l1 of copy c1 and l2 of copy c2 -/
def ck_gc (sg pr a0 a1 : Nat → Int32) (V0 V1 : Nat → Nat) (c1 l1 c2 l2 : Nat) : Prop :=
  ¬ sg l1 = sg l2 ∧ pr l1 = pr l2 ∧
    ∀ p, p < ck_ar (a0 l1) (a1 l1) → ck_ag a0 a1 l1 p < 4 ∧ ck_ag a0 a1 l2 p < 4 ∧ ck_gv V0 V1 c1 (ck_ag a0 a1 l1 p) = ck_gv V0 V1 c2 (ck_ag a0 a1 l2 p)
theorem ck_ps_ok {b A1 A2 : Nat → Nat} : ∀ (r p : Nat), (∀ q, p ≤ q → q < p + r → ∃ v, ck_res b 513 (A1 q) = some v ∧ ck_res b 513 (A2 q) = some v) → ck_ps b A1 A2 r p = 0
  | 0, _, _ => rfl
  | r + 1, p, h => by
    obtain ⟨v, e1, e2⟩ := h p (Nat.le_refl p) (by omega)
    unfold ck_ps
    rw [e1, e2]
    show (if v = v then ck_ps b A1 A2 r (p + 1) else -16) = 0
    rw [if_pos rfl]
    exact ck_ps_ok r (p + 1) (fun q h1 h2 => h q (by omega) (by omega))
theorem ck_conn_ok {sg pr a0 a1 : Nat → Int32} {K : Nat → Int32} {V0 V1 : Nat → Nat} {m : Nat} {b : Nat → Nat} (hb : ck_bok K V0 V1 m b)
    {c1 l1 c2 l2 : Nat} (h1 : c1 < m) (k1 : ¬ K c1 = 2) (h2 : c2 < m) (k2 : ¬ K c2 = 2) (hv : ∀ j, j < m → ¬ K j = 2 → V0 j < 2 ∧ V1 j < 2)
    (h : ck_gc sg pr a0 a1 V0 V1 c1 l1 c2 l2) : ck_conn sg pr a0 a1 b c1 l1 c2 l2 = 0 := by
  obtain ⟨hs, hp, ha⟩ := h
  unfold ck_conn
  rw [if_neg (fun z => z.elim hs (fun y => y hp))]
  apply ck_ps_ok
  intro q _ hq
  obtain ⟨t1, t2, e⟩ := ha q (by omega)
  refine ⟨ck_gv V0 V1 c1 (ck_ag a0 a1 l1 q), ?_, ?_⟩
  · exact ck_res_gv hb h1 k1 t1 (hv c1 h1 k1).1 (hv c1 h1 k1).2
  · rw [e]
    exact ck_res_gv hb h2 k2 t2 (hv c2 h2 k2).1 (hv c2 h2 k2).2
theorem ck_rch_1 {nc : Nat} {st : Nat → Nat} {sg pr a0 a1 : Nat → Int32} {K A B : Nat → Int32} {V0 V1 : Nat → Nat} {L1 : List ck_G} :
    ck_rch nc st sg pr a0 a1 K A B V0 V1 L1 1 L1 := fun _ _ _ _ _ _ _ => rfl
/-- arrays that agree below m -/
def ck_agr (K A B : Nat → Int32) (V0 V1 : Nat → Nat) (K1 A1 B1 : Nat → Int32) (W0 W1 : Nat → Nat) (m : Nat) : Prop :=
  ∀ j, j < m → K1 j = K j ∧ A1 j = A j ∧ B1 j = B j ∧ (¬ K j = 2 → W0 j = V0 j ∧ W1 j = V1 j)
theorem ck_agr_bok {K A B : Nat → Int32} {V0 V1 : Nat → Nat} {K1 A1 B1 : Nat → Int32} {W0 W1 : Nat → Nat} {m : Nat} {b : Nat → Nat}
    (h : ck_agr K A B V0 V1 K1 A1 B1 W0 W1 m) (hb : ck_bok K1 W0 W1 (m + 1) b) : ck_bok K V0 V1 m b := by
  obtain ⟨b0, b1, bv⟩ := hb
  refine ⟨b0, b1, fun j hj hK => ?_⟩
  obtain ⟨e, _, _, e2⟩ := h j hj
  obtain ⟨w0, w1⟩ := bv j (by omega) (by rw [e]; exact hK)
  obtain ⟨v0, v1⟩ := e2 hK
  exact ⟨w0.trans v0, w1.trans v1⟩
theorem ck_rch_ext {nc : Nat} {st : Nat → Nat} {sg pr a0 a1 : Nat → Int32} {K A B : Nat → Int32} {V0 V1 : Nat → Nat} {L1 : List ck_G} {m : Nat}
    {c l : Nat} {p : List (Nat × Nat)} {R : List ck_G} (h : ck_rch nc st sg pr a0 a1 K A B V0 V1 L1 m ((c, l, p) :: R)) (hm : 1 ≤ m)
    {K1 A1 B1 : Nat → Int32} {W0 W1 : Nat → Nat} (ha : ck_agr K A B V0 V1 K1 A1 B1 W0 W1 m) {a bb : Nat} (eK : K1 m = 1) (eA : A1 m = nI a) (eB : B1 m = nI bb)
    (hnc : nc ≤ 8) (hac : a < nc) (hbb : bb < st (a + 1) - st a) (hst : st (a + 1) - st a < 2 ^ 31) (hc : c < m) (hKc : ¬ K c = 2)
    (hv : ∀ j, j < m + 1 → ¬ K1 j = 2 → W0 j < 2 ∧ W1 j < 2) (hg : ck_gc sg pr a0 a1 W0 W1 c l m (st a + bb)) :
    ck_rch nc st sg pr a0 a1 K1 A1 B1 W0 W1 L1 (m + 1) (ck_gl m (st a + bb) ((c, l) :: p) (st (a + 1) - st a) (st a) ++ R) := by
  intro K' A' B' b hag hb r
  have h2 := h K' A' B' b (fun j hj => by
    obtain ⟨x, y, z⟩ := hag j (by omega)
    obtain ⟨x', y', z', _⟩ := ha j hj
    exact ⟨x.trans x', y.trans y', z.trans z'⟩) (ck_agr_bok ha hb) (r + 1)
  have e1 : r + (m + 1 - 1) = r + 1 + (m - 1) := by omega
  rw [e1, h2]
  obtain ⟨kK, kA, kB⟩ := hag m (by omega)
  have ca : (nI a).toNatClampNeg = a := nI_clamp (by omega)
  have cb : (nI bb).toNatClampNeg = bb := nI_clamp (by omega)
  have hcn : ck_conn sg pr a0 a1 b c l m (st a + bb) = 0 :=
    ck_conn_ok hb (by omega) (by rw [(ha c hc).1]; exact hKc) (by omega) (by rw [eK]; decide) hv hg
  have hs : ck_step nc st sg pr a0 a1 K' A' B' b m ((c, l, p) :: R) = (0, ck_gl m (st a + bb) ((c, l) :: p) (st (a + 1) - st a) (st a) ++ R) := by
    unfold ck_step
    dsimp only
    rw [kK, kA, kB, eK, eA, eB, ca, cb]
    rw [ck_if_f (by decide), ck_if_t rfl, ck_if_f (ck_out_nI hac (by omega)), ck_if_f (ck_out_nI hbb hst), ck_if_t hcn]
  show ck_go nc st sg pr a0 a1 K' A' B' b (r + 1) m ((c, l, p) :: R) = _
  rw [ck_go, hs, if_pos rfl]
theorem ck_rch_red {nc : Nat} {st : Nat → Nat} {sg pr a0 a1 : Nat → Int32} {K A B : Nat → Int32} {V0 V1 : Nat → Nat} {L1 : List ck_G} {m : Nat}
    {c l : Nat} {p : List (Nat × Nat)} {R : List ck_G} (h : ck_rch nc st sg pr a0 a1 K A B V0 V1 L1 m ((c, l, p) :: R)) (hm : 1 ≤ m)
    {K1 A1 B1 : Nat → Int32} {W0 W1 : Nat → Nat} (ha : ck_agr K A B V0 V1 K1 A1 B1 W0 W1 m) {e c2 l2 : Nat} (eK : K1 m = 2) (eA : A1 m = nI e)
    (he : e < p.length) (hp : p.length < 2 ^ 31) (hx : p.getD (p.length - 1 - e) (0, 0) = (c2, l2)) (hc : c < m) (hKc : ¬ K c = 2) (hc2 : c2 < m) (hKc2 : ¬ K c2 = 2)
    (hv : ∀ j, j < m + 1 → ¬ K1 j = 2 → W0 j < 2 ∧ W1 j < 2) (hg : ck_gc sg pr a0 a1 W0 W1 c l c2 l2) :
    ck_rch nc st sg pr a0 a1 K1 A1 B1 W0 W1 L1 (m + 1) R := by
  intro K' A' B' b hag hb r
  have h2 := h K' A' B' b (fun j hj => by
    obtain ⟨x, y, z⟩ := hag j (by omega)
    obtain ⟨x', y', z', _⟩ := ha j hj
    exact ⟨x.trans x', y.trans y', z.trans z'⟩) (ck_agr_bok ha hb) (r + 1)
  have e1 : r + (m + 1 - 1) = r + 1 + (m - 1) := by omega
  rw [e1, h2]
  obtain ⟨kK, kA, _⟩ := hag m (by omega)
  have ca : (nI e).toNatClampNeg = e := nI_clamp (by omega)
  have hcn : ck_conn sg pr a0 a1 b c l c2 l2 = 0 :=
    ck_conn_ok hb (by omega) (by rw [(ha c hc).1]; exact hKc) (by omega) (by rw [(ha c2 hc2).1]; exact hKc2) hv hg
  have hs : ck_step nc st sg pr a0 a1 K' A' B' b m ((c, l, p) :: R) = (0, R) := by
    unfold ck_step
    dsimp only
    rw [kK, kA, eK, eA, ca, hx]
    rw [ck_if_f (by decide), ck_if_f (by decide), ck_if_f (ck_out_nI he hp), hcn]
  show ck_go nc st sg pr a0 a1 K' A' B' b (r + 1) m ((c, l, p) :: R) = _
  rw [ck_go, hs, if_pos rfl]
/-- a finished proof: every buffer that holds it checks as valid -/
def ck_val (nc : Nat) (st : Nat → Nat) (sg pr a0 a1 : Nat → Int32) (K A B : Nat → Int32) (V0 V1 : Nat → Nat) (n : Nat) : Prop :=
  ∀ (K' A' B' : Nat → Int32) (b : Nat → Nat), (∀ j, j < n → K' j = K j ∧ A' j = A j ∧ B' j = B j) → ck_bok K V0 V1 n b →
    ck_all nc st sg pr a0 a1 K' A' B' b n = (0, -1)
theorem ck_rch_end {nc : Nat} {st : Nat → Nat} {sg pr a0 a1 : Nat → Int32} {K A B : Nat → Int32} {V0 V1 : Nat → Nat} {m a : Nat} (hm : 1 ≤ m)
    (eK : K 0 = 0) (eA : A 0 = nI a) (hnc : nc ≤ 8) (hac : a < nc)
    (h : ck_rch nc st sg pr a0 a1 K A B V0 V1 (ck_gl 0 16 [] (st (a + 1) - st a) (st a)) m []) : ck_val nc st sg pr a0 a1 K A B V0 V1 m := by
  intro K' A' B' b hag hb
  obtain ⟨k0, k1, _⟩ := hag 0 (by omega)
  have ca : (nI a).toNatClampNeg = a := nI_clamp (by omega)
  unfold ck_all
  rw [if_neg (by omega), k0, eK, if_pos rfl, k1, eA, ca, ck_if_f (ck_out_nI hac (by omega))]
  have h2 := h K' A' B' b hag hb 0
  rw [Nat.zero_add] at h2
  rw [h2]
  rfl
/-! the goals' lists -/
theorem ck_gl_mem {copy sk : Nat} {p : List (Nat × Nat)} : ∀ {n j : Nat} {g : ck_G}, g ∈ ck_gl copy sk p n j → g.1 = copy ∧ j ≤ g.2.1 ∧ g.2.1 < j + n ∧ ¬ g.2.1 = sk ∧ g.2.2 = p
  | 0, _, _, h => by cases h
  | n + 1, j, g, h => by
    unfold ck_gl at h
    by_cases e : j = sk
    · rw [if_pos e] at h
      obtain ⟨x, y, z, w, v⟩ := ck_gl_mem h
      exact ⟨x, by omega, by omega, w, v⟩
    · rw [if_neg e] at h
      rcases List.mem_cons.mp h with h | h
      · rw [h]
        exact ⟨rfl, Nat.le_refl j, by show j < j + (n + 1); omega, e, rfl⟩
      · obtain ⟨x, y, z, w, v⟩ := ck_gl_mem h
        exact ⟨x, by omega, by omega, w, v⟩
theorem ck_gl_len {copy sk : Nat} {p : List (Nat × Nat)} : ∀ (n j : Nat), (ck_gl copy sk p n j).length ≤ n
  | 0, _ => Nat.le_refl 0
  | n + 1, j => by
    unfold ck_gl
    have := ck_gl_len (copy := copy) (sk := sk) (p := p) n (j + 1)
    by_cases e : j = sk
    · rw [if_pos e]; omega
    · rw [if_neg e, List.length_cons]; omega
theorem ck_gl_len' {copy sk : Nat} {p : List (Nat × Nat)} : ∀ (n j : Nat), j ≤ sk → sk < j + n → (ck_gl copy sk p n j).length ≤ n - 1
  | 0, _, h1, h2 => by omega
  | n + 1, j, h1, h2 => by
    unfold ck_gl
    by_cases e : j = sk
    · rw [if_pos e]
      exact ck_gl_len n (j + 1)
    · rw [if_neg e, List.length_cons]
      have := ck_gl_len' (copy := copy) (sk := sk) (p := p) n (j + 1) (by omega) (by omega)
      omega
/-- what the goals of a list may still cost -/
def ck_pot : List ck_G → Nat
  | [] => 0
  | g :: L => cq_w g.2.2.length + ck_pot L
theorem ck_pot_app : ∀ (L M : List ck_G), ck_pot (L ++ M) = ck_pot L + ck_pot M
  | [], M => by simp [ck_pot]
  | g :: L, M => by
    show cq_w g.2.2.length + ck_pot (L ++ M) = cq_w g.2.2.length + ck_pot L + ck_pot M
    rw [ck_pot_app L M]; omega
theorem ck_pot_gl {copy sk : Nat} {p : List (Nat × Nat)} : ∀ (n j : Nat), ck_pot (ck_gl copy sk p n j) = (ck_gl copy sk p n j).length * cq_w p.length
  | 0, _ => by simp [ck_gl, ck_pot]
  | n + 1, j => by
    unfold ck_gl
    by_cases e : j = sk
    · rw [if_pos e]; exact ck_pot_gl n (j + 1)
    · rw [if_neg e]
      show cq_w p.length + ck_pot (ck_gl copy sk p n (j + 1)) = _
      rw [ck_pot_gl n (j + 1), List.length_cons, Nat.add_mul, Nat.one_mul]; omega
theorem ck_pot_len : ∀ (L : List ck_G), (∀ g, g ∈ L → g.2.2.length ≤ 5) → L.length ≤ ck_pot L
  | [], _ => Nat.le_refl 0
  | g :: L, h => by
    have h1 := cq_w_pos (h g (List.mem_cons_self))
    have h2 := ck_pot_len L (fun g' hg => h g' (List.mem_cons_of_mem g hg))
    show (g :: L).length ≤ cq_w g.2.2.length + ck_pot L
    rw [List.length_cons]; omega
