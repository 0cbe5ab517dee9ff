/-! the ground literals, pure -/
def cg_oc (a0 a1 : Nat → Int32) (t : Int32) : Nat → Bool
  | 0 => false
  | M + 1 => cg_oc a0 a1 t M || decide (a0 M = t ∨ a1 M = t)
def cg_op (pr : Nat → Int32) (p : Nat) : Nat → Bool
  | 0 => false
  | M + 1 => cg_op pr p M || decide (pr M = nI p)
theorem cg_oc_iff {a0 a1 : Nat → Int32} {t : Int32} : ∀ (M : Nat), cg_oc a0 a1 t M = true ↔ ∃ j, j < M ∧ (a0 j = t ∨ a1 j = t)
  | 0 => ⟨fun h => absurd (show false = true from h) (by decide), fun ⟨j, h, _⟩ => absurd h (Nat.not_lt_zero j)⟩
  | M + 1 => by
    unfold cg_oc
    rw [Bool.or_eq_true, cg_oc_iff M, decide_eq_true_iff]
    constructor
    · intro h
      rcases h with ⟨j, h1, h2⟩ | h
      · exact ⟨j, by omega, h2⟩
      · exact ⟨M, by omega, h⟩
    · intro ⟨j, h1, h2⟩
      by_cases e : j = M
      · exact Or.inr (e ▸ h2)
      · exact Or.inl ⟨j, by omega, h2⟩
theorem cg_op_iff {pr : Nat → Int32} {p : Nat} : ∀ (M : Nat), cg_op pr p M = true ↔ ∃ j, j < M ∧ pr j = nI p
  | 0 => ⟨fun h => absurd (show false = true from h) (by decide), fun ⟨j, h, _⟩ => absurd h (Nat.not_lt_zero j)⟩
  | M + 1 => by
    unfold cg_op
    rw [Bool.or_eq_true, cg_op_iff M, decide_eq_true_iff]
    constructor
    · intro h
      rcases h with ⟨j, h1, h2⟩ | h
      · exact ⟨j, by omega, h2⟩
      · exact ⟨M, by omega, h⟩
    · intro ⟨j, h1, h2⟩
      by_cases e : j = M
      · exact Or.inr (e ▸ h2)
      · exact Or.inl ⟨j, by omega, h2⟩
def cg_sz (two : Bool) : Nat := if two = true then 2 else 1
def cg_at (pr ar : Nat → Int32) (M : Nat) (two : Bool) (p : Nat) : Nat := if cg_op pr p M = true then cg_sz two ^ (ar p).toNatClampNeg else 0
def cg_base (pr ar : Nat → Int32) (M : Nat) (two : Bool) : Nat → Nat
  | 0 => 0
  | p + 1 => cg_base pr ar M two p + cg_at pr ar M two p
theorem cg_base_mono {pr ar : Nat → Int32} {M : Nat} {two : Bool} {p : Nat} : ∀ d, cg_base pr ar M two p ≤ cg_base pr ar M two (p + d)
  | 0 => Nat.le_refl _
  | d + 1 => Nat.le_trans (cg_base_mono d) (Nat.le_add_right _ _)
theorem cg_base_lt {pr ar : Nat → Int32} {M : Nat} {two : Bool} {p q : Nat} (h : p < q) : cg_base pr ar M two p + cg_at pr ar M two p ≤ cg_base pr ar M two q := by
  obtain ⟨d, rfl⟩ : ∃ d, q = p + 1 + d := ⟨q - (p + 1), by omega⟩
  exact cg_base_mono (p := p + 1) d
def cg_vl (t : Int32) (x y : Nat) : Nat := if t = 2 then x else if t = 3 then y else t.toNatClampNeg
def cg_tup (a0 a1 : Nat → Int32) (two : Bool) (j x y : Nat) : Nat :=
  if two = true then (if ck_ar (a0 j) (a1 j) = 0 then 0 else if ck_ar (a0 j) (a1 j) = 1 then cg_vl (a0 j) x y else 2 * cg_vl (a0 j) x y + cg_vl (a1 j) x y) else 0
def cg_gl (sg pr a0 a1 ar : Nat → Int32) (M : Nat) (two : Bool) (j x y : Nat) : Nat :=
  2 * (cg_base pr ar M two (pr j).toNatClampNeg + cg_tup a0 a1 two j x y) + (sg j).toNatClampNeg
theorem cg_vl_lt {t : Int32} {x y : Nat} (ht : ∃ n, n < 4 ∧ t = nI n) (hx : x < 2) (hy : y < 2) : cg_vl t x y < 2 := by
  obtain ⟨n, hn, e⟩ := ht
  unfold cg_vl
  by_cases e2 : t = 2
  · rw [if_pos e2]; exact hx
  · rw [if_neg e2]
    by_cases e3 : t = 3
    · rw [if_pos e3]; exact hy
    · rw [if_neg e3, e, nI_clamp (by omega)]
      have h2 : ¬ n = 2 := fun z => e2 (by rw [e, z]; rfl)
      have h3 : ¬ n = 3 := fun z => e3 (by rw [e, z]; rfl)
      omega
/-- what is known of a literal of a finished clause -/
theorem cg_lit {nc nl : Nat} {st : Nat → Nat} {sg pr a0 a1 ar : Nat → Int32} (hw : cd_wf nc nl st sg pr a0 a1 ar) {j : Nat} (hj : j < st nc) :
    (sg j).toNatClampNeg < 2 ∧ sg j = nI (sg j).toNatClampNeg ∧ (pr j).toNatClampNeg < 4 ∧ pr j = nI (pr j).toNatClampNeg ∧
    (ar (pr j).toNatClampNeg).toNatClampNeg = ck_ar (a0 j) (a1 j) ∧ cg_op pr (pr j).toNatClampNeg (st nc) = true ∧
    (1 ≤ ck_ar (a0 j) (a1 j) → ∃ n, n < 4 ∧ a0 j = nI n) ∧ (2 ≤ ck_ar (a0 j) (a1 j) → ∃ n, n < 4 ∧ a1 j = nI n) ∧ ck_ar (a0 j) (a1 j) ≤ 2 := by
  have hjl : j < nl := Nat.lt_of_lt_of_le hj hw.2.2.2.2.1
  obtain ⟨l1, ⟨p, hp, ep, ea⟩, l3, l4, l5⟩ := hw.2.2.2.2.2.2.1 j hjl
  obtain ⟨a2, arg⟩ := cd_arg hw hjl
  have cp : (pr j).toNatClampNeg = p := by rw [ep]; exact nI_clamp (by omega)
  rw [cp]
  refine ⟨?_, ?_, hp, ep, ?_, (cg_op_iff _).mpr ⟨j, hj, ep⟩, fun h => ?_, fun h => ?_, a2⟩
  · rcases l1 with e | e <;> rw [e] <;> decide
  · rcases l1 with e | e <;> rw [e] <;> decide
  · rw [ea]; exact nI_clamp (by omega)
  · obtain ⟨t, ht, e, _⟩ := arg 0 (by omega)
    rw [if_pos rfl] at e
    exact ⟨t, ht, e⟩
  · obtain ⟨t, ht, e, _⟩ := arg 1 (by omega)
    rw [if_neg (by decide)] at e
    exact ⟨t, ht, e⟩
theorem cg_tup_lt {nc nl : Nat} {st : Nat → Nat} {sg pr a0 a1 ar : Nat → Int32} (hw : cd_wf nc nl st sg pr a0 a1 ar) {j x y : Nat} {two : Bool} (hj : j < st nc) (hx : x < 2) (hy : y < 2) :
    cg_tup a0 a1 two j x y < cg_at pr ar (st nc) two (pr j).toNatClampNeg := by
  obtain ⟨_, _, _, _, har, hop, h0, h1, h2⟩ := cg_lit hw hj
  unfold cg_at cg_tup
  rw [if_pos hop, har]
  unfold cg_sz
  by_cases t : two = true
  · rw [if_pos t, if_pos t]
    have c : ck_ar (a0 j) (a1 j) = 0 ∨ ck_ar (a0 j) (a1 j) = 1 ∨ ck_ar (a0 j) (a1 j) = 2 := by omega
    rcases c with c | c | c
    · rw [c, if_pos rfl]; decide
    · rw [c, if_neg (by decide), if_pos rfl]
      have := cg_vl_lt (h0 (by omega)) hx hy
      omega
    · rw [c, if_neg (by decide), if_neg (by decide)]
      have := cg_vl_lt (h0 (by omega)) hx hy
      have := cg_vl_lt (h1 (by omega)) hx hy
      omega
  · rw [if_neg t, if_neg t, Nat.one_pow]
    omega
theorem cg_gl_lt {nc nl : Nat} {st : Nat → Nat} {sg pr a0 a1 ar : Nat → Int32} (hw : cd_wf nc nl st sg pr a0 a1 ar) {j x y : Nat} {two : Bool} (hj : j < st nc) (hx : x < 2) (hy : y < 2) :
    cg_gl sg pr a0 a1 ar (st nc) two j x y < 2 * cg_base pr ar (st nc) two 4 := by
  obtain ⟨hs, _, hp, _⟩ := cg_lit hw hj
  have h1 := cg_tup_lt (two := two) hw hj hx hy
  have h2 := cg_base_lt (pr := pr) (ar := ar) (M := st nc) (two := two) hp
  unfold cg_gl
  omega
/-- the constants that count -/
def cg_U (o0 o1 : Bool) (x : Nat) : Prop := (x = 0 ∧ (o0 = true ∨ o1 = false)) ∨ (x = 1 ∧ o1 = true)
theorem cg_U_lt {o0 o1 : Bool} {x : Nat} (h : cg_U o0 o1 x) : x < 2 := by
  rcases h with h | h <;> omega
theorem cg_U_one {o0 o1 : Bool} {x x' : Nat} (h : cg_U o0 o1 x) (h' : cg_U o0 o1 x') (ht : ¬ (o0 && o1) = true) : x = x' := by
  cases o0 <;> cases o1 <;> simp [cg_U] at h h' ht <;> omega
theorem cg_U_vl {nc nl : Nat} {st : Nat → Nat} {sg pr a0 a1 ar : Nat → Int32} (hw : cd_wf nc nl st sg pr a0 a1 ar) {j x y : Nat} (hj : j < st nc) {t : Int32} (ht : ∃ n, n < 4 ∧ t = nI n) (hj2 : a0 j = t ∨ a1 j = t)
    (hx : cg_U (cg_oc a0 a1 0 (st nc)) (cg_oc a0 a1 1 (st nc)) x) (hy : cg_U (cg_oc a0 a1 0 (st nc)) (cg_oc a0 a1 1 (st nc)) y) :
    cg_U (cg_oc a0 a1 0 (st nc)) (cg_oc a0 a1 1 (st nc)) (cg_vl t x y) := by
  obtain ⟨n, hn, e⟩ := ht
  unfold cg_vl
  by_cases e2 : t = 2
  · rw [if_pos e2]; exact hx
  · rw [if_neg e2]
    by_cases e3 : t = 3
    · rw [if_pos e3]; exact hy
    · rw [if_neg e3, e, nI_clamp (by omega)]
      have h2 : ¬ n = 2 := fun z => e2 (by rw [e, z]; rfl)
      have h3 : ¬ n = 3 := fun z => e3 (by rw [e, z]; rfl)
      have : n = 0 ∨ n = 1 := by omega
      rcases this with z | z
      · subst z
        exact Or.inl ⟨rfl, Or.inl ((cg_oc_iff _).mpr ⟨j, hj, by rw [← nI_0, ← e]; exact hj2⟩)⟩
      · subst z
        exact Or.inr ⟨rfl, (cg_oc_iff _).mpr ⟨j, hj, by rw [show (1 : Int32) = nI 1 from rfl, ← e]; exact hj2⟩⟩
theorem cg_vl_gv {V0 V1 : Nat → Nat} {c : Nat} {t : Int32} {n : Nat} (hn : n < 4) (e : t = nI n) : cg_vl t (V0 c) (V1 c) = ck_gv V0 V1 c n := by
  unfold cg_vl ck_gv
  by_cases h2 : n = 2
  · rw [if_pos (by rw [e, h2]; rfl), if_pos h2]
  · rw [if_neg (fun z => h2 (by rw [e, show (2 : Int32) = nI 2 from rfl, nI_eq (by omega) (by omega)] at z; exact z)), if_neg h2]
    by_cases h3 : n = 3
    · rw [if_pos (by rw [e, h3]; rfl), if_pos h3]
    · rw [if_neg (fun z => h3 (by rw [e, show (3 : Int32) = nI 3 from rfl, nI_eq (by omega) (by omega)] at z; exact z)), if_neg h3, e]
      exact nI_clamp (by omega)
/-- complementary ground literals are a ground connection -/
theorem cg_conn {nc nl : Nat} {st : Nat → Nat} {sg pr a0 a1 ar : Nat → Int32} (hw : cd_wf nc nl st sg pr a0 a1 ar) {V0 V1 : Nat → Nat} {c1 l1 c2 l2 : Nat} (h1 : l1 < st nc) (h2 : l2 < st nc)
    (ux1 : cg_U (cg_oc a0 a1 0 (st nc)) (cg_oc a0 a1 1 (st nc)) (V0 c1)) (uy1 : cg_U (cg_oc a0 a1 0 (st nc)) (cg_oc a0 a1 1 (st nc)) (V1 c1))
    (ux2 : cg_U (cg_oc a0 a1 0 (st nc)) (cg_oc a0 a1 1 (st nc)) (V0 c2)) (uy2 : cg_U (cg_oc a0 a1 0 (st nc)) (cg_oc a0 a1 1 (st nc)) (V1 c2))
    (e : cg_gl sg pr a0 a1 ar (st nc) (cg_oc a0 a1 0 (st nc) && cg_oc a0 a1 1 (st nc)) l1 (V0 c1) (V1 c1) = cq_neg (cg_gl sg pr a0 a1 ar (st nc) (cg_oc a0 a1 0 (st nc) && cg_oc a0 a1 1 (st nc)) l2 (V0 c2) (V1 c2))) :
    ck_gc (cd_mk (st nc) sg) (cd_mk (st nc) pr) (cd_mk (st nc) a0) (cd_mk (st nc) a1) V0 V1 c1 l1 c2 l2 := by
  have M0 : ∀ l, l < st nc → ∀ p, ck_ag (cd_mk (st nc) a0) (cd_mk (st nc) a1) l p = ck_ag a0 a1 l p := by
    intro l hl p
    unfold ck_ag
    rw [cd_mk_lt hl, cd_mk_lt hl]
  unfold ck_gc
  rw [cd_mk_lt h1, cd_mk_lt h1, cd_mk_lt h1, cd_mk_lt h1, cd_mk_lt h2, cd_mk_lt h2]
  obtain ⟨s1, es1, p1, ep1, ar1, op1, f01, f11, le1⟩ := cg_lit hw h1
  obtain ⟨s2, es2, p2, ep2, ar2, op2, f02, f12, le2⟩ := cg_lit hw h2
  generalize hT : (cg_oc a0 a1 0 (st nc) && cg_oc a0 a1 1 (st nc)) = two at e
  have t1 := cg_tup_lt (two := two) hw h1 (cg_U_lt ux1) (cg_U_lt uy1)
  have t2 := cg_tup_lt (two := two) hw h2 (cg_U_lt ux2) (cg_U_lt uy2)
  have d := cq_neg_div (cg_gl sg pr a0 a1 ar (st nc) two l2 (V0 c2) (V1 c2))
  have m := cq_neg_mod (cg_gl sg pr a0 a1 ar (st nc) two l2 (V0 c2) (V1 c2))
  rw [← e] at d m
  unfold cg_gl at d m
  have ed : cg_base pr ar (st nc) two (pr l1).toNatClampNeg + cg_tup a0 a1 two l1 (V0 c1) (V1 c1) = cg_base pr ar (st nc) two (pr l2).toNatClampNeg + cg_tup a0 a1 two l2 (V0 c2) (V1 c2) := by omega
  have em : (sg l1).toNatClampNeg = 1 - (sg l2).toNatClampNeg := by omega
  have ep : (pr l1).toNatClampNeg = (pr l2).toNatClampNeg := by
    apply Classical.byContradiction
    intro hne
    by_cases hlt : (pr l1).toNatClampNeg < (pr l2).toNatClampNeg
    · have := cg_base_lt (pr := pr) (ar := ar) (M := st nc) (two := two) hlt
      omega
    · have := cg_base_lt (pr := pr) (ar := ar) (M := st nc) (two := two) (p := (pr l2).toNatClampNeg) (q := (pr l1).toNatClampNeg) (by omega)
      omega
  have eT : cg_tup a0 a1 two l1 (V0 c1) (V1 c1) = cg_tup a0 a1 two l2 (V0 c2) (V1 c2) := by
    rw [ep] at ed
    omega
  have eA : ck_ar (a0 l2) (a1 l2) = ck_ar (a0 l1) (a1 l1) := by rw [← ar1, ← ar2, ep]
  refine ⟨fun z => ?_, by rw [ep1, ep2, ep], fun pos hpos => ?_⟩
  · rw [z] at em
    omega
  · rw [M0 l1 h1, M0 l2 h2]
    obtain ⟨n1, hn1, e1, g1⟩ := (cd_arg hw (Nat.lt_of_lt_of_le h1 hw.2.2.2.2.1)).2 pos hpos
    obtain ⟨n2, hn2, e2, g2⟩ := (cd_arg hw (Nat.lt_of_lt_of_le h2 hw.2.2.2.2.1)).2 pos (by rw [eA]; exact hpos)
    rw [g1, g2]
    refine ⟨hn1, hn2, ?_⟩
    rw [← cg_vl_gv hn1 e1, ← cg_vl_gv hn2 e2]
    have w1 : cg_U (cg_oc a0 a1 0 (st nc)) (cg_oc a0 a1 1 (st nc)) (cg_vl (if pos = 0 then a0 l1 else a1 l1) (V0 c1) (V1 c1)) :=
      cg_U_vl hw h1 ⟨n1, hn1, e1⟩ (by by_cases z : pos = 0 <;> simp [z]) ux1 uy1
    have w2 : cg_U (cg_oc a0 a1 0 (st nc)) (cg_oc a0 a1 1 (st nc)) (cg_vl (if pos = 0 then a0 l2 else a1 l2) (V0 c2) (V1 c2)) :=
      cg_U_vl hw h2 ⟨n2, hn2, e2⟩ (by by_cases z : pos = 0 <;> simp [z]) ux2 uy2
    by_cases ht : two = true
    · unfold cg_tup at eT
      rw [if_pos ht, if_pos ht, eA] at eT
      have c : ck_ar (a0 l1) (a1 l1) = 1 ∨ ck_ar (a0 l1) (a1 l1) = 2 := by omega
      rcases c with c | c
      · rw [c, if_neg (by decide), if_pos rfl, if_neg (by decide), if_pos rfl] at eT
        have : pos = 0 := by omega
        rw [if_pos this, if_pos this]
        exact eT
      · rw [c, if_neg (by decide), if_neg (by decide), if_neg (by decide), if_neg (by decide)] at eT
        have b1 := cg_vl_lt (f01 (by omega)) (cg_U_lt ux1) (cg_U_lt uy1)
        have b2 := cg_vl_lt (f11 (by omega)) (cg_U_lt ux1) (cg_U_lt uy1)
        have b3 := cg_vl_lt (f02 (by omega)) (cg_U_lt ux2) (cg_U_lt uy2)
        have b4 := cg_vl_lt (f12 (by omega)) (cg_U_lt ux2) (cg_U_lt uy2)
        by_cases z : pos = 0
        · rw [if_pos z, if_pos z]
          omega
        · rw [if_neg z, if_neg z]
          omega
    · exact cg_U_one w1 w2 (by rw [hT]; exact ht)
