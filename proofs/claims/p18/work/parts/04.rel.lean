/-! the clauses: nc finished ones, nl literals in all, clause c begins at st c -/
def cd_at (x : Int32) : Prop := x = -1 ∨ ∃ t, t < 4 ∧ x = nI t
def cd_mk (M : Nat) (f : Nat → Int32) : Nat → Int32 := fun j => if j < M then f j else 0
theorem cd_mk_lt {M j : Nat} {f : Nat → Int32} (h : j < M) : cd_mk M f j = f j := if_pos h
theorem cd_mk_upd {M k : Nat} {f : Nat → Int32} {x : Int32} (h : M ≤ k) : cd_mk M (upd f k x) = cd_mk M f := by
  funext j
  by_cases hj : j < M
  · rw [cd_mk_lt hj, cd_mk_lt hj]
    exact pk_un (by omega)
  · unfold cd_mk
    rw [if_neg hj, if_neg hj]
def cd_lit (sg pr a0 a1 ar : Nat → Int32) (j : Nat) : Prop :=
  (sg j = 0 ∨ sg j = 1) ∧ (∃ p, p < 4 ∧ pr j = nI p ∧ ar p = nI (ck_ar (a0 j) (a1 j))) ∧ cd_at (a0 j) ∧ cd_at (a1 j) ∧ (a0 j = -1 → a1 j = -1)
def cd_wf (nc nl : Nat) (st : Nat → Nat) (sg pr a0 a1 ar : Nat → Int32) : Prop :=
  nc ≤ 8 ∧ nl ≤ 16 ∧ st 0 = 0 ∧ (∀ c, c < nc → st c ≤ st (c + 1) ∧ st (c + 1) ≤ st c + 3) ∧ st nc ≤ nl ∧ nl ≤ st nc + 3 ∧
  (∀ j, j < nl → cd_lit sg pr a0 a1 ar j) ∧ (∀ p, p < 4 → ar p = -1 ∨ ar p = 0 ∨ ar p = 1 ∨ ar p = 2)
theorem cd_mono {nc nl : Nat} {st : Nat → Nat} {sg pr a0 a1 ar : Nat → Int32} (h : cd_wf nc nl st sg pr a0 a1 ar) {c : Nat} : ∀ (d : Nat), c + d ≤ nc → st c ≤ st (c + d)
  | 0, _ => Nat.le_refl _
  | d + 1, hd => by
    have h1 := cd_mono h (c := c) d (by omega)
    have h2 := (h.2.2.2.1 (c + d) (by omega)).1
    show st c ≤ st (c + d + 1)
    omega
theorem cd_mono' {nc nl : Nat} {st : Nat → Nat} {sg pr a0 a1 ar : Nat → Int32} (h : cd_wf nc nl st sg pr a0 a1 ar) {c d : Nat} (hcd : c ≤ d) (hd : d ≤ nc) : st c ≤ st d := by
  obtain ⟨e, rfl⟩ : ∃ e, d = c + e := ⟨d - c, by omega⟩
  exact cd_mono h e hd
def cd_en (nc nl : Nat) (st : Nat → Nat) (c : Nat) : Nat := if c = nc then nl else st (c + 1)
theorem cd_en_nc {nc nl : Nat} {st : Nat → Nat} : cd_en nc nl st nc = nl := if_pos rfl
theorem cd_en_lt {nc nl : Nat} {st : Nat → Nat} {c : Nat} (h : c < nc) : cd_en nc nl st c = st (c + 1) := if_neg (by omega)
theorem cd_en_bd {nc nl : Nat} {st : Nat → Nat} {sg pr a0 a1 ar : Nat → Int32} (h : cd_wf nc nl st sg pr a0 a1 ar) {c : Nat} (hc : c ≤ nc) :
    st c ≤ cd_en nc nl st c ∧ cd_en nc nl st c ≤ st c + 3 ∧ cd_en nc nl st c ≤ nl := by
  obtain ⟨h1, h2, h3, h4, h5, h6, _⟩ := id h
  by_cases e : c = nc
  · rw [e, cd_en_nc]
    exact ⟨h5, h6, Nat.le_refl _⟩
  · rw [cd_en_lt (by omega)]
    obtain ⟨x, y⟩ := h4 c (by omega)
    have := cd_mono' h (c := c + 1) (d := nc) (by omega) (Nat.le_refl _)
    exact ⟨x, y, by omega⟩
def cd_own (nc nl : Nat) (st : Nat → Nat) (ow : Nat → Int32) : Prop :=
  ∀ j, j < nl → ∃ c, c ≤ nc ∧ ow j = nI c ∧ st c ≤ j ∧ j < cd_en nc nl st c
theorem cd_own_iff {nc nl : Nat} {st : Nat → Nat} {sg pr a0 a1 ar ow : Nat → Int32} (h : cd_wf nc nl st sg pr a0 a1 ar) (ho : cd_own nc nl st ow)
    {j c : Nat} (hj : j < nl) (hc : c ≤ nc) : ow j = nI c ↔ (st c ≤ j ∧ j < cd_en nc nl st c) := by
  obtain ⟨d, hd, e, h1, h2⟩ := ho j hj
  have hnc := h.1
  rw [e, nI_eq (by omega) (by omega)]
  constructor
  · intro x
    rw [← x]
    exact ⟨h1, h2⟩
  · intro ⟨x1, x2⟩
    apply Classical.byContradiction
    intro hne
    by_cases hlt : d < c
    · rw [cd_en_lt (by omega)] at h2
      have := cd_mono' h (c := d + 1) (d := c) (by omega) hc
      omega
    · rw [cd_en_lt (show c < nc by omega)] at x2
      have := cd_mono' h (c := c + 1) (d := d) (by omega) hd
      omega
/-! the relation -/
def xt_in (a : Nat) : Nat → Int32
  | 0 => 0
  | k + 1 => xt_in a k ||| (((nI k >>> (nI a &&& 31)) &&& 1) <<< (nI k &&& 31))
def cr_bx (b : Nat → Nat) (bd : Nat → Int32) : Prop := b 0 = 0 ∧ b 1 = 1 ∧ ∀ t, t < 514 → b t < 514 ∧ bd t = nI (b t)
def cr_by (b : Nat → Nat) (yb : Nat → Int32) : Prop := b 0 = 0 ∧ b 1 = 1 ∧ ∀ t, t < 514 → b t < 514 ∧ (2 ≤ t → yb (t - 2) = if b t = t then -1 else nI (b t))
def cr_cls (nc nl : Nat) (st : Nat → Nat) (cs ow sg pr a0 a1 ar : Nat → Int32) : Prop :=
  cd_wf nc nl st sg pr a0 a1 ar ∧ (∀ c, c ≤ nc → cs c = nI (st c)) ∧ cd_own nc nl st ow
def cr_fix (lh ph : Nat → Int32) : Prop :=
  (∀ a, a < 5 → lh (2 * a) = xt_in a 32 ∧ lh (2 * a + 1) = xt_in a 32 ^^^ (-1)) ∧ ph 0 = 0
/-- a buffer of n steps, with the binding b, checks as valid -/
def cr_ok (nc : Nat) (st : Nat → Nat) (sg pr a0 a1 K A B : Nat → Int32) (b : Nat → Nat) (n : Nat) : Prop :=
  ck_all nc st (cd_mk (st nc) sg) (cd_mk (st nc) pr) (cd_mk (st nc) a0) (cd_mk (st nc) a1) K A B b n = (0, -1)
def cr_buf (nc : Nat) (st : Nat → Nat) (sg pr a0 a1 : Nat → Int32) (sl : Int32) (ns bn : Nat) (xK xA xB bd yK yA yB yb : Nat → Int32) : Prop :=
  ns ≤ 256 ∧ bn ≤ 256 ∧
  ((sl = 0 ∧ bn = ns ∧ (∀ i, i < ns → yK i = xK i ∧ yA i = xA i ∧ yB i = xB i) ∧ ∃ b, cr_bx b bd ∧ cr_by b yb) ∨
   (sl = 1 ∧ (∃ b, cr_bx b bd ∧ cr_ok nc st sg pr a0 a1 xK xA xB b ns) ∧ (∃ b, cr_by b yb ∧ cr_ok nc st sg pr a0 a1 yK yA yB b bn)))
def cr_kx (nc : Nat) (st : Nat → Nat) (sg pr a0 a1 : Nat → Int32) (kc : Nat) (kK kA kB kI : Nat → Int32) : Prop :=
  ∃ q : Nat → Nat, kc ≤ 256 ∧ (∀ j, j < kc → ¬ kK j = 2 → q j < 32 ∧ kI j = nI (q j)) ∧
    ck_val nc st (cd_mk (st nc) sg) (cd_mk (st nc) pr) (cd_mk (st nc) a0) (cd_mk (st nc) a1) kK kA kB (fun j => q j / 2 % 2) (fun j => q j % 2) kc
def cr_ky (nc : Nat) (st : Nat → Nat) (sg pr a0 a1 : Nat → Int32) (kn : Nat) (kK kA kB kb : Nat → Int32) : Prop :=
  ∃ W0 W1 : Nat → Nat, kn ≤ 256 ∧ (∀ j, j < kn → ¬ kK j = 2 → W0 j < 2 ∧ W1 j < 2 ∧ kb (2 * j) = nI (W0 j) ∧ kb (2 * j + 1) = nI (W1 j)) ∧
    (∀ t, t < 512 → kb t = -1 ∨ kb t = 0 ∨ kb t = 1) ∧
    ck_val nc st (cd_mk (st nc) sg) (cd_mk (st nc) pr) (cd_mk (st nc) a0) (cd_mk (st nc) a1) kK kA kB W0 W1 kn
def cr_kept (nc : Nat) (st : Nat → Nat) (sg pr a0 a1 : Nat → Int32) (kp : Int32) (kc : Nat) (kK kA kB kI : Nat → Int32) (kn : Nat) (yK yA yB yb : Nat → Int32) : Prop :=
  kp = 0 ∨ (kp = 1 ∧ cr_kx nc st sg pr a0 a1 kc kK kA kB kI ∧ cr_ky nc st sg pr a0 a1 kn yK yA yB yb)
def cr_Q (nc nl : Nat) (st : Nat → Nat) (sl kp : Int32) (ns bn kc kn : Nat) (sg pr a0 a1 ar cs ow : Nat → Int32)
    (xK xA xB bd yK yA yB yb kK kA kB kI zK zA zB zb lh ph : Nat → Int32) : Prop :=
  cr_cls nc nl st cs ow sg pr a0 a1 ar ∧ cr_fix lh ph ∧ cr_buf nc st sg pr a0 a1 sl ns bn xK xA xB bd yK yA yB yb ∧
  cr_kept nc st sg pr a0 a1 kp kc kK kA kB kI kn zK zA zB zb