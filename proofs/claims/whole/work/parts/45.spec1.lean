/-! squares: what the document says of them -/
def qA (w : Nat) (st : Nat → Nat) : Nat := w + 1 - st 0
def qN (w h : Nat) (st : Nat → Nat) : Nat := qA w st * qA h st
def qP (w : Nat) (st : Nat → Nat) (s : Nat) : Nat := 16 * (s / qA w st) + s % qA w st
def qG (g st : Nat → Nat) (p i : Nat) : Nat := g (p + 16 * (i / st 0) + i % st 0)
def mnU (f : Nat → Nat) : Nat → Nat
  | 0 => 99
  | n + 1 => min (mnU f n) (f n)
def mxU (f : Nat → Nat) : Nat → Nat
  | 0 => 0
  | n + 1 => max (mxU f n) (f n)
def qS (st : Nat → Nat) : Nat := st 0 * st 0
def qMn (g st : Nat → Nat) (p : Nat) : Nat := mnU (qG g st p) (qS st)
def qMx (g st : Nat → Nat) (p : Nat) : Nat := mxU (qG g st p) (qS st)
def qNu (g st : Nat → Nat) (p i : Nat) : Nat := (qG g st p i - (if st 2 = 1 then qMn g st p else 0)) / st 1
def qFl (g st : Nat → Nat) (p : Nat) : Prop := qMx g st p - qMn g st p ≤ st 3
def qAl (g st : Nat → Nat) (p q : Nat) : Prop := ∀ i, i < qS st → qNu g st p i = qNu g st q i
def cmpI (a b : Nat → Nat) : Nat → Nat → Int
  | _, 0 => 0
  | i, d + 1 => if a i = b i then cmpI a b (i + 1) d else (a i : Int) - b i
def qC (g st : Nat → Nat) (p q : Nat) : Int := cmpI (qNu g st p) (qNu g st q) 0 (qS st)
theorem mnU_le (f : Nat → Nat) : ∀ n i, i < n → mnU f n ≤ f i
  | 0, i, h => by omega
  | n + 1, i, h => by
    unfold mnU
    by_cases e : i = n
    · subst e; omega
    · have := mnU_le f n i (by omega)
      omega
theorem mnU_99 (f : Nat → Nat) : ∀ n, mnU f n ≤ 99
  | 0 => Nat.le_refl _
  | n + 1 => by
    have := mnU_99 f n
    unfold mnU
    omega
theorem mxU_ge (f : Nat → Nat) : ∀ n i, i < n → f i ≤ mxU f n
  | 0, i, h => by omega
  | n + 1, i, h => by
    unfold mxU
    by_cases e : i = n
    · subst e; omega
    · have := mxU_ge f n i (by omega)
      omega
theorem mxU_le (f : Nat → Nat) (m : Nat) : ∀ n, (∀ i, i < n → f i ≤ m) → mxU f n ≤ m
  | 0, _ => Nat.zero_le _
  | n + 1, h => by
    have h1 := mxU_le f m n (fun i hi => h i (by omega))
    have h2 := h n (by omega)
    unfold mxU
    omega
theorem qAl_rfl {g st : Nat → Nat} {p : Nat} : qAl g st p p := fun _ _ => rfl
theorem qAl_sym {g st : Nat → Nat} {p q : Nat} (h : qAl g st p q) : qAl g st q p := fun i hi => (h i hi).symm
theorem qAl_trans {g st : Nat → Nat} {p q r : Nat} (h : qAl g st p q) (h2 : qAl g st q r) : qAl g st p r := fun i hi => (h i hi).trans (h2 i hi)
theorem cmpI_0 {a b : Nat → Nat} : ∀ (d i : Nat), cmpI a b i d = 0 ↔ ∀ j, i ≤ j → j < i + d → a j = b j
  | 0, i => by
    unfold cmpI
    exact ⟨fun _ j h1 h2 => by omega, fun _ => rfl⟩
  | d + 1, i => by
    unfold cmpI
    by_cases e : a i = b i
    · rw [if_pos e, cmpI_0 d (i + 1)]
      constructor
      · intro h j h1 h2
        by_cases e2 : j = i
        · subst e2; exact e
        · exact h j (by omega) (by omega)
      · intro h j h1 h2
        exact h j (by omega) (by omega)
    · rw [if_neg e]
      constructor
      · intro h; omega
      · intro h; exact absurd (h i (by omega) (by omega)) e
theorem qC_0 {g st : Nat → Nat} {p q : Nat} : qC g st p q = 0 ↔ qAl g st p q := by
  unfold qC qAl
  rw [cmpI_0]
  constructor
  · intro h i hi; exact h i (by omega) (by omega)
  · intro h j _ h2; exact h j (by omega)
/-- a place at which a square lies within sixteen rows and columns -/
def OKp (st : Nat → Nat) (p : Nat) : Prop := p % 16 + st 0 ≤ 16 ∧ p / 16 + st 0 ≤ 16
def OKs (st : Nat → Nat) : Prop := ∀ k, k < 8 → lowN k ≤ st k ∧ st k ≤ highN k
theorem OKs.side {st : Nat → Nat} (h : OKs st) : 2 ≤ st 0 ∧ st 0 ≤ 4 := h 0 (by omega)
theorem OKs.step {st : Nat → Nat} (h : OKs st) : 1 ≤ st 1 ∧ st 1 ≤ 20 := h 1 (by omega)
theorem OKs.man {st : Nat → Nat} (h : OKs st) : st 2 ≤ 1 := (h 2 (by omega)).2
theorem OKs.flat {st : Nat → Nat} (h : OKs st) : st 3 ≤ 99 := (h 3 (by omega)).2
theorem OKs.reach {st : Nat → Nat} (h : OKs st) : 1 ≤ st 4 ∧ st 4 ≤ 15 := h 4 (by omega)
theorem OKs.crowd {st : Nat → Nat} (h : OKs st) : 2 ≤ st 5 ∧ st 5 ≤ 20 := h 5 (by omega)
theorem OKs.least {st : Nat → Nat} (h : OKs st) : 1 ≤ st 6 ∧ st 6 ≤ 99 := h 6 (by omega)
theorem OKs.slack {st : Nat → Nat} (h : OKs st) : st 7 ≤ 30 := (h 7 (by omega)).2
theorem OKs.sq {st : Nat → Nat} (h : OKs st) : 4 ≤ qS st ∧ qS st ≤ 16 := by
  have := h.side
  unfold qS
  have h3 : st 0 = 2 ∨ st 0 = 3 ∨ st 0 = 4 := by omega
  rcases h3 with e | e | e <;> rw [e] <;> decide
theorem qG_ix {st : Nat → Nat} {p i : Nat} (h : OKs st) (hp : OKp st p) (hi : i < qS st) : p + 16 * (i / st 0) + i % st 0 < 256 := by
  have hs := h.side
  have h1 : i / st 0 < st 0 := Nat.div_lt_of_lt_mul hi
  have h2 : i % st 0 < st 0 := Nat.mod_lt _ (by omega)
  obtain ⟨h3, h4⟩ := hp
  generalize i / st 0 = a at *
  generalize i % st 0 = b at *
  omega
theorem qG_99 {g st : Nat → Nat} {p i : Nat} (h : OKs st) (hg : ∀ q, q < 256 → g q ≤ 99) (hp : OKp st p) (hi : i < qS st) : qG g st p i ≤ 99 := hg _ (qG_ix h hp hi)
theorem qMn_99 {g st : Nat → Nat} {p : Nat} : qMn g st p ≤ 99 := mnU_99 _ _
theorem qMx_99 {g st : Nat → Nat} {p : Nat} (h : OKs st) (hg : ∀ q, q < 256 → g q ≤ 99) (hp : OKp st p) : qMx g st p ≤ 99 := mxU_le _ _ _ (fun _ hi => qG_99 h hg hp hi)
theorem qMn_Mx {g st : Nat → Nat} {p : Nat} (h : OKs st) : qMn g st p ≤ qMx g st p := Nat.le_trans (mnU_le _ _ 0 (by have := h.sq; omega)) (mxU_ge _ _ 0 (by have := h.sq; omega))
theorem qMn_G {g st : Nat → Nat} {p i : Nat} (hi : i < qS st) : qMn g st p ≤ qG g st p i := mnU_le _ _ i hi
theorem qNu_99 {g st : Nat → Nat} {p i : Nat} (h : OKs st) (hg : ∀ q, q < 256 → g q ≤ 99) (hp : OKp st p) (hi : i < qS st) : qNu g st p i ≤ 99 := by
  unfold qNu
  have h1 := qG_99 h hg hp hi
  refine Nat.le_trans (Nat.div_le_self _ _) ?_
  omega
theorem qA_15 {w : Nat} {st : Nat → Nat} (h : OKs st) (hw : w ≤ 16) : qA w st ≤ 15 := by
  have := h.side
  unfold qA
  omega
theorem qN_225 {w h : Nat} {st : Nat → Nat} (hs : OKs st) (hw : w ≤ 16) (hh : h ≤ 16) : qN w h st ≤ 225 := by
  unfold qN
  exact Nat.mul_le_mul (qA_15 hs hw) (qA_15 hs hh)
theorem qP_xy {w : Nat} {st : Nat → Nat} {x y : Nat} (hx : x < qA w st) : qP w st (qA w st * y + x) = 16 * y + x := by
  unfold qP
  rw [Nat.mul_add_div (by omega), Nat.mul_add_mod, Nat.div_eq_of_lt hx, Nat.mod_eq_of_lt hx]
  omega
theorem OKp_xy {w h : Nat} {st : Nat → Nat} {x y : Nat} (hs : OKs st) (hw : w ≤ 16) (hh : h ≤ 16) (hx : x < qA w st) (hy : y < qA h st) : OKp st (16 * y + x) := by
  have := hs.side
  unfold qA at hx hy
  unfold OKp
  omega
/-- every square has a column and a row -/
theorem q_xy {w h : Nat} {st : Nat → Nat} {s : Nat} (hs : s < qN w h st) : ∃ x y, x < qA w st ∧ y < qA h st ∧ s = qA w st * y + x := by
  have hA : 0 < qA w st := by
    rcases Nat.eq_zero_or_pos (qA w st) with e | e
    · unfold qN at hs; rw [e] at hs; simp at hs
    · exact e
  refine ⟨s % qA w st, s / qA w st, Nat.mod_lt _ hA, Nat.div_lt_of_lt_mul hs, (Nat.div_add_mod s _).symm⟩
theorem OKp_s {w h : Nat} {st : Nat → Nat} {s : Nat} (hs : OKs st) (hw : w ≤ 16) (hh : h ≤ 16) (hq : s < qN w h st) : OKp st (qP w st s) := by
  obtain ⟨x, y, hx, hy, rfl⟩ := q_xy hq
  rw [qP_xy hx]
  exact OKp_xy hs hw hh hx hy
theorem qP_256 {w h : Nat} {st : Nat → Nat} {s : Nat} (hs : OKs st) (hw : w ≤ 16) (hh : h ≤ 16) (hq : s < qN w h st) : qP w st s < 256 := by
  have h1 := OKp_s hs hw hh hq
  have := hs.side
  unfold OKp at h1
  omega
theorem qP_lt {w h : Nat} {st : Nat → Nat} {s t : Nat} (hs : OKs st) (hw : w ≤ 16) (hq : s < qN w h st) (hq2 : t < qN w h st) : qP w st s < qP w st t ↔ s < t := by
  have hA := qA_15 hs hw
  obtain ⟨x, y, hx, hy, rfl⟩ := q_xy hq
  obtain ⟨x', y', hx', hy', rfl⟩ := q_xy hq2
  rw [qP_xy hx, qP_xy hx']
  generalize qA w st = A at *
  constructor
  · intro h
    by_cases e : y = y'
    · subst e; omega
    · have : y < y' := by omega
      have h2 : A * (y + 1) ≤ A * y' := Nat.mul_le_mul_left A this
      rw [Nat.mul_add] at h2
      omega
  · intro h
    by_cases e : y = y'
    · subst e; omega
    · by_cases e2 : y < y'
      · omega
      · have : y' < y := by omega
        have h2 : A * (y' + 1) ≤ A * y := Nat.mul_le_mul_left A this
        rw [Nat.mul_add] at h2
        omega
theorem qP_inj {w h : Nat} {st : Nat → Nat} {s t : Nat} (hs : OKs st) (hw : w ≤ 16) (hq : s < qN w h st) (hq2 : t < qN w h st) (e : qP w st s = qP w st t) : s = t := by
  have h1 := (qP_lt (h := h) hs hw hq hq2)
  have h2 := (qP_lt (h := h) hs hw hq2 hq)
  omega
