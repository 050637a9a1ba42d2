/-! what a finding holds lies in the picture, and so does its copy -/
theorem zW_cp {w h : Nat} {g st : Nat → Nat} (ho : OKs st) (hw : w ≤ 16) (hh : h ≤ 16) {k q : Nat} (hz : zW w h g st k q) : 15 ≤ q % 16 + zT w h g st k % 31 ∧ q % 16 + zT w h g st k % 31 + st 0 ≤ w + 15 ∧ q / 16 + zT w h g st k / 31 + st 0 ≤ h := by
  obtain ⟨j, hj, h1, h2, h3⟩ := hz
  have hm := prL_mem.mp (getD_mem (z := (0, 0)) hj)
  generalize (prL w h g st).getD j (0, 0) = e at *
  have hs1 : e.1 < qN w h st := by omega
  have hle := pl_le ho hw hs1 hm.2.1 hm.1
  have q2 := qP_256 ho hw hh hm.2.1
  have i2 := sq_in (w := w) (h := h) ho hm.2.1
  rw [← h1, ← h2, ← h3]
  unfold zX zY
  omega
theorem zWd_cp {w h : Nat} {g st : Nat → Nat} (ho : OKs st) (hw : w ≤ 16) (hh : h ≤ 16) {r : Nat} (hr : r < (zRL w h g st).length) {q : Nat} (hq : zWd w h g st r q) : cpI w h (zv w h g st r) q := by
  obtain ⟨p, i, j, h1, h2, h3, h4, h5⟩ := hq
  have a1 := zRA_in ho hw hr h2
  have a2 := zW_cp ho hw hh (rgS_W (rgA_in (zE2_mem hr).2.2 h2))
  unfold cpI zv
  omega
theorem zGr_in {w h : Nat} {g st : Nat → Nat} (ho : OKs st) (hw : w ≤ 16) (hh : h ≤ 16) {r : Nat} (hr : r < (zRL w h g st).length) {q : Nat} (hq : zGr w h g st r q) : q % 16 < w ∧ q / 16 < h ∧ cpI w h (zv w h g st r) q := by
  refine hq (fun q => q % 16 < w ∧ q / 16 < h ∧ cpI w h (zv w h g st r) q) (fun x _ hx => ?_) (fun _ x _ _ _ _ hx => ⟨hx.1, hx.2.1, hx.2.2.1⟩)
  have := zWd_in ho hw hr hx
  exact ⟨this.1, this.2, zWd_cp ho hw hh hr hx⟩
theorem zGr_ne {w h : Nat} {g st : Nat → Nat} (ho : OKs st) {r : Nat} (hr : r < (zRL w h g st).length) : ∃ p, p < 256 ∧ zGr w h g st r p := by
  have hsd := ho.side
  have m := (zE2_mem hr).2.1
  refine ⟨zp w h g st r, m, cl_seed m ⟨zp w h g st r, 0, 0, m, zp_RA hr, (by omega), (by omega), by omega⟩⟩
/-! the least and the greatest -/
def Lst (A : Nat → Prop) (f : Nat → Nat) (x : Nat) : Prop := (∃ p, p < 256 ∧ A p ∧ f p = x) ∧ ∀ p, p < 256 → A p → x ≤ f p
def Gst (A : Nat → Prop) (f : Nat → Nat) (x : Nat) : Prop := (∃ p, p < 256 ∧ A p ∧ f p = x) ∧ ∀ p, p < 256 → A p → f p ≤ x
theorem lst_one {A : Nat → Prop} {f : Nat → Nat} {x y : Nat} (h1 : Lst A f x) (h2 : Lst A f y) : x = y := by
  obtain ⟨⟨p, p1, p2, p3⟩, p4⟩ := h1
  obtain ⟨⟨q, q1, q2, q3⟩, q4⟩ := h2
  have := p4 q q1 q2
  have := q4 p p1 p2
  omega
theorem gst_one {A : Nat → Prop} {f : Nat → Nat} {x y : Nat} (h1 : Gst A f x) (h2 : Gst A f y) : x = y := by
  obtain ⟨⟨p, p1, p2, p3⟩, p4⟩ := h1
  obtain ⟨⟨q, q1, q2, q3⟩, q4⟩ := h2
  have := p4 q q1 q2
  have := q4 p p1 p2
  omega
def pX (p : Nat) : Nat := p % 16
def pY (p : Nat) : Nat := p / 16
/-! the class's -/
theorem c_columns {c : Nat → Int32} {A : Nat → Prop} (hA : RB c A) : Rt (f_X3_columns FU c) (fun v => ∀ x, x < 16 → (bt v x = true ↔ ∃ p, p < 256 ∧ A p ∧ pX p = x)) := by
  have go : ∀ (d y fuel : Nat) (v : Int32), y + d = 16 → d < fuel → (∀ x, x < 16 → (bt v x = true ↔ ∃ p, p < 16 * y ∧ A p ∧ pX p = x)) → Rt (f_X3_columns_L4 FU c (fun (x1_1 : Int32) (x2_2 : Int32) => some x1_1) fuel v (nI y)) (fun v => ∀ x, x < 16 → (bt v x = true ↔ ∃ p, p < 256 ∧ A p ∧ pX p = x)) := by
    intro d
    induction d with
    | zero =>
      intro y fuel v e1 e2 hv
      obtain ⟨f, rfl⟩ : ∃ f, fuel = f + 1 := ⟨fuel - 1, by omega⟩
      have ey : y = 16 := by omega
      subst ey
      rw [f_X3_columns_L4]
      exact rt_t (by rw [show (16 : Int32) = nI 16 from rfl]; exact (by rw [n_le (by omega) (by omega)]; omega)) (rt_some hv)
    | succ d ih =>
      intro y fuel v e1 e2 hv
      obtain ⟨f, rfl⟩ : ∃ f, fuel = f + 1 := ⟨fuel - 1, by omega⟩
      rw [f_X3_columns_L4]
      refine rt_f (by rw [show (16 : Int32) = nI 16 from rfl]; exact (by rw [n_le (by omega) (by omega)]; omega)) ?_
      rw [rd_ok (by omega) (by omega), nI_1]
      refine ih (y + 1) f _ (by omega) (by omega) (fun x hx => ?_)
      rw [b_or, Bool.or_eq_true, hv x hx, hA y (by omega) x (by omega)]
      constructor
      · rintro (⟨p, h1, h2, h3⟩ | ⟨h1, h2⟩)
        · exact ⟨p, by omega, h2, h3⟩
        · exact ⟨16 * y + x, by omega, h2, by unfold pX; omega⟩
      · rintro ⟨p, h1, h2, h3⟩
        by_cases z : p < 16 * y
        · exact Or.inl ⟨p, z, h2, h3⟩
        · refine Or.inr ⟨hx, ?_⟩
          unfold pX at h3
          rw [show 16 * y + x = p by omega]
          exact h2
  unfold f_X3_columns
  refine go 16 0 FU 0 (by omega) (by unfold FU; omega) (fun x hx => ?_)
  rw [b_0]
  exact ⟨fun z => absurd z (by decide), fun ⟨p, h1, _⟩ => by omega⟩
theorem c_leastColumn {c : Nat → Int32} {A : Nat → Prop} (hA : RB c A) (hne : ∃ p, p < 256 ∧ A p) : Rt (f_X3_leastColumn FU c) (fun v => ∃ x, v = nI x ∧ Lst A pX x) := by
  unfold f_X3_leastColumn
  refine rt_bd1 (c_columns hA) ?_
  intro v hv
  have go : ∀ (d x fuel : Nat), x + d = 16 → d < fuel → (∀ p, p < 256 → A p → x ≤ pX p) → Rt (f_X3_leastColumn_L7 FU v (fun (x2_2 : Int32) => some (-9)) fuel (nI x)) (fun v => ∃ x, v = nI x ∧ Lst A pX x) := by
    intro d
    induction d with
    | zero =>
      intro x fuel e1 e2 hx
      obtain ⟨p, h1, h2⟩ := hne
      have := hx p h1 h2
      unfold pX at this
      omega
    | succ d ih =>
      intro x fuel e1 e2 hx
      obtain ⟨f, rfl⟩ : ∃ f, fuel = f + 1 := ⟨fuel - 1, by omega⟩
      rw [f_X3_leastColumn_L7]
      refine rt_f (by rw [show (16 : Int32) = nI 16 from rfl]; exact (by rw [n_le (by omega) (by omega)]; omega)) ?_
      refine rt_if (fun c => ?_) (fun c => ?_)
      · rw [b_tst (by omega)] at c
        rw [nI_1]
        refine ih (x + 1) f (by omega) (by omega) (fun p h1 h2 => ?_)
        have h3 := hx p h1 h2
        have h4 : pX p ≠ x := fun z => by
          have := (hv x (by omega)).mpr ⟨p, h1, h2, z⟩
          rw [c] at this
          exact absurd this (by decide)
        omega
      · rw [b_tst (by omega)] at c
        exact rt_some ⟨x, rfl, (hv x (by omega)).mp (by cases q : bt v x <;> first | rfl | exact absurd q c), hx⟩
  exact go 16 0 FU (by omega) (by unfold FU; omega) (fun _ _ _ => by omega)
theorem c_greatestColumn {c : Nat → Int32} {A : Nat → Prop} (hA : RB c A) (hne : ∃ p, p < 256 ∧ A p) : Rt (f_X3_greatestColumn FU c) (fun v => ∃ x, v = nI x ∧ Gst A pX x) := by
  unfold f_X3_greatestColumn
  refine rt_bd1 (c_columns hA) ?_
  intro v hv
  have go : ∀ (x fuel : Nat), x < 16 → x < fuel → (∀ p, p < 256 → A p → pX p ≤ x) → Rt (f_X3_greatestColumn_L8 FU v (fun (x2_2 : Int32) => some (-9)) fuel (nI x)) (fun v => ∃ x, v = nI x ∧ Gst A pX x) := by
    intro x
    induction x with
    | zero =>
      intro fuel e1 e2 hx
      obtain ⟨f, rfl⟩ : ∃ f, fuel = f + 1 := ⟨fuel - 1, by omega⟩
      rw [f_X3_greatestColumn_L8]
      refine rt_f (by decide) ?_
      have hb : bt v 0 = true := (hv 0 (by omega)).mpr (by
        obtain ⟨p, h1, h2⟩ := hne
        exact ⟨p, h1, h2, by have := hx p h1 h2; omega⟩)
      refine rt_f (fun c => ?_) (rt_some ⟨0, rfl, (hv 0 (by omega)).mp hb, hx⟩)
      rw [b_tst (by omega), hb] at c
      exact absurd c (by decide)
    | succ x ih =>
      intro fuel e1 e2 hx
      obtain ⟨f, rfl⟩ : ∃ f, fuel = f + 1 := ⟨fuel - 1, by omega⟩
      rw [f_X3_greatestColumn_L8]
      refine rt_f (nI_pos (by omega)) ?_
      refine rt_if (fun c => ?_) (fun c => ?_)
      · rw [b_tst (by omega)] at c
        rw [(dn1 (x + 1) (by omega)).2.1 (by omega), show x + 1 - 1 = x by omega]
        refine ih f (by omega) (by omega) (fun p h1 h2 => ?_)
        have h3 := hx p h1 h2
        have h4 : pX p ≠ x + 1 := fun z => by
          have := (hv (x + 1) (by omega)).mpr ⟨p, h1, h2, z⟩
          rw [c] at this
          exact absurd this (by decide)
        omega
      · rw [b_tst (by omega)] at c
        exact rt_some ⟨x + 1, rfl, (hv (x + 1) (by omega)).mp (by cases q : bt v (x + 1) <;> first | rfl | exact absurd q c), hx⟩
  exact go 15 FU (by omega) (by unfold FU; omega) (fun p h1 _ => by unfold pX; omega)
theorem rb_rz {c : Nat → Int32} {A : Nat → Prop} (hA : RB c A) {y : Nat} (hy : y < 16) : c y = 0 ↔ ¬ ∃ p, p < 256 ∧ A p ∧ pY p = y := by
  rw [b_zero]
  constructor
  · rintro z ⟨p, h1, h2, h3⟩
    have e := z (p % 16) (by omega)
    have := (hA y hy (p % 16) (by omega)).mpr ⟨by omega, by unfold pY at h3; rw [show 16 * y + p % 16 = p by omega]; exact h2⟩
    rw [e] at this
    exact absurd this (by decide)
  · intro z i hi
    cases q : bt (c y) i
    · rfl
    · exfalso
      obtain ⟨h1, h2⟩ := (hA y hy i hi).mp q
      exact z ⟨16 * y + i, by omega, h2, by unfold pY; omega⟩
theorem c_leastRow {c : Nat → Int32} {A : Nat → Prop} (hA : RB c A) (hne : ∃ p, p < 256 ∧ A p) : Rt (f_X3_leastRow FU c) (fun v => ∃ x, v = nI x ∧ Lst A pY x) := by
  have go : ∀ (d x fuel : Nat), x + d = 16 → d < fuel → (∀ p, p < 256 → A p → x ≤ pY p) → Rt (f_X3_leastRow_L2 FU c (fun (x1_1 : Int32) => some (-9)) fuel (nI x)) (fun v => ∃ x, v = nI x ∧ Lst A pY x) := by
    intro d
    induction d with
    | zero =>
      intro x fuel e1 e2 hx
      obtain ⟨p, h1, h2⟩ := hne
      have := hx p h1 h2
      unfold pY at this
      omega
    | succ d ih =>
      intro x fuel e1 e2 hx
      obtain ⟨f, rfl⟩ : ∃ f, fuel = f + 1 := ⟨fuel - 1, by omega⟩
      rw [f_X3_leastRow_L2]
      refine rt_f (by rw [show (16 : Int32) = nI 16 from rfl]; exact (by rw [n_le (by omega) (by omega)]; omega)) ?_
      rw [rd_ok (by omega) (by omega)]
      refine rt_if (fun c => ?_) (fun c => ?_)
      · rw [rb_rz hA (by omega)] at c
        rw [nI_1]
        refine ih (x + 1) f (by omega) (by omega) (fun p h1 h2 => ?_)
        have h3 := hx p h1 h2
        have h4 : pY p ≠ x := fun z => c ⟨p, h1, h2, z⟩
        omega
      · rw [rb_rz hA (by omega)] at c
        exact rt_some ⟨x, rfl, Classical.byContradiction c, hx⟩
  unfold f_X3_leastRow
  exact go 16 0 FU (by omega) (by unfold FU; omega) (fun _ _ _ => by omega)
theorem c_greatestRow {c : Nat → Int32} {A : Nat → Prop} (hA : RB c A) (hne : ∃ p, p < 256 ∧ A p) : Rt (f_X3_greatestRow FU c) (fun v => ∃ x, v = nI x ∧ Gst A pY x) := by
  have go : ∀ (x fuel : Nat), x < 16 → x < fuel → (∀ p, p < 256 → A p → pY p ≤ x) → Rt (f_X3_greatestRow_L3 FU c (fun (x1_1 : Int32) => some (-9)) fuel (nI x)) (fun v => ∃ x, v = nI x ∧ Gst A pY x) := by
    intro x
    induction x with
    | zero =>
      intro fuel e1 e2 hx
      obtain ⟨f, rfl⟩ : ∃ f, fuel = f + 1 := ⟨fuel - 1, by omega⟩
      have hb : ∃ p, p < 256 ∧ A p ∧ pY p = 0 := by
        obtain ⟨p, h1, h2⟩ := hne
        exact ⟨p, h1, h2, by have := hx p h1 h2; omega⟩
      rw [f_X3_greatestRow_L3]
      refine rt_f (by decide) ?_
      rw [rd_ok (by omega) (by omega)]
      exact rt_f (fun c => (rb_rz hA (by omega)).mp c hb) (rt_some ⟨0, rfl, hb, hx⟩)
    | succ x ih =>
      intro fuel e1 e2 hx
      obtain ⟨f, rfl⟩ : ∃ f, fuel = f + 1 := ⟨fuel - 1, by omega⟩
      rw [f_X3_greatestRow_L3]
      refine rt_f (nI_pos (by omega)) ?_
      rw [rd_ok (by omega) (by omega)]
      refine rt_if (fun c => ?_) (fun c => ?_)
      · rw [rb_rz hA (by omega)] at c
        rw [(dn1 (x + 1) (by omega)).2.1 (by omega), show x + 1 - 1 = x by omega]
        refine ih f (by omega) (by omega) (fun p h1 h2 => ?_)
        have h3 := hx p h1 h2
        have h4 : pY p ≠ x + 1 := fun z => c ⟨p, h1, h2, z⟩
        omega
      · rw [rb_rz hA (by omega)] at c
        exact rt_some ⟨x + 1, rfl, Classical.byContradiction c, hx⟩
  unfold f_X3_greatestRow
  exact go 15 FU (by omega) (by unfold FU; omega) (fun p h1 _ => by unfold pY; omega)
/-! misses together -/
noncomputable def msS (A : Nat → Prop) (m : Nat → Nat) (p : Nat) : Nat := if dB A p then m p else 0
theorem ms_bd {A : Nat → Prop} {m : Nat → Nat} (hm : ∀ p, p < 256 → A p → m p ≤ 198) : ∀ n, n ≤ 256 → fb_sm (msS A m) n ≤ 198 * n
  | 0, _ => Nat.le_refl _
  | n + 1, h => by
    have := ms_bd hm n (by omega)
    have e : msS A m n = if dB A n then m n else 0 := rfl
    rw [fb_sm_succ, e]
    cases q : dB A n
    · rw [if_neg (by decide)]; omega
    · rw [if_pos rfl]
      have := hm n (by omega) (dB_t.mp q)
      omega
