/-! widening -/
def wdn (s : Nat) (A : Nat → Prop) (q : Nat) : Prop := ∃ p i j, p < 256 ∧ A p ∧ i < s ∧ j < s ∧ q = p + 16 * j + i
theorem c_wi15 {s y : Nat} {cor : Int32} {kk : _} {P : _} (hs : s ≤ 4) (hy : y < 16) :
    ∀ (d i fuel : Nat) (c : Nat → Int32), i + d = s → d < fuel → (∀ b, b < 32 → (bt (c y) b = true ↔ ∃ i', i' < i ∧ i' ≤ b ∧ bt cor (b - i') = true)) →
      (∀ (z : Int32) (c' : Nat → Int32), (∀ b, b < 32 → (bt (c' y) b = true ↔ ∃ i', i' < s ∧ i' ≤ b ∧ bt cor (b - i') = true)) → (∀ y', y' ≠ y → c' y' = c y') → Rt (kk z c') P) →
      Rt (f_X3_widen_L15 FU (nI s) (nI y) cor kk fuel (nI i) c) P := by
  intro d
  induction d with
  | zero =>
    intro i fuel c e1 e2 hc hk
    obtain ⟨f, rfl⟩ : ∃ f, fuel = f + 1 := ⟨fuel - 1, by omega⟩
    have ei : i = s := by omega
    subst ei
    rw [f_X3_widen_L15]
    exact rt_t (by rw [n_le (by omega) (by omega)]; omega) (hk _ _ hc (fun _ _ => rfl))
  | succ d ih =>
    intro i fuel c e1 e2 hc hk
    obtain ⟨f, rfl⟩ : ∃ f, fuel = f + 1 := ⟨fuel - 1, by omega⟩
    rw [f_X3_widen_L15]
    refine rt_f (by rw [n_le (by omega) (by omega)]; omega) ?_
    rw [rd_ok (by omega) (by omega), wr_ok (by omega) (by omega), nI_1]
    refine ih (i + 1) f _ (by omega) (by omega) (fun b hb => ?_) ?_
    · simp only [upd, if_true]
      rw [b_or, Bool.or_eq_true, hc b hb, b_shl i (by omega) _ hb, Bool.and_eq_true, decide_eq_true_eq]
      constructor
      · rintro (⟨i', z1, z2, z3⟩ | ⟨z1, z2⟩)
        · exact ⟨i', by omega, z2, z3⟩
        · exact ⟨i, by omega, z1, z2⟩
      · rintro ⟨i', z1, z2, z3⟩
        by_cases e : i' = i
        · subst e; exact Or.inr ⟨z2, z3⟩
        · exact Or.inl ⟨i', by omega, z2, z3⟩
    · intro z c' z1 z2
      exact hk z c' z1 (fun y' hy' => (z2 y' hy').trans (by simp [upd, hy']))
theorem c_wi2 {s : Nat} {c0 : Nat → Int32} {kk : _} {P : _} (hs : s ≤ 4) (hs1 : 1 ≤ s) :
    ∀ (d y fuel : Nat) (c : Nat → Int32), y + d = 16 → d < fuel → (∀ y2, y2 < y → ∀ b, b < 32 → (bt (c y2) b = true ↔ ∃ i', i' < s ∧ i' ≤ b ∧ bt (c0 y2) (b - i') = true)) → (∀ y2, y ≤ y2 → y2 < 16 → c y2 = c0 y2) →
      (∀ (z : Int32) (c' : Nat → Int32), (∀ y2, y2 < 16 → ∀ b, b < 32 → (bt (c' y2) b = true ↔ ∃ i', i' < s ∧ i' ≤ b ∧ bt (c0 y2) (b - i') = true)) → Rt (kk z c') P) →
      Rt (f_X3_widen_L2 FU (nI s) kk fuel (nI y) c) P := by
  intro d
  induction d with
  | zero =>
    intro y fuel c e1 e2 hc h0 hk
    obtain ⟨f, rfl⟩ : ∃ f, fuel = f + 1 := ⟨fuel - 1, by omega⟩
    rw [f_X3_widen_L2]
    exact rt_t (by rw [show (16 : Int32) = nI 16 from rfl]; exact (by rw [n_le (by omega) (by omega)]; omega)) (hk _ _ (fun y2 hy2 => hc y2 (by omega)))
  | succ d ih =>
    intro y fuel c e1 e2 hc h0 hk
    obtain ⟨f, rfl⟩ : ∃ f, fuel = f + 1 := ⟨fuel - 1, by omega⟩
    rw [f_X3_widen_L2]
    refine rt_f (by rw [show (16 : Int32) = nI 16 from rfl]; exact (by rw [n_le (by omega) (by omega)]; omega)) ?_
    rw [rd_ok (by omega) (by omega), h0 y (by omega) (by omega)]
    refine c_wi15 (cor := c0 y) hs (by omega : y < 16) (s - 1) 1 FU c (by omega) (by unfold FU; omega) (fun b hb => ?_) ?_
    · rw [h0 y (by omega) (by omega)]
      constructor
      · intro z; exact ⟨0, by omega, by omega, z⟩
      · rintro ⟨i', z1, z2, z3⟩
        have : i' = 0 := by omega
        subst this; exact z3
    · intro z c' z1 z2
      rw [nI_1]
      refine ih (y + 1) f c' (by omega) (by omega) (fun y2 hy2 => ?_) (fun y2 z3 z4 => ?_) hk
      · by_cases e : y2 = y
        · subst e; exact z1
        · rw [z2 y2 e]; exact hc y2 (by omega)
      · rw [z2 y2 (by omega)]; exact h0 y2 (by omega) z4
theorem c_wi52 {s y : Nat} {c1 : Nat → Int32} {kk : _} {P : _} (hs : s ≤ 4) (hy : y < 16) :
    ∀ (d j fuel : Nat) (c : Nat → Int32), j + d = s → d < fuel → 1 ≤ j → j ≤ y + 1 → (∀ b, b < 32 → (bt (c y) b = true ↔ ∃ j', j' < j ∧ j' ≤ y ∧ bt (c1 (y - j')) b = true)) → (∀ y2, y2 < y → c y2 = c1 y2) →
      (∀ (z : Int32) (c' : Nat → Int32), (∀ b, b < 32 → (bt (c' y) b = true ↔ ∃ j', j' < s ∧ j' ≤ y ∧ bt (c1 (y - j')) b = true)) → (∀ y', y' ≠ y → c' y' = c y') → Rt (kk z c') P) →
      Rt (f_X3_widen_L52 FU (nI s) (nI y) kk fuel (nI j) c) P := by
  intro d
  induction d with
  | zero =>
    intro j fuel c e1 e2 e3 e4 hc h0 hk
    obtain ⟨f, rfl⟩ : ∃ f, fuel = f + 1 := ⟨fuel - 1, by omega⟩
    have ej : j = s := by omega
    subst ej
    rw [f_X3_widen_L52]
    exact rt_t (by rw [n_le (by omega) (by omega)]; omega) (hk _ _ hc (fun _ _ => rfl))
  | succ d ih =>
    intro j fuel c e1 e2 e3 e4 hc h0 hk
    obtain ⟨f, rfl⟩ : ∃ f, fuel = f + 1 := ⟨fuel - 1, by omega⟩
    rw [f_X3_widen_L52]
    refine rt_f (by rw [n_le (by omega) (by omega)]; omega) ?_
    refine rt_if (fun q => ?_) (fun q => ?_)
    · rw [n_lt (by omega) (by omega)] at q
      refine hk _ _ (fun b hb => ?_) (fun _ _ => rfl)
      rw [hc b hb]
      constructor
      · rintro ⟨j', z1, z2, z3⟩; exact ⟨j', by omega, z2, z3⟩
      · rintro ⟨j', z1, z2, z3⟩; exact ⟨j', by omega, z2, z3⟩
    · rw [n_lt (by omega) (by omega)] at q
      rw [rd_ok (by omega) (by omega), pk_sub (by omega : j ≤ y), rd_ok (by omega) (by omega), wr_ok (by omega) (by omega), nI_1, h0 (y - j) (by omega)]
      refine ih (j + 1) f _ (by omega) (by omega) (by omega) (by omega) (fun b hb => ?_) (fun y2 hy2 => ?_) ?_
      · simp only [upd, if_true]
        rw [b_or, Bool.or_eq_true, hc b hb]
        constructor
        · rintro (⟨j', z1, z2, z3⟩ | z1)
          · exact ⟨j', by omega, z2, z3⟩
          · exact ⟨j, by omega, by omega, z1⟩
        · rintro ⟨j', z1, z2, z3⟩
          by_cases e : j' = j
          · subst e; exact Or.inr z3
          · exact Or.inl ⟨j', by omega, z2, z3⟩
      · simp only [upd, show y2 ≠ y by omega, if_false]; exact h0 y2 hy2
      · intro z c' z1 z2
        exact hk z c' z1 (fun y' hy' => (z2 y' hy').trans (by simp [upd, hy']))
theorem c_wi46 {s : Nat} {c1 : Nat → Int32} (hs : s ≤ 4) (hs1 : 1 ≤ s) :
    ∀ (m fuel : Nat) (c : Nat → Int32), m ≤ 16 → m < fuel → (∀ y2, m ≤ y2 → y2 < 16 → ∀ b, b < 32 → (bt (c y2) b = true ↔ ∃ j', j' < s ∧ j' ≤ y2 ∧ bt (c1 (y2 - j')) b = true)) → (∀ y2, y2 < m → c y2 = c1 y2) →
      Rt (f_X3_widen_L46 FU (nI s) (fun (x2_6 : Int32) (c_a_7 : (Nat → Int32)) => some c_a_7) fuel (nI m + -1) c) (fun c' => ∀ y2, y2 < 16 → ∀ b, b < 32 → (bt (c' y2) b = true ↔ ∃ j', j' < s ∧ j' ≤ y2 ∧ bt (c1 (y2 - j')) b = true)) := by
  intro m
  induction m with
  | zero =>
    intro fuel c e1 e2 hc h0
    obtain ⟨f, rfl⟩ : ∃ f, fuel = f + 1 := ⟨fuel - 1, by omega⟩
    rw [f_X3_widen_L46]
    exact rt_t (by decide) (rt_some (fun y2 hy2 => hc y2 (by omega) hy2))
  | succ m ih =>
    intro fuel c e1 e2 hc h0
    obtain ⟨f, rfl⟩ : ∃ f, fuel = f + 1 := ⟨fuel - 1, by omega⟩
    rw [f_X3_widen_L46, (dn1 (m + 1) (by omega)).2.1 (by omega), show m + 1 - 1 = m by omega]
    refine rt_f (nI_pos (by omega)) ?_
    refine c_wi52 (c1 := c1) hs (by omega : m < 16) (s - 1) 1 FU c (by omega) (by unfold FU; omega) (by omega) (by omega) (fun b hb => ?_) (fun y2 hy2 => h0 y2 (by omega)) ?_
    · rw [h0 m (by omega)]
      constructor
      · intro z; exact ⟨0, by omega, by omega, z⟩
      · rintro ⟨j', z1, z2, z3⟩
        have : j' = 0 := by omega
        subst this; exact z3
    · intro z c' z1 z2
      refine ih f c' (by omega) (by omega) (fun y2 z3 z4 => ?_) (fun y2 z3 => ?_)
      · by_cases e : y2 = m
        · subst e; exact z1
        · rw [z2 y2 e]; exact hc y2 (by omega) z4
      · rw [z2 y2 (by omega)]; exact h0 y2 (by omega)
theorem c_widen {s : Nat} {c : Nat → Int32} {A : Nat → Prop} (hs : s ≤ 4) (hs1 : 1 ≤ s) (hA : RB c A) (hb : ∀ p, p < 256 → A p → p % 16 + s ≤ 16 ∧ p / 16 + s ≤ 16) : Rt (f_X3_widen FU c (nI s)) (fun c' => RB c' (wdn s A)) := by
  unfold f_X3_widen
  refine c_wi2 (c0 := c) hs hs1 16 0 FU c (by omega) (by unfold FU; omega) (fun y2 hy2 => by omega) (fun _ _ _ => rfl) ?_
  intro z c1 h1
  have e15 : (15 : Int32) = nI 16 + -1 := by decide
  refine rt_eq (congrArg (fun z => f_X3_widen_L46 FU (nI s) _ FU z c1) e15) ?_
  refine rt_mono (c_wi46 (c1 := c1) hs hs1 16 FU c1 (by omega) (by unfold FU; omega) (fun y2 h2 h3 => by omega) (fun _ _ => rfl)) ?_
  intro c' h2 y hy b hbb
  rw [h2 y hy b hbb]
  constructor
  · rintro ⟨j, j1, j2, j3⟩
    obtain ⟨i, i1, i2, i3⟩ := (h1 (y - j) (by omega) b hbb).mp j3
    obtain ⟨z1, z2⟩ := (hA (y - j) (by omega) (b - i) (by omega)).mp i3
    have z3 := hb _ (by omega) z2
    exact ⟨by omega, 16 * (y - j) + (b - i), i, j, by omega, z2, i1, j1, by omega⟩
  · rintro ⟨hb16, p, i, j, hp, ha, hi, hj, e⟩
    have z3 := hb p hp ha
    refine ⟨j, hj, by omega, (h1 (y - j) (by omega) b hbb).mpr ⟨i, hi, by omega, (hA (y - j) (by omega) (b - i) (by omega)).mpr ⟨by omega, ?_⟩⟩⟩
    rw [show 16 * (y - j) + (b - i) = p by omega]
    exact ha
/-! a finding of the class grows -/
theorem c_growF {w h v ob sl s : Nat} {g : Nat → Nat} {of : Int} {cg fx fy fo fpf fpl co : Nat → Int32} {cr : Nat → Nat → Int32} {A : Nat → Prop} (hw : w ≤ 16) (hh : h ≤ 16) (hv : v < 496) (hG : RepG cg g) (hg : ∀ q, q < 256 → g q ≤ 99) (hx : fx ob = nI (v % 31) - 15) (hyy : fy ob = nI (v / 31)) (ho : (fo ob).toInt = of) (hof : -99 ≤ of ∧ of ≤ 99) (hsl : sl ≤ 30) (hs : s ≤ 4) (hs1 : 1 ≤ s) (hA : RB (cr ob) A) (hb : ∀ p, p < 256 → A p → p % 16 + s ≤ 16 ∧ p / 16 + s ≤ 16) :
    Rt (f_X0_grow FU cg (nI w) (nI h) co cr fx fy fo fpf fpl ob (nI s) (nI sl)) (fun q => RB (q.2.1 ob) (Cl (opn w h g v of sl) (wdn s A)) ∧ (∀ o, o ≠ ob → q.2.1 o = cr o) ∧ q.2.2.1 = upd fpf ob (nI (cnt (wdn s A))) ∧ q.2.2.2 = upd fpl ob (nI (cnt (Cl (opn w h g v of sl) (wdn s A))))) := by
  unfold f_X0_grow
  refine rt_bd1 (c_widen hs hs1 hA hb) ?_
  intro g1 hg1
  rw [va_up_e, c_size hg1, bd1_s]
  refine c_gr22 hw hh hv hG hg hx hyy ho hof hsl 16 0 FU co (by omega) (by unfold FU; omega) (fun y2 hy2 => by omega) ?_
  intro z c' hc'
  refine rt_bd1 (c_spread hg1 hc') ?_
  intro g8 hg8
  have hsz : f_X3_size FU ((va_up (va_up cr ob g1) ob g8) ob) = some (nI (cnt (Cl (opn w h g v of sl) (wdn s A)))) := by
    rw [va_up_e]; exact c_size hg8
  rw [hsz, bd1_s]
  refine rt_some ⟨?_, ?_, rfl, rfl⟩
  · show RB (va_up _ ob g8 ob) _
    rw [va_up_e]; exact hg8
  · intro o ho
    show va_up _ ob g8 o = _
    rw [va_up_n ho, va_up_n ho]
