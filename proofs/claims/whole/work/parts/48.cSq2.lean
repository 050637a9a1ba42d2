/-! comparing, merging, sorting -/
theorem cmpI_end {f f' : Nat → Nat} : ∀ (d a : Nat), cmpI f f' a (d + 1) = if cmpI f f' a d = 0 then (f (a + d) : Int) - f' (a + d) else cmpI f f' a d
  | 0, a => by
    simp only [cmpI, Nat.add_zero, if_true]
    by_cases e : f a = f' a
    · rw [if_pos e]; omega
    · rw [if_neg e]
  | d + 1, a => by
    have ih := cmpI_end (f := f) (f' := f') d (a + 1)
    rw [show a + 1 + d = a + (d + 1) by omega] at ih
    rw [show cmpI f f' a (d + 1 + 1) = if f a = f' a then cmpI f f' (a + 1) (d + 1) else (f a : Int) - f' a from rfl, show cmpI f f' a (d + 1) = if f a = f' a then cmpI f f' (a + 1) d else (f a : Int) - f' a from rfl]
    by_cases e : f a = f' a
    · rw [if_pos e, if_pos e]; exact ih
    · rw [if_neg e, if_neg e, if_neg (by omega)]
theorem pk_cmp {f f' : Nat → Nat} {a : Nat} : ∀ (d : Nat), (∀ i, i < d → f (a + i) < 128 ∧ f' (a + i) < 128) → (cmpI f f' a d < 0 ↔ pkr f a d < pkr f' a d) ∧ (cmpI f f' a d = 0 ↔ pkr f a d = pkr f' a d)
  | 0, _ => by simp [cmpI, pkr]
  | d + 1, h => by
    obtain ⟨h1, h2⟩ := pk_cmp (f := f) (f' := f') (a := a) d (fun i hi => h i (by omega))
    have h3 := h d (by omega)
    rw [cmpI_end, pkr_s, pkr_s]
    by_cases e : cmpI f f' a d = 0
    · rw [if_pos e]
      have e2 := h2.mp e
      omega
    · rw [if_neg e]
      have e2 : pkr f a d ≠ pkr f' a d := fun q => e (h2.mpr q)
      by_cases e3 : cmpI f f' a d < 0
      · have e4 := h1.mp e3
        omega
      · have e4 : ¬ pkr f a d < pkr f' a d := fun q => e3 (h1.mpr q)
        omega
/-- a square's numbers as one: squares are in order by it -/
def qK (g st : Nat → Nat) (p : Nat) : Nat := pkr (qNu g st p) 0 (qS st)
theorem qC_K {g st : Nat → Nat} {p q : Nat} (ho : OKs st) (hg : ∀ q, q < 256 → g q ≤ 99) (hp : OKp st p) (hq : OKp st q) : (qC g st p q < 0 ↔ qK g st p < qK g st q) ∧ (qC g st p q = 0 ↔ qK g st p = qK g st q) := by
  refine pk_cmp (qS st) (fun i hi => ?_)
  rw [show 0 + i = i by omega]
  have h1 := qNu_99 ho hg hp hi
  have h2 := qNu_99 ho hg hq hi
  omega
theorem pkr_app {f : Nat → Nat} {a d : Nat} : ∀ (e : Nat), pkr f a (d + e) = pkr f a d * 128 ^ e + pkr f (a + d) e
  | 0 => by simp [pkr]
  | e + 1 => by
    rw [show d + (e + 1) = (d + e) + 1 by omega, pkr_s, pkr_app e, pkr_s, Nat.pow_succ, Nat.add_mul, Nat.mul_assoc, show a + d + e = a + (d + e) by omega]
    omega
theorem qK_ht {g st : Nat → Nat} {p : Nat} : qK g st p = hdN (qNu g st p) (qS st) * 128 ^ (qS st - 9) + tlN (qNu g st p) (qS st) := by
  unfold qK hdN tlN
  by_cases e : qS st ≤ 9
  · rw [show min (qS st) 9 = qS st by omega, show qS st - 9 = 0 by omega]
    simp [pkr]
  · have h := pkr_app (f := qNu g st p) (a := 0) (d := 9) (qS st - 9)
    rw [show 9 + (qS st - 9) = qS st by omega] at h
    rw [h, show min (qS st) 9 = 9 by omega]
/-- head and tail of a place -/
def HT (g st : Nat → Nat) (c_head c_tail : Nat → Int64) (p : Nat) : Prop := c_head p = lN (hdN (qNu g st p) (qS st)) ∧ c_tail p = lN (tlN (qNu g st p) (qS st))
theorem ht_lt {g st : Nat → Nat} {p : Nat} (ho : OKs st) (hg : ∀ q, q < 256 → g q ≤ 99) (hp : OKp st p) : hdN (qNu g st p) (qS st) < 2 ^ 63 ∧ tlN (qNu g st p) (qS st) < 128 ^ (qS st - 9) ∧ tlN (qNu g st p) (qS st) < 2 ^ 63 := by
  have h16 := ho.sq
  have h1 : hdN (qNu g st p) (qS st) < 128 ^ (min (qS st) 9) := pkr_lt _ (fun i hi => by have := qNu_99 ho hg hp (i := 0 + i) (by omega); omega)
  have h2 : tlN (qNu g st p) (qS st) < 128 ^ (qS st - 9) := pkr_lt _ (fun i hi => by have := qNu_99 ho hg hp (i := 9 + i) (by omega); omega)
  have h3 : 128 ^ (min (qS st) 9) ≤ 128 ^ 9 := Nat.pow_le_pow_right (by decide) (by omega)
  have h4 : 128 ^ (qS st - 9) ≤ 128 ^ 7 := Nat.pow_le_pow_right (by decide) (by omega)
  have h5 : (128 : Nat) ^ 9 = 2 ^ 63 := by decide
  have h6 : (128 : Nat) ^ 7 ≤ 2 ^ 63 := by decide
  omega
theorem ht_cmp {a b a' b' M : Nat} (hb : b < M) (hb' : b' < M) : (a * M + b < a' * M + b' ↔ a < a' ∨ (a = a' ∧ b < b')) ∧ (a * M + b = a' * M + b' ↔ a = a' ∧ b = b') := by
  by_cases e : a = a'
  · subst e; omega
  · by_cases e2 : a < a'
    · have h : (a + 1) * M ≤ a' * M := Nat.mul_le_mul_right M e2
      rw [Nat.add_mul] at h
      omega
    · have h : (a' + 1) * M ≤ a * M := Nat.mul_le_mul_right M (by omega)
      rw [Nat.add_mul] at h
      omega
theorem c_isBefore {FU p q : Nat} {g st : Nat → Nat} {c_head c_tail : Nat → Int64} (ho : OKs st) (hg : ∀ q, q < 256 → g q ≤ 99) (hp : OKp st p) (hq : OKp st q) (hp2 : p < 256) (hq2 : q < 256) (h1 : HT g st c_head c_tail p) (h2 : HT g st c_head c_tail q) : f_X5_isBefore FU c_head c_tail (nI p) (nI q) = some (if qK g st p < qK g st q then 1 else 0) := by
  obtain ⟨a1, a2, a3⟩ := ht_lt ho hg hp
  obtain ⟨b1, b2, b3⟩ := ht_lt ho hg hq
  have hc := ht_cmp (a := hdN (qNu g st p) (qS st)) (a' := hdN (qNu g st q) (qS st)) a2 b2
  rw [← qK_ht, ← qK_ht] at hc
  unfold f_X5_isBefore
  rw [rdl_ok hp2 (by omega), rdl_ok hq2 (by omega), rdl_ok hp2 (by omega), rdl_ok hq2 (by omega), rdl_ok hp2 (by omega), rdl_ok hq2 (by omega), h1.1, h1.2, h2.1, h2.2]
  by_cases e : hdN (qNu g st p) (qS st) = hdN (qNu g st q) (qS st)
  · rw [if_pos (by rw [lg_cmp_eq, e])]
    by_cases e2 : tlN (qNu g st p) (qS st) < tlN (qNu g st q) (qS st)
    · rw [if_neg (by rw [lg_cmp_ge, pk_lLE b3 a3]; omega), if_pos (by omega)]
    · rw [if_pos (by rw [lg_cmp_ge, pk_lLE b3 a3]; omega), if_neg (by omega)]
  · rw [if_neg (by rw [lg_cmp_eq, pk_lEQ a1 b1]; exact e)]
    by_cases e2 : hdN (qNu g st p) (qS st) < hdN (qNu g st q) (qS st)
    · rw [if_neg (by rw [lg_cmp_ge, pk_lLE b1 a1]; omega), if_pos (by omega)]
    · rw [if_pos (by rw [lg_cmp_ge, pk_lLE b1 a1]; omega), if_neg (by omega)]
theorem c_areAlike {FU p q : Nat} {g st : Nat → Nat} {c_head c_tail : Nat → Int64} (ho : OKs st) (hg : ∀ q, q < 256 → g q ≤ 99) (hp : OKp st p) (hq : OKp st q) (hp2 : p < 256) (hq2 : q < 256) (h1 : HT g st c_head c_tail p) (h2 : HT g st c_head c_tail q) : f_X5_areAlike FU c_head c_tail (nI p) (nI q) = some (if qK g st p = qK g st q then 1 else 0) := by
  obtain ⟨a1, a2, a3⟩ := ht_lt ho hg hp
  obtain ⟨b1, b2, b3⟩ := ht_lt ho hg hq
  have hc := ht_cmp (a := hdN (qNu g st p) (qS st)) (a' := hdN (qNu g st q) (qS st)) a2 b2
  rw [← qK_ht, ← qK_ht] at hc
  unfold f_X5_areAlike
  rw [rdl_ok hp2 (by omega), rdl_ok hq2 (by omega), rdl_ok hp2 (by omega), rdl_ok hq2 (by omega), h1.1, h1.2, h2.1, h2.2]
  by_cases e : hdN (qNu g st p) (qS st) = hdN (qNu g st q) (qS st)
  · rw [if_pos (by rw [lg_cmp_eq, e])]
    by_cases e2 : tlN (qNu g st p) (qS st) = tlN (qNu g st q) (qS st)
    · rw [if_pos (by rw [lg_cmp_eq, e2]), if_pos (by omega)]
    · rw [if_neg (by rw [lg_cmp_eq, pk_lEQ a3 b3]; exact e2), if_neg (by omega)]
  · rw [if_neg (by rw [lg_cmp_eq, pk_lEQ a1 b1]; exact e), if_neg (by omega)]
/-! merging, over keys -/
def bef (κ : Nat → Nat) (s t : Nat) : Prop := κ s < κ t ∨ (κ s = κ t ∧ s < t)
theorem bef_trans {κ : Nat → Nat} {a b c : Nat} (h : bef κ a b) (h2 : bef κ b c) : bef κ a c := by unfold bef at *; omega
theorem bef_irr {κ : Nat → Nat} {a : Nat} : ¬ bef κ a a := by unfold bef; omega
theorem bef_three {κ : Nat → Nat} {a b : Nat} (h : a ≠ b) : bef κ a b ∨ bef κ b a := by unfold bef; omega
theorem mg_L9 {FU N from_ mid to : Nat} {pl κ o m0 : Nat → Nat} {c_order : Nat → Int32} {c_head c_tail : Nat → Int64} {k : Int32 → Int32 → Int32 → (Nat → Int32) → Option (Nat → Int32)} {P : (Nat → Int32) → Prop} (hN : N ≤ 256) (h1 : from_ ≤ mid) (h2 : mid ≤ to) (h3 : to ≤ N)
    (hO : ∀ i, i < N → c_order i = nI (pl (o i)))
    (hB : ∀ i j, i < N → j < N → f_X5_isBefore FU c_head c_tail (nI (pl (o i))) (nI (pl (o j))) = some (if κ (o i) < κ (o j) then 1 else 0))
    (sL : ∀ i j, from_ ≤ i → i < j → j < mid → bef κ (o i) (o j)) (sR : ∀ i j, mid ≤ i → i < j → j < to → bef κ (o i) (o j)) (sX : ∀ i j, from_ ≤ i → i < mid → mid ≤ j → j < to → o i < o j) :
    ∀ (d l r fuel : Nat) (c : Nat → Int32) (mm : Nat → Nat), d + (l + r) = mid + to → d < fuel → from_ ≤ l → l ≤ mid → mid ≤ r → r ≤ to →
      (∀ i, i < l + r - mid → c i = nI (pl (mm i))) → (∀ i, i < from_ → mm i = m0 i) →
      (∀ i, from_ ≤ i → i < l + r - mid → ∃ j, ((from_ ≤ j ∧ j < l) ∨ (mid ≤ j ∧ j < r)) ∧ mm i = o j) →
      (∀ i j, from_ ≤ i → i < j → j < l + r - mid → bef κ (mm i) (mm j)) →
      (∀ i j, from_ ≤ i → i < l + r - mid → ((l ≤ j ∧ j < mid) ∨ (r ≤ j ∧ j < to)) → bef κ (mm i) (o j)) →
      (∀ (x y z : Int32) (c' : Nat → Int32) (mm' : Nat → Nat), (∀ i, i < to → c' i = nI (pl (mm' i))) → (∀ i, i < from_ → mm' i = m0 i) → (∀ i, from_ ≤ i → i < to → ∃ j, from_ ≤ j ∧ j < to ∧ mm' i = o j) → (∀ i j, from_ ≤ i → i < j → j < to → bef κ (mm' i) (mm' j)) → Rt (k x y z c') P) →
      Rt (f_X5_merge_L9 FU (nI mid) (nI to) c_order c_head c_tail k fuel (nI l) (nI r) (nI (l + r - mid)) c) P := by
  intro d
  induction d with
  | zero =>
    intro l r fuel c mm e1 e2 l1 l2 r1 r2 hc hm hi hs hx hk
    obtain ⟨f, rfl⟩ : ∃ f, fuel = f + 1 := ⟨fuel - 1, by omega⟩
    have el : l = mid := by omega
    have er : r = to := by omega
    subst el er
    rw [f_X5_merge_L9]
    refine rt_t (by rw [n_le (by omega) (by omega)]; omega) (hk _ _ _ c mm (fun i h => hc i (by omega)) hm ?_ (fun i j a b e => hs i j a b (by omega)))
    intro i a b
    obtain ⟨j, h, e⟩ := hi i a (by omega)
    exact ⟨j, by omega, by omega, e⟩
  | succ d ih =>
    intro l r fuel c mm e1 e2 l1 l2 r1 r2 hc hm hi hs hx hk
    obtain ⟨f, rfl⟩ : ∃ f, fuel = f + 1 := ⟨fuel - 1, by omega⟩
    rw [f_X5_merge_L9]
    refine rt_f (by rw [n_le (by omega) (by omega)]; omega) ?_
    have goL : l < mid → (∀ j, r ≤ j → j < to → bef κ (o l) (o j)) → Rt (rd c_order 256 (nI l) (fun y_11 => wr c 256 (nI (l + r - mid)) y_11 (fun c_merged_12 => f_X5_merge_L9 FU (nI mid) (nI to) c_order c_head c_tail k f (nI l + 1) (nI r) (nI (l + r - mid) + 1) c_merged_12))) P := by
      intro hl hb
      rw [rd_ok (by omega) (by omega), hO l (by omega), wr_ok (by omega) (by omega), nI_1, nI_1, show l + r - mid + 1 = (l + 1) + r - mid by omega]
      refine ih (l + 1) r f _ (put mm (l + r - mid) (o l)) (by omega) (by omega) (by omega) (by omega) r1 r2 ?_ ?_ ?_ ?_ ?_ hk
      · intro i h
        by_cases e : i = l + r - mid
        · subst e; simp [upd, put]
        · simp [upd, put, e]; exact hc i (by omega)
      · intro i h
        simp [put, show i ≠ l + r - mid by omega, hm i h]
      · intro i a b
        by_cases e : i = l + r - mid
        · subst e; exact ⟨l, Or.inl ⟨l1, by omega⟩, by simp [put]⟩
        · obtain ⟨j, h, q⟩ := hi i a (by omega)
          exact ⟨j, by omega, by simp [put, e, q]⟩
      · intro i j a b q
        by_cases e : j = l + r - mid
        · subst e
          simp only [put, if_true, show i ≠ l + r - mid by omega, if_false]
          exact hx i l a (by omega) (Or.inl ⟨Nat.le_refl _, hl⟩)
        · simp only [put, e, show i ≠ l + r - mid by omega, if_false]
          exact hs i j a b (by omega)
      · intro i j a b q
        by_cases e : i = l + r - mid
        · subst e
          simp only [put, if_true]
          rcases q with q | q
          · exact sL l j l1 (by omega) q.2
          · exact hb j q.1 q.2
        · simp only [put, e, if_false]
          exact hx i j a (by omega) (by omega)
    have goR : r < to → (∀ j, l ≤ j → j < mid → bef κ (o r) (o j)) → Rt (rd c_order 256 (nI r) (fun y_13 => wr c 256 (nI (l + r - mid)) y_13 (fun c_merged_14 => f_X5_merge_L9 FU (nI mid) (nI to) c_order c_head c_tail k f (nI l) (nI r + 1) (nI (l + r - mid) + 1) c_merged_14))) P := by
      intro hl hb
      rw [rd_ok (by omega) (by omega), hO r (by omega), wr_ok (by omega) (by omega), nI_1, nI_1, show l + r - mid + 1 = l + (r + 1) - mid by omega]
      refine ih l (r + 1) f _ (put mm (l + r - mid) (o r)) (by omega) (by omega) l1 l2 (by omega) (by omega) ?_ ?_ ?_ ?_ ?_ hk
      · intro i h
        by_cases e : i = l + r - mid
        · subst e; simp [upd, put]
        · simp [upd, put, e]; exact hc i (by omega)
      · intro i h
        simp [put, show i ≠ l + r - mid by omega, hm i h]
      · intro i a b
        by_cases e : i = l + r - mid
        · subst e; exact ⟨r, Or.inr ⟨r1, by omega⟩, by simp [put]⟩
        · obtain ⟨j, h, q⟩ := hi i a (by omega)
          exact ⟨j, by omega, by simp [put, e, q]⟩
      · intro i j a b q
        by_cases e : j = l + r - mid
        · subst e
          simp only [put, if_true, show i ≠ l + r - mid by omega, if_false]
          exact hx i r a (by omega) (Or.inr ⟨Nat.le_refl _, hl⟩)
        · simp only [put, e, show i ≠ l + r - mid by omega, if_false]
          exact hs i j a b (by omega)
      · intro i j a b q
        by_cases e : i = l + r - mid
        · subst e
          simp only [put, if_true]
          rcases q with q | q
          · exact hb j q.1 q.2
          · exact sR r j r1 (by omega) q.2
        · simp only [put, e, if_false]
          exact hx i j a (by omega) (by omega)
    refine rt_jn ?_
    refine rt_if (fun q1 => ?_) (fun q1 => ?_)
    · rw [n_le (by omega) (by omega)] at q1
      exact rt_f (by decide) (goR (by omega) (fun j a b => by omega))
    · rw [n_le (by omega) (by omega)] at q1
      refine rt_if (fun q2 => ?_) (fun q2 => ?_)
      · rw [n_le (by omega) (by omega)] at q2
        exact rt_t rfl (goL (by omega) (fun j a b => by omega))
      · rw [n_le (by omega) (by omega)] at q2
        rw [rd_ok (by omega) (by omega), rd_ok (by omega) (by omega), hO r (by omega), hO l (by omega), hB r l (by omega) (by omega), bd1_s]
        have hlr := sX l r l1 (by omega) r1 (by omega)
        by_cases e : κ (o r) < κ (o l)
        · rw [if_pos e]
          refine rt_f (by decide) (rt_f (by decide) (goR (by omega) (fun j a b => ?_)))
          have b1 : bef κ (o r) (o l) := Or.inl e
          rcases Nat.lt_or_ge l j with z | z
          · exact bef_trans b1 (sL l j l1 z b)
          · rw [show j = l by omega]; exact b1
        · rw [if_neg e]
          refine rt_t rfl (rt_t rfl (goL (by omega) (fun j a b => ?_)))
          have b1 : bef κ (o l) (o r) := by unfold bef; omega
          rcases Nat.lt_or_ge r j with z | z
          · exact bef_trans b1 (sR r j r1 z b)
          · rw [show j = r by omega]; exact b1
