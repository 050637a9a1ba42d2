/-! copies of places, misses -/
def cpI (w h v p : Nat) : Prop := 15 ≤ p % 16 + v % 31 ∧ p % 16 + v % 31 < w + 15 ∧ p / 16 + v / 31 < h
def cpP (v p : Nat) : Nat := 16 * (p / 16 + v / 31) + (p % 16 + v % 31 - 15)
theorem cpP_256 {w h v p : Nat} (hw : w ≤ 16) (hh : h ≤ 16) (hc : cpI w h v p) : cpP v p < 256 := by
  unfold cpI at hc; unfold cpP; omega
def mi (g : Nat → Nat) (v : Nat) (of : Int) (p : Nat) : Nat := ((g (cpP v p) : Int) - g p - of).natAbs
def opn (w h : Nat) (g : Nat → Nat) (v : Nat) (of : Int) (sl p : Nat) : Prop := p % 16 < w ∧ p / 16 < h ∧ cpI w h v p ∧ mi g v of p ≤ sl
theorem sx_ok : ∀ x, x < 16 → ∀ a, a < 31 → (15 ≤ x + a → nI x + (nI a - 15) = nI (x + a - 15)) ∧ (x + a < 15 → ∀ b, b < 16 → nI x + (nI a - 15) ≠ nI b) := by decide +kernel
theorem cp_in {w h v p : Nat} (hp : p < 256) (hc : cpI w h v p) : InP w h (nI (p % 16) + (nI (v % 31) - 15)) (nI (p / 16) + nI (v / 31)) (p % 16 + v % 31 - 15) (p / 16 + v / 31) := by
  obtain ⟨h1, h2, h3⟩ := hc
  exact ⟨by omega, h3, (sx_ok _ (by omega) _ (by omega)).1 h1, nI_add _ _⟩
theorem cp_out {w h v p : Nat} (hw : w ≤ 16) (hh : h ≤ 16) (hp : p < 256) (hv : v < 496) (hc : ¬ cpI w h v p) : ∀ a b, ¬ InP w h (nI (p % 16) + (nI (v % 31) - 15)) (nI (p / 16) + nI (v / 31)) a b := by
  intro a b hI
  obtain ⟨h1, h2, h3, h4⟩ := hI
  have s := sx_ok (p % 16) (by omega) (v % 31) (by omega)
  rw [nI_add, n_inj (by omega) (by omega)] at h4
  by_cases c : p % 16 + v % 31 < 15
  · exact s.2 c a (by omega) h3
  · rw [s.1 (by omega), n_inj (by omega) (by omega)] at h3
    apply hc
    unfold cpI
    omega
theorem sz_nat {FU : Nat} {z : Int32} {m : Int} (hz : z.toInt = m) (hm : -1000 ≤ m ∧ m ≤ 1000) : f_X8_size FU z = some (nI m.natAbs) ∧ (if 0 ≤ z then z else 0 - z) = nI m.natAbs := by
  have e0 : (0 : Int32).toInt = 0 := by decide
  have hn : (nI m.natAbs).toInt = (m.natAbs : Int) := i_nI (by omega)
  unfold f_X8_size
  by_cases c : 0 ≤ m
  · have c' : (0 : Int32) ≤ z := by rw [i_le, e0, hz]; exact c
    rw [if_pos c', if_pos c']
    have e : z = nI m.natAbs := by rw [i_eq, hn, hz]; omega
    rw [← e]
    exact ⟨rfl, rfl⟩
  · have c' : ¬ (0 : Int32) ≤ z := by rw [i_le, e0, hz]; exact c
    rw [if_neg c', if_neg c']
    have e : 0 - z = nI m.natAbs := by rw [i_eq, hn, i_sub (by rw [e0, hz]; omega) (by rw [e0, hz]; omega), e0, hz]; omega
    have e2 : -z = nI m.natAbs := by rw [← e, Int32.sub_eq_add_neg, Int32.zero_add]
    rw [e, e2]
    exact ⟨rfl, rfl⟩
theorem mi_z {g : Nat → Nat} {v p : Nat} {of : Int} {a b o : Int32} (ha : a = nI (g (cpP v p))) (hb : b = nI (g p)) (ho : o.toInt = of) (hg1 : g (cpP v p) ≤ 99) (hg2 : g p ≤ 99) (hof : -99 ≤ of ∧ of ≤ 99) : ((a - b) - o).toInt = (g (cpP v p) : Int) - g p - of := by
  subst ha hb
  have t1 : (nI (g (cpP v p)) - nI (g p)).toInt = (g (cpP v p) : Int) - g p := pk_sub_toInt (by omega) (by omega)
  rw [i_sub (by rw [t1, ho]; omega) (by rw [t1, ho]; omega), t1, ho]
theorem mi_198 {g : Nat → Nat} {v p : Nat} {of : Int} (hg1 : g (cpP v p) ≤ 99) (hg2 : g p ≤ 99) (hof : -99 ≤ of ∧ of ≤ 99) : mi g v of p ≤ 198 := by
  unfold mi; omega
/-- the class's miss -/
theorem c_missOf {FU w h v p ob : Nat} {g : Nat → Nat} {of : Int} {cg fx fy fo : Nat → Int32} (hw : w ≤ 16) (hh : h ≤ 16) (hp : p < 256) (hv : v < 496) (hG : RepG cg g) (hg : ∀ q, q < 256 → g q ≤ 99) (hx : fx ob = nI (v % 31) - 15) (hy : fy ob = nI (v / 31)) (ho : (fo ob).toInt = of) (hof : -99 ≤ of ∧ of ≤ 99) :
    (p % 16 < w ∧ p / 16 < h ∧ cpI w h v p → f_X0_missOf FU cg (nI w) (nI h) fx fy fo ob (nI (p % 16)) (nI (p / 16)) = some (nI (mi g v of p))) ∧ (¬ (p % 16 < w ∧ p / 16 < h ∧ cpI w h v p) → f_X0_missOf FU cg (nI w) (nI h) fx fy fo ob (nI (p % 16)) (nI (p / 16)) = some (-9)) := by
  unfold f_X0_missOf
  rw [hx, hy]
  by_cases c1 : p % 16 < w ∧ p / 16 < h
  · rw [has_t (a := p % 16) (b := p / 16) hw hh ⟨c1.1, c1.2, rfl, rfl⟩, bd1_s, if_neg (by decide)]
    by_cases c2 : cpI w h v p
    · have hI := cp_in hp c2
      have hq := cpP_256 hw hh c2
      rw [has_t hw hh hI, bd1_s, if_neg (by decide)]
      refine ⟨fun _ => ?_, fun z => absurd ⟨c1.1, c1.2, c2⟩ z⟩
      have e1 : (16 * nI (p / 16)) + nI (p % 16) = nI p := by rw [p16]; congr 1; omega
      have e2 : ((16 * (nI (p / 16) + nI (v / 31))) + nI (p % 16)) + (nI (v % 31) - 15) = nI (cpP v p) := by
        rw [Int32.add_assoc, hI.2.2.1, nI_add, show (16 : Int32) = nI 16 from rfl, pk_mul, nI_add]
        rfl
      rw [e1, e2, rd_ok hp (by omega), rd_ok hq (by omega), hG _ hp, hG _ hq]
      rw [(sz_nat (FU := 0) (mi_z rfl rfl ho (hg _ hq) (hg _ hp) hof) (by have := hg _ hq; have := hg _ hp; omega)).2]
      rfl
    · rw [has_f hw hh (cp_out hw hh hp hv c2), bd1_s, if_pos rfl]
      exact ⟨fun z => absurd z.2.2 c2, fun _ => rfl⟩
  · have hno : ∀ a b, ¬ InP w h (nI (p % 16)) (nI (p / 16)) a b := by
      rintro a b ⟨h1, h2, h3, h4⟩
      rw [n_inj (by omega) (by omega)] at h3 h4
      exact c1 ⟨by omega, by omega⟩
    rw [has_f hw hh hno, bd1_s, if_pos rfl]
    exact ⟨fun z => absurd ⟨z.1, z.2.1⟩ c1, fun _ => rfl⟩
/-! what may come to a finding, in the class -/
theorem c_gr38 {w h v ob sl y : Nat} {g : Nat → Nat} {of : Int} {cg fx fy fo : Nat → Int32} {kk : _} {P : _} (hw : w ≤ 16) (hh : h ≤ 16) (hv : v < 496) (hG : RepG cg g) (hg : ∀ q, q < 256 → g q ≤ 99) (hx : fx ob = nI (v % 31) - 15) (hyy : fy ob = nI (v / 31)) (ho : (fo ob).toInt = of) (hof : -99 ≤ of ∧ of ≤ 99) (hsl : sl ≤ 30) (hy : y < 16) :
    ∀ (d x fuel : Nat) (c : Nat → Int32), x + d = 16 → d < fuel → (∀ i, i < 32 → (bt (c y) i = true ↔ i < x ∧ opn w h g v of sl (16 * y + i))) →
      (∀ (z : Int32) (c' : Nat → Int32), (∀ i, i < 32 → (bt (c' y) i = true ↔ i < 16 ∧ opn w h g v of sl (16 * y + i))) → (∀ y', y' ≠ y → c' y' = c y') → Rt (kk z c') P) →
      Rt (f_X0_grow_L38 FU (nI sl) (nI y) cg (nI w) (nI h) fx fy fo ob kk fuel (nI x) c) P := by
  intro d
  induction d with
  | zero =>
    intro x fuel c e1 e2 hc hk
    obtain ⟨f, rfl⟩ : ∃ f, fuel = f + 1 := ⟨fuel - 1, by omega⟩
    have ex : x = 16 := by omega
    subst ex
    rw [f_X0_grow_L38]
    exact rt_t (by rw [show (16 : Int32) = nI 16 from rfl]; exact (by rw [n_le (by omega) (by omega)]; omega)) (hk _ _ hc (fun _ _ => rfl))
  | succ d ih =>
    intro x fuel c e1 e2 hc hk
    obtain ⟨f, rfl⟩ : ∃ f, fuel = f + 1 := ⟨fuel - 1, by omega⟩
    have hx16 : x < 16 := by omega
    rw [f_X0_grow_L38]
    refine rt_f (by rw [show (16 : Int32) = nI 16 from rfl]; exact (by rw [n_le (by omega) (by omega)]; omega)) ?_
    have hm := c_missOf (FU := FU) (p := 16 * y + x) hw hh (by omega) hv hG hg hx hyy ho hof
    rw [show (16 * y + x) % 16 = x by omega, show (16 * y + x) / 16 = y by omega] at hm
    have key : ∀ t : Int32, (∀ i, i < 32 → (bt t i = true ↔ i = x ∧ opn w h g v of sl (16 * y + x))) → Rt (wr c 16 (nI y) (c y ||| t) (fun c_open_22 => f_X0_grow_L38 FU (nI sl) (nI y) cg (nI w) (nI h) fx fy fo ob kk f (nI x + 1) c_open_22)) P := by
      intro t ht
      rw [wr_ok (by omega) (by omega), nI_1]
      refine ih (x + 1) f _ (by omega) (by omega) (fun i hi => ?_) ?_
      · simp only [upd, if_true]
        rw [b_or, Bool.or_eq_true, hc i hi, ht i hi]
        constructor
        · rintro (⟨z1, z2⟩ | ⟨z1, z2⟩)
          · exact ⟨by omega, z2⟩
          · subst z1; exact ⟨by omega, z2⟩
        · rintro ⟨z1, z2⟩
          by_cases e : i = x
          · subst e; exact Or.inr ⟨rfl, z2⟩
          · exact Or.inl ⟨by omega, z2⟩
      · intro z c' z1 z2
        exact hk z c' z1 (fun y' hy' => (z2 y' hy').trans (by simp [upd, hy']))
    have no : ¬ opn w h g v of sl (16 * y + x) → ∀ i, i < 32 → (bt (0 : Int32) i = true ↔ i = x ∧ opn w h g v of sl (16 * y + x)) := by
      intro hn i _
      rw [b_0]
      exact ⟨fun z => absurd z (by decide), fun z => absurd z.2 hn⟩
    rw [rd_ok (by omega) (by omega)]
    by_cases c1 : (16 * y + x) % 16 < w ∧ (16 * y + x) / 16 < h ∧ cpI w h v (16 * y + x)
    · have c1' := c1
      rw [show (16 * y + x) % 16 = x by omega, show (16 * y + x) / 16 = y by omega] at c1'
      have hq := cpP_256 hw hh c1.2.2
      have hmi := mi_198 (of := of) (hg _ hq) (hg (16 * y + x) (by omega)) hof
      rw [hm.1 c1', bd1_s, wi_eq]
      by_cases c2 : mi g v of (16 * y + x) ≤ sl
      · rw [show f_X8_within FU (nI (mi g v of (16 * y + x))) 0 (nI sl) = some 1 from wi_in (a := 0) (n := mi g v of (16 * y + x)) (by omega) ⟨by omega, c2, rfl⟩, bd1_s]
        refine rt_jn ?_
        dsimp only
        refine rt_f (by decide) (key _ (fun i hi => ?_))
        rw [b_one (by omega) hi, decide_eq_true_eq]
        exact ⟨fun z => ⟨z, c1.1, c1.2.1, c1.2.2, c2⟩, fun z => z.1⟩
      · rw [show f_X8_within FU (nI (mi g v of (16 * y + x))) 0 (nI sl) = some 0 from wi_out (a := 0) (by omega) (by omega) (fun n hn => by have h1 := hn.2.1; have h2 := hn.2.2; rw [n_inj (by omega) (by omega)] at h2; omega), bd1_s]
        refine rt_jn ?_
        dsimp only
        exact rt_t rfl (key 0 (no (fun z => c2 z.2.2.2)))
    · have c1' := c1
      rw [show (16 * y + x) % 16 = x by omega, show (16 * y + x) / 16 = y by omega] at c1'
      rw [hm.2 c1', bd1_s, wi_eq, show f_X8_within FU (-9) 0 (nI sl) = some 0 from wi_f (Or.inl (by decide)), bd1_s]
      refine rt_jn ?_
      dsimp only
      exact rt_t rfl (key 0 (no (fun z => c1 ⟨z.1, z.2.1, z.2.2.1⟩)))
theorem c_gr22 {w h v ob sl : Nat} {g : Nat → Nat} {of : Int} {cg fx fy fo : Nat → Int32} {kk : _} {P : _} (hw : w ≤ 16) (hh : h ≤ 16) (hv : v < 496) (hG : RepG cg g) (hg : ∀ q, q < 256 → g q ≤ 99) (hx : fx ob = nI (v % 31) - 15) (hyy : fy ob = nI (v / 31)) (ho : (fo ob).toInt = of) (hof : -99 ≤ of ∧ of ≤ 99) (hsl : sl ≤ 30) :
    ∀ (d y fuel : Nat) (c : Nat → Int32), y + d = 16 → d < fuel → (∀ y2, y2 < y → ∀ i, i < 32 → (bt (c y2) i = true ↔ i < 16 ∧ opn w h g v of sl (16 * y2 + i))) →
      (∀ (z : Int32) (c' : Nat → Int32), RB c' (opn w h g v of sl) → Rt (kk z c') P) →
      Rt (f_X0_grow_L22 FU (nI sl) cg (nI w) (nI h) fx fy fo ob kk fuel (nI y) c) P := by
  intro d
  induction d with
  | zero =>
    intro y fuel c e1 e2 hc hk
    obtain ⟨f, rfl⟩ : ∃ f, fuel = f + 1 := ⟨fuel - 1, by omega⟩
    rw [f_X0_grow_L22]
    exact rt_t (by rw [show (16 : Int32) = nI 16 from rfl]; exact (by rw [n_le (by omega) (by omega)]; omega)) (hk _ _ (fun y2 hy2 i hi => hc y2 (by omega) i hi))
  | succ d ih =>
    intro y fuel c e1 e2 hc hk
    obtain ⟨f, rfl⟩ : ∃ f, fuel = f + 1 := ⟨fuel - 1, by omega⟩
    rw [f_X0_grow_L22]
    refine rt_f (by rw [show (16 : Int32) = nI 16 from rfl]; exact (by rw [n_le (by omega) (by omega)]; omega)) ?_
    rw [wr_ok (by omega) (by omega)]
    refine c_gr38 hw hh hv hG hg hx hyy ho hof hsl (by omega : y < 16) 16 0 FU _ (by omega) (by unfold FU; omega) (fun i hi => ?_) ?_
    · simp only [upd, if_true]
      rw [b_0]
      exact ⟨fun z => absurd z (by decide), fun z => by omega⟩
    · intro z c' h1 h2
      rw [nI_1]
      refine ih (y + 1) f c' (by omega) (by omega) (fun y2 hy2 i hi => ?_) hk
      by_cases e : y2 = y
      · subst e; exact h1 i hi
      · rw [h2 y2 e]
        simp only [upd, e, if_false]
        exact hc y2 (by omega) i hi
