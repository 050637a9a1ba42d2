/-! the reference: what comes to a finding -/
theorem m_held_in {FU w h j a b : Nat} {c : Nat → Int32} {A : Nat → Prop} {x y : Int32} (hw : w ≤ 16) (hh : h ≤ 16) (hj : j < 24) (hA : MIn c j A) (hI : InP w h x y a b) : ∃ v, f_X8_isHeld FU (nI w) (nI h) c (nI j) x y = some v ∧ (v = 0 ↔ ¬ A (16 * b + a)) ∧ (v = 0 ∨ v = 1) := by
  unfold f_X8_isHeld
  rw [pl_t hw hh hI, bd1_s, if_neg (by decide)]
  obtain ⟨h1, h2, h3, h4⟩ := hI
  subst h3 h4
  rw [show (256 : Int32) = nI 256 from rfl, pk_mul, show (16 : Int32) = nI 16 from rfl, pk_mul, nI_add, nI_add, show 256 * j + 16 * b + a = 256 * j + (16 * b + a) by omega, rd_ok (by omega) (by omega)]
  have e := min_0 hA (by omega : 16 * b + a < 256)
  by_cases q : c (256 * j + (16 * b + a)) = 0
  · rw [if_pos q]
    exact ⟨0, rfl, ⟨fun _ => e.mp q, fun _ => rfl⟩, Or.inl rfl⟩
  · rw [if_neg q]
    exact ⟨1, rfl, ⟨fun z => absurd z (by decide), fun z => absurd (e.mpr z) q⟩, Or.inr rfl⟩
theorem m_held_out {FU w h : Nat} {c : Nat → Int32} {j x y : Int32} (hw : w ≤ 16) (hh : h ≤ 16) (hw1 : 1 ≤ w) (hh1 : 1 ≤ h) (hI : ∀ a b, ¬ InP w h x y a b) : f_X8_isHeld FU (nI w) (nI h) c j x y = some 0 := by
  unfold f_X8_isHeld
  rw [pl_f hw hh hw1 hh1 hI, bd1_s, if_pos rfl]
theorem dn2 : ∀ a, a < 17 → (a = 0 → ∀ b, b < 17 → nI a - 1 ≠ nI b) ∧ (1 ≤ a → nI a - 1 = nI (a - 1)) := by decide +kernel
theorem m_comes {FU w h j r p : Nat} {g st : Nat → Nat} {A : Nat → Prop} {cg cs cx cy crs crof cof c : Nat → Int32} (hG : RepG cg g) (hg : ∀ q, q < 256 → g q ≤ 99) (hS : RepS cs st) (ho : OKs st) (hw : w ≤ 16) (hh : h ≤ 16) (hw1 : 1 ≤ w) (hh1 : 1 ≤ h) (hm : MF w h g st cx cy crs crof j r) (hof : (cof j).toInt = zOf w h g st r) (hp : p < 256) (hA : MIn c j A) (hP : ∀ q, q < 256 → A q → q % 16 < w ∧ q / 16 < h) :
    Rt (f_X8_comes FU (nI w) (nI h) cg cs cx cy crs crof cof c (nI j) (nI p)) (fun v => v = 0 ↔ ¬ (zOp w h g st r p ∧ ∃ q, q < 256 ∧ A q ∧ nb q p)) := by
  have hj := hm.1
  have hsl := ho.slack
  have d1 := dn1 (p % 16) (by omega)
  have d2 := dn1 (p / 16) (by omega)
  have t1 := dn2 (p % 16) (by omega)
  have t2 := dn2 (p / 16) (by omega)
  have l : ∃ v, f_X8_isHeld FU (nI w) (nI h) c (nI j) (nI (p % 16) - 1) (nI (p / 16)) = some v ∧ (v = 0 ↔ ¬ (1 ≤ p % 16 ∧ A (p - 1))) := by
    by_cases e : 1 ≤ p % 16 ∧ p % 16 - 1 < w ∧ p / 16 < h
    · obtain ⟨v, e1, e2, _⟩ := m_held_in (FU := FU) hw hh hj hA (x := nI (p % 16) - 1) (y := nI (p / 16)) (a := p % 16 - 1) (b := p / 16) ⟨by omega, by omega, t1.2 (by omega), rfl⟩
      refine ⟨v, e1, ?_⟩
      rw [e2, show 16 * (p / 16) + (p % 16 - 1) = p - 1 by omega]
      exact ⟨fun z y => z y.2, fun z y => z ⟨e.1, y⟩⟩
    · refine ⟨0, m_held_out hw hh hw1 hh1 (fun a b hI => ?_), ⟨fun _ z => ?_, fun _ => rfl⟩⟩
      · obtain ⟨i1, i2, i3, i4⟩ := hI
        rw [n_inj (by omega) (by omega)] at i4
        by_cases z : p % 16 = 0
        · exact t1.1 z a (by omega) i3
        · rw [t1.2 (by omega), n_inj (by omega) (by omega)] at i3
          omega
      · have := hP (p - 1) (by omega) z.2
        omega
  have r' : ∃ v, f_X8_isHeld FU (nI w) (nI h) c (nI j) (nI (p % 16) + 1) (nI (p / 16)) = some v ∧ (v = 0 ↔ ¬ (p % 16 + 1 < 16 ∧ A (p + 1))) := by
    by_cases e : p % 16 + 1 < w ∧ p / 16 < h
    · obtain ⟨v, e1, e2, _⟩ := m_held_in (FU := FU) hw hh hj hA (x := nI (p % 16) + 1) (y := nI (p / 16)) (a := p % 16 + 1) (b := p / 16) ⟨by omega, by omega, d1.2.2.1, rfl⟩
      refine ⟨v, e1, ?_⟩
      rw [e2, show 16 * (p / 16) + (p % 16 + 1) = p + 1 by omega]
      exact ⟨fun z y => z y.2, fun z y => z ⟨by omega, y⟩⟩
    · refine ⟨0, m_held_out hw hh hw1 hh1 (fun a b hI => ?_), ⟨fun _ z => ?_, fun _ => rfl⟩⟩
      · obtain ⟨i1, i2, i3, i4⟩ := hI
        rw [n_inj (by omega) (by omega)] at i4
        rw [d1.2.2.1, n_inj (by omega) (by omega)] at i3
        omega
      · have := hP (p + 1) (by omega) z.2
        omega
  have u : ∃ v, f_X8_isHeld FU (nI w) (nI h) c (nI j) (nI (p % 16)) (nI (p / 16) - 1) = some v ∧ (v = 0 ↔ ¬ (16 ≤ p ∧ A (p - 16))) := by
    by_cases e : 1 ≤ p / 16 ∧ p / 16 - 1 < h ∧ p % 16 < w
    · obtain ⟨v, e1, e2, _⟩ := m_held_in (FU := FU) hw hh hj hA (x := nI (p % 16)) (y := nI (p / 16) - 1) (a := p % 16) (b := p / 16 - 1) ⟨by omega, by omega, rfl, t2.2 (by omega)⟩
      refine ⟨v, e1, ?_⟩
      rw [e2, show 16 * (p / 16 - 1) + p % 16 = p - 16 by omega]
      exact ⟨fun z y => z y.2, fun z y => z ⟨by omega, y⟩⟩
    · refine ⟨0, m_held_out hw hh hw1 hh1 (fun a b hI => ?_), ⟨fun _ z => ?_, fun _ => rfl⟩⟩
      · obtain ⟨i1, i2, i3, i4⟩ := hI
        rw [n_inj (by omega) (by omega)] at i3
        by_cases z : p / 16 = 0
        · exact t2.1 z b (by omega) i4
        · rw [t2.2 (by omega), n_inj (by omega) (by omega)] at i4
          omega
      · have := hP (p - 16) (by omega) z.2
        omega
  have d : ∃ v, f_X8_isHeld FU (nI w) (nI h) c (nI j) (nI (p % 16)) (nI (p / 16) + 1) = some v ∧ (v = 0 ↔ ¬ (p + 16 < 256 ∧ A (p + 16))) := by
    by_cases e : p / 16 + 1 < h ∧ p % 16 < w
    · obtain ⟨v, e1, e2, _⟩ := m_held_in (FU := FU) hw hh hj hA (x := nI (p % 16)) (y := nI (p / 16) + 1) (a := p % 16) (b := p / 16 + 1) ⟨by omega, by omega, rfl, d2.2.2.1⟩
      refine ⟨v, e1, ?_⟩
      rw [e2, show 16 * (p / 16 + 1) + p % 16 = p + 16 by omega]
      exact ⟨fun z y => z y.2, fun z y => z ⟨by omega, y⟩⟩
    · refine ⟨0, m_held_out hw hh hw1 hh1 (fun a b hI => ?_), ⟨fun _ z => ?_, fun _ => rfl⟩⟩
      · obtain ⟨i1, i2, i3, i4⟩ := hI
        rw [n_inj (by omega) (by omega)] at i3
        rw [d2.2.2.1, n_inj (by omega) (by omega)] at i4
        omega
      · have := hP (p + 16) z.1 z.2
        omega
  obtain ⟨v1, e1, i1⟩ := l
  obtain ⟨v2, e2, i2⟩ := r'
  obtain ⟨v3, e3, i3⟩ := u
  obtain ⟨v4, e4, i4⟩ := d
  have near : (∃ q, q < 256 ∧ A q ∧ nb q p) ↔ (v1 ≠ 0 ∨ v2 ≠ 0 ∨ v3 ≠ 0 ∨ v4 ≠ 0) := by
    have k1 : v1 ≠ 0 ↔ (1 ≤ p % 16 ∧ A (p - 1)) := ⟨fun z => Classical.byContradiction (fun y => z (i1.mpr y)), fun z y => i1.mp y z⟩
    have k2 : v2 ≠ 0 ↔ (p % 16 + 1 < 16 ∧ A (p + 1)) := ⟨fun z => Classical.byContradiction (fun y => z (i2.mpr y)), fun z y => i2.mp y z⟩
    have k3 : v3 ≠ 0 ↔ (16 ≤ p ∧ A (p - 16)) := ⟨fun z => Classical.byContradiction (fun y => z (i3.mpr y)), fun z y => i3.mp y z⟩
    have k4 : v4 ≠ 0 ↔ (p + 16 < 256 ∧ A (p + 16)) := ⟨fun z => Classical.byContradiction (fun y => z (i4.mpr y)), fun z y => i4.mp y z⟩
    rw [k1, k2, k3, k4]
    constructor
    · rintro ⟨q, hq, ha, z | z | z | z⟩
      · exact Or.inl ⟨by omega, by rw [show p - 1 = q by omega]; exact ha⟩
      · exact Or.inr (Or.inl ⟨by omega, by rw [show p + 1 = q by omega]; exact ha⟩)
      · exact Or.inr (Or.inr (Or.inl ⟨by omega, by rw [show p - 16 = q by omega]; exact ha⟩))
      · exact Or.inr (Or.inr (Or.inr ⟨by omega, by rw [show p + 16 = q by omega]; exact ha⟩))
    · rintro (z | z | z | z)
      · exact ⟨p - 1, by omega, z.2, Or.inl ⟨by omega, by omega⟩⟩
      · exact ⟨p + 1, by omega, z.2, Or.inr (Or.inl ⟨by omega, by omega⟩)⟩
      · exact ⟨p - 16, by omega, z.2, Or.inr (Or.inr (Or.inl (by omega)))⟩
      · exact ⟨p + 16, by omega, z.2, Or.inr (Or.inr (Or.inr (by omega)))⟩
  have tail : ∀ t : Int32, (t = 0 ↔ ¬ ∃ q, q < 256 ∧ A q ∧ nb q p) → Rt (bd1 (f_X8_isPlace FU (nI w) (nI h) (nI (p % 16)) (nI (p / 16))) (fun r_5 => if r_5 = 0 then some (0 : Int32) else if t = 0 then some 0 else bd1 (f_X8_copyOf FU (nI w) (nI h) cx cy crs crof (nI j) (nI p)) (fun r_6 => if r_6 = (-9) then some 0 else bd1 (f_X8_missOf FU (nI w) (nI h) cg cx cy crs crof cof (nI j) (nI p)) (fun r_7 => rd cs 8 7 (fun y_8 => if y_8 < r_7 then some 0 else some 1))))) (fun v => v = 0 ↔ ¬ (zOp w h g st r p ∧ ∃ q, q < 256 ∧ A q ∧ nb q p)) := by
    intro t ht
    have no : ¬ (zOp w h g st r p ∧ ∃ q, q < 256 ∧ A q ∧ nb q p) → Rt (some (0 : Int32)) (fun v => v = 0 ↔ ¬ (zOp w h g st r p ∧ ∃ q, q < 256 ∧ A q ∧ nb q p)) := fun z => rt_some ⟨fun _ => z, fun _ => rfl⟩
    by_cases hin : p % 16 < w ∧ p / 16 < h
    · rw [pl_t hw hh (a := p % 16) (b := p / 16) ⟨hin.1, hin.2, rfl, rfl⟩, bd1_s]
      refine rt_f (by decide) ?_
      refine rt_if (fun c1 => no (fun z => ht.mp c1 z.2)) (fun c1 => ?_)
      have hex : ∃ q, q < 256 ∧ A q ∧ nb q p := Classical.byContradiction (fun z => c1 (ht.mpr z))
      by_cases hc : cpI w h (zv w h g st r) p
      · rw [(m_copyOf hw hh hw1 hh1 hm hp).1 hc, bd1_s]
        refine rt_f (fun z => (nI_nm1 (by have := cpP_256 hw hh hc; omega)).2 z) ?_
        have hmi := mi_198 (v := zv w h g st r) (p := p) (of := zOf w h g st r) (hg _ (cpP_256 hw hh hc)) (hg _ hp) (zOf_99 _ _ _ _ _)
        rw [m_missOf hw hh hw1 hh1 hG hg hm hof hp hc, bd1_s, show (7 : Int32) = nI 7 from rfl, rd_ok (by omega) (by omega), hS 7 (by omega)]
        refine rt_if (fun c2 => no (fun z => ?_)) (fun c2 => ?_)
        · rw [n_lt (by omega) (by omega)] at c2
          have := z.1.2.2.2
          omega
        · rw [n_lt (by omega) (by omega)] at c2
          refine rt_some ⟨fun z => absurd z (by decide), fun z => absurd ⟨⟨hin.1, hin.2, hc, by omega⟩, hex⟩ z⟩
      · rw [(m_copyOf hw hh hw1 hh1 hm hp).2 hc, bd1_s]
        exact rt_t rfl (no (fun z => hc z.1.2.2.1))
    · rw [pl_f hw hh hw1 hh1 (fun a b hI => by
        obtain ⟨i1, i2, i3, i4⟩ := hI
        rw [n_inj (by omega) (by omega)] at i3 i4
        omega), bd1_s]
      exact rt_t rfl (no (fun z => hin ⟨z.1.1, z.1.2.1⟩))
  have t1' : (1 : Int32) ≠ 0 := by decide
  unfold f_X8_comes
  rw [md16 (by omega), dv16 (by omega), e1, bd1_s]
  refine rt_jn ?_
  dsimp only
  refine rt_if (fun c1 => ?_) (fun c1 => tail 1 ⟨fun z => absurd z t1', fun z => absurd (near.mpr (Or.inl c1)) z⟩)
  rw [e2, bd1_s]
  refine rt_if (fun c2 => ?_) (fun c2 => tail 1 ⟨fun z => absurd z t1', fun z => absurd (near.mpr (Or.inr (Or.inl c2))) z⟩)
  rw [e3, bd1_s]
  refine rt_if (fun c3 => ?_) (fun c3 => tail 1 ⟨fun z => absurd z t1', fun z => absurd (near.mpr (Or.inr (Or.inr (Or.inl c3)))) z⟩)
  rw [e4, bd1_s]
  refine rt_if (fun c4 => ?_) (fun c4 => tail 1 ⟨fun z => absurd z t1', fun z => absurd (near.mpr (Or.inr (Or.inr (Or.inr c4)))) z⟩)
  refine tail 0 ⟨fun _ z => ?_, fun _ => rfl⟩
  rcases near.mp z with y | y | y | y
  · exact y c1
  · exact y c2
  · exact y c3
  · exact y c4
/-! the reference's finding grows -/
theorem m_gr10 {w h j r : Nat} {g st : Nat → Nat} {A0 : Nat → Prop} {cg cs cx cy crs crof cof : Nat → Int32} {kk : _} {P : _} (hG : RepG cg g) (hg : ∀ q, q < 256 → g q ≤ 99) (hS : RepS cs st) (ho : OKs st) (hw : w ≤ 16) (hh : h ≤ 16) (hw1 : 1 ≤ w) (hh1 : 1 ≤ h) (hm : MF w h g st cx cy crs crof j r) (hof : (cof j).toInt = zOf w h g st r) :
    ∀ (d p fuel gr : Nat) (c : Nat → Int32) (A : Nat → Prop), p + d = 256 → d < fuel → MIn c j A → (∀ q, q < 256 → A q → q % 16 < w ∧ q / 16 < h) → SQ (zOp w h g st r) A0 A p gr →
      (∀ (z : Int32) (gr : Nat) (c' : Nat → Int32) (A : Nat → Prop), MIn c' j A → (∀ q, q < 256 → A q → q % 16 < w ∧ q / 16 < h) → Oth c' c j → SQ (zOp w h g st r) A0 A 256 gr → Rt (kk (nI gr) z c') P) →
      Rt (f_X8_grows_L10 FU (nI j) (nI w) (nI h) cg cs cx cy crs crof cof kk fuel (nI gr) (nI p) c) P := by
  have hj := hm.1
  intro d
  induction d with
  | zero =>
    intro p fuel gr c A e1 e2 hA hP hSq hk
    obtain ⟨f, rfl⟩ : ∃ f, fuel = f + 1 := ⟨fuel - 1, by omega⟩
    have ep : p = 256 := by omega
    subst ep
    rw [f_X8_grows_L10]
    exact rt_t (by rw [show (256 : Int32) = nI 256 from rfl]; exact (by rw [n_le (by omega) (by omega)]; omega)) (hk _ gr c A hA hP oth_rfl hSq)
  | succ d ih =>
    intro p fuel gr c A e1 e2 hA hP hSq hk
    obtain ⟨f, rfl⟩ : ∃ f, fuel = f + 1 := ⟨fuel - 1, by omega⟩
    have hp : p < 256 := by omega
    rw [f_X8_grows_L10]
    refine rt_f (by rw [show (256 : Int32) = nI 256 from rfl]; exact (by rw [n_le (by omega) (by omega)]; omega)) ?_
    rw [show (256 : Int32) = nI 256 from rfl, pk_mul, nI_add, rd_ok (by omega) (by omega), nI_1]
    refine rt_if (fun c1 => ?_) (fun c1 => ?_)
    · have hn : ¬ A p := (min_0 hA hp).mp c1
      refine rt_bd1 (m_comes hG hg hS ho hw hh hw1 hh1 hm hof hp hA hP) ?_
      intro v hv
      refine rt_if (fun c2 => ?_) (fun c2 => ?_)
      · exact ih (p + 1) f gr c A (by omega) (by omega) hA hP (sq_skip hp hSq (fun z1 _ z2 => hv.mp c2 ⟨z1, z2⟩)) hk
      · have hex : zOp w h g st r p ∧ ∃ q, q < 256 ∧ A q ∧ nb q p := Classical.byContradiction (fun z => c2 (hv.mpr z))
        rw [wrz_ok (by omega) (by omega), nar1]
        refine ih (p + 1) f 1 _ (fun q => A q ∨ q = p) (by omega) (by omega) (min_put hA hp) ?_ (sq_add hp hSq hex.1 hn hex.2) ?_
        · rintro q hq (z | z)
          · exact hP q hq z
          · subst z; exact ⟨hex.1.1, hex.1.2.1⟩
        · intro z gr' c' A' h1 h2 h3 h4
          exact hk z gr' c' A' h1 h2 (oth_tr h3 (oth_put hp)) h4
    · have hy : A p := Classical.byContradiction (fun z => c1 ((min_0 hA hp).mpr z))
      exact ih (p + 1) f gr c A (by omega) (by omega) hA hP (sq_skip hp hSq (fun _ z => absurd hy z)) hk
theorem m_gr2 {w h j r : Nat} {g st : Nat → Nat} {S : Nat → Prop} {cg cs cx cy crs crof cof : Nat → Int32} {kk : _} {P : _} (hG : RepG cg g) (hg : ∀ q, q < 256 → g q ≤ 99) (hS : RepS cs st) (ho : OKs st) (hw : w ≤ 16) (hh : h ≤ 16) (hw1 : 1 ≤ w) (hh1 : 1 ≤ h) (hm : MF w h g st cx cy crs crof j r) (hof : (cof j).toInt = zOf w h g st r) :
    ∀ (d fuel gr : Nat) (c : Nat → Int32) (A : Nat → Prop), 257 ≤ d + cnt A → d < fuel → MIn c j A → (∀ q, q < 256 → A q → q % 16 < w ∧ q / 16 < h) → (∀ q, q < 256 → S q → A q) → (∀ q, q < 256 → A q → Cl (zOp w h g st r) S q) → (gr = 1 ∨ (gr = 0 ∧ ∀ p, p < 256 → zOp w h g st r p → (∃ q, q < 256 ∧ A q ∧ nb q p) → A p)) →
      (∀ (z : Int32) (c' : Nat → Int32), MIn c' j (Cl (zOp w h g st r) S) → Oth c' c j → Rt (kk z c') P) →
      Rt (f_X8_grows_L2 FU (nI j) (nI w) (nI h) cg cs cx cy crs crof cof kk fuel (nI gr) c) P := by
  intro d
  induction d with
  | zero => intro fuel gr c A e1; have := cnt_256 A; omega
  | succ d ih =>
    intro fuel gr c A e1 e2 hA hP h1 h2 h3 hk
    obtain ⟨f, rfl⟩ : ∃ f, fuel = f + 1 := ⟨fuel - 1, by omega⟩
    rw [f_X8_grows_L2]
    rcases h3 with h3 | ⟨h3, h4⟩
    · subst h3
      refine rt_f (by decide) ?_
      refine m_gr10 (A0 := A) hG hg hS ho hw hh hw1 hh1 hm hof 256 0 FU 0 c A (by omega) (by unfold FU; omega) hA hP ⟨fun _ _ z => z, fun q hq z => cl_seed hq z, Or.inl ⟨rfl, fun _ _ => Iff.rfl, fun p hp => by omega⟩⟩ ?_
      intro z gr' c' A' m1 m2 m3 m4
      obtain ⟨s1, s2, s3⟩ := m4
      rcases s3 with ⟨s3, s4, s5⟩ | ⟨s3, s4⟩
      · subst s3
        by_cases ef : 0 < f
        · obtain ⟨f2, rfl⟩ : ∃ f2, f = f2 + 1 := ⟨f - 1, by omega⟩
          rw [f_X8_grows_L2]
          refine rt_t rfl (hk _ _ (min_cong m1 ?_) m3)
          refine cl_is (fun q hq z => s1 q hq (h1 q hq z)) (fun q hq z => h2 q hq ((s4 q hq).mp z)) ?_
          intro q r hq hr ha hn ho
          exact (s4 r hr).mpr (s5 r hr ho ⟨q, hq, (s4 q hq).mp ha, hn⟩)
        · have := cnt_256 A; omega
      · subst s3
        exact ih f 1 c' A' (by omega) (by omega) m1 m2 (fun q hq z => s1 q hq (h1 q hq z)) (fun q hq z => cl_idem h2 (s2 q hq z)) (Or.inl rfl) (fun z c'' y1 y2 => hk z c'' y1 (oth_tr y2 m3))
    · subst h3
      refine rt_t rfl (hk _ _ (min_cong hA ?_) oth_rfl)
      exact cl_is h1 h2 (fun q r hq hr ha hn ho => h4 r hr ho ⟨q, hq, ha, hn⟩)
theorem zWd_in {w h : Nat} {g st : Nat → Nat} (ho : OKs st) (hw : w ≤ 16) {r : Nat} (hr : r < (zRL w h g st).length) {q : Nat} (hq : zWd w h g st r q) : q % 16 < w ∧ q / 16 < h := by
  obtain ⟨p, i, j, h1, h2, h3, h4, h5⟩ := hq
  have := zRA_in ho hw hr h2
  omega
theorem m_grows {w h j r : Nat} {g st : Nat → Nat} {cg cs cx cy crs crof cof chd c : Nat → Int32} (hG : RepG cg g) (hg : ∀ q, q < 256 → g q ≤ 99) (hS : RepS cs st) (ho : OKs st) (hw : w ≤ 16) (hh : h ≤ 16) (hw1 : 1 ≤ w) (hh1 : 1 ≤ h) (hm : MF w h g st cx cy crs crof j r) (hof : (cof j).toInt = zOf w h g st r) (hA : MIn c j (zWd w h g st r)) :
    Rt (f_X8_grows FU (nI w) (nI h) cg cs cx cy crs crof cof chd c (nI j)) (fun q => q.1 j = nI (zHd w h g st r) ∧ (∀ o, o ≠ j → q.1 o = chd o) ∧ MIn q.2 j (zGr w h g st r) ∧ Oth q.2 c j) := by
  have hj := hm.1
  unfold f_X8_grows
  refine m_gr2 (S := zWd w h g st r) hG hg hS ho hw hh hw1 hh1 hm hof 257 FU 1 c (zWd w h g st r) (by omega) (by unfold FU; omega) hA (fun q _ z => zWd_in ho hw hm.2.1 z) (fun _ _ z => z) (fun q hq z => cl_seed hq z) (Or.inl rfl) ?_
  intro z c' h1 h2
  rw [m_manyIn hj h1, bd1_s, wr_ok (by omega) (by omega)]
  refine rt_some ⟨?_, fun o h3 => ?_, h1, h2⟩
  · simp only [upd, if_true]; rfl
  · simp only [upd, h3, if_false]
