/-! the reference spreads a region -/
def MA (c0 c : Nat → Int32) (k R : Nat) (A : Nat → Prop) : Prop := (∀ p, p < 256 → A p → c (256 * k + p) = nI R) ∧ (∀ p, p < 256 → ¬ A p → c (256 * k + p) = c0 (256 * k + p)) ∧ (∀ k' p, k' ≠ k → p < 256 → c (256 * k' + p) = c0 (256 * k' + p))
theorem nI_nm1 {R : Nat} (h : R < 2147483648) : nI R ≠ -1 ∧ nI R ≠ -9 := by
  constructor <;> intro e <;> rw [i_eq, i_nI h] at e
  · rw [show (-1 : Int32).toInt = -1 by decide] at e; omega
  · rw [show (-9 : Int32).toInt = -9 by decide] at e; omega
theorem ma_R {c0 c : Nat → Int32} {k R : Nat} {A : Nat → Prop} (h : MA c0 c k R A) (hR : ∀ p, p < 256 → c0 (256 * k + p) ≠ nI R) {p : Nat} (hp : p < 256) : c (256 * k + p) = nI R ↔ A p := by
  constructor
  · intro e
    refine Classical.byContradiction (fun z => ?_)
    rw [h.2.1 p hp z] at e
    exact hR p hp e
  · exact h.1 p hp
theorem ma_m1 {c0 c : Nat → Int32} {k R : Nat} {A : Nat → Prop} (h : MA c0 c k R A) (hR2 : R < 2147483648) {p : Nat} (hp : p < 256) : c (256 * k + p) = -1 ↔ c0 (256 * k + p) = -1 ∧ ¬ A p := by
  by_cases e : A p
  · rw [h.1 p hp e]
    exact ⟨fun z => absurd z (nI_nm1 hR2).1, fun z => absurd e z.2⟩
  · rw [h.2.1 p hp e]
    exact ⟨fun z => ⟨z, e⟩, fun z => z.1⟩
theorem bs_in {FU w h k p a b : Nat} {c : Nat → Int32} {x3 x4 : Int32} (hw : w ≤ 16) (hh : h ≤ 16) (hk : k < 8) (hp : p < 256) (hI : InP w h (nI (p % 16) + x3) (nI (p / 16) + x4) a b) : f_X8_beside FU (nI w) (nI h) c (nI k) (nI p) x3 x4 = some (c (256 * k + (16 * b + a))) := by
  unfold f_X8_beside
  rw [md16 (by omega), dv16 (by omega), pl_t hw hh hI, bd1_s, if_neg (by decide)]
  obtain ⟨h1, h2, h3, h4⟩ := hI
  rw [h3, h4, show (256 : Int32) = nI 256 from rfl, pk_mul, show (16 : Int32) = nI 16 from rfl, pk_mul, nI_add, nI_add, rd_ok (by omega) (by omega)]
  congr 2
  omega
theorem bs_out {FU w h k p : Nat} {c : Nat → Int32} {x3 x4 : Int32} (hw : w ≤ 16) (hh : h ≤ 16) (hw1 : 1 ≤ w) (hh1 : 1 ≤ h) (hp : p < 256) (hI : ∀ a b, ¬ InP w h (nI (p % 16) + x3) (nI (p / 16) + x4) a b) : f_X8_beside FU (nI w) (nI h) c (nI k) (nI p) x3 x4 = some (-9) := by
  unfold f_X8_beside
  rw [md16 (by omega), dv16 (by omega), pl_f hw hh hw1 hh1 hI, bd1_s, if_pos rfl]
theorem dn1 : ∀ a, a < 17 → (a = 0 → ∀ b, b < 17 → nI a + -1 ≠ nI b) ∧ (1 ≤ a → nI a + -1 = nI (a - 1)) ∧ nI a + 1 = nI (a + 1) ∧ nI a + 0 = nI a := by decide +kernel
theorem m_isBeside {FU w h k R p : Nat} {c0 c : Nat → Int32} {A : Nat → Prop} (hw : w ≤ 16) (hh : h ≤ 16) (hw1 : 1 ≤ w) (hh1 : 1 ≤ h) (hk : k < 8) (hp : p < 256) (hpw : p % 16 < w) (hph : p / 16 < h) (hR2 : R < 2147483648) (hM : MA c0 c k R A) (hR : ∀ p, p < 256 → c0 (256 * k + p) ≠ nI R) (hA : ∀ q, q < 256 → A q → q % 16 < w ∧ q / 16 < h) :
    Rt (f_X8_isBeside FU (nI w) (nI h) c (nI k) (nI p) (nI R)) (fun r => r = 0 ↔ ¬ ∃ q, q < 256 ∧ A q ∧ nb q p) := by
  have d1 := dn1 (p % 16) (by omega)
  have d2 := dn1 (p / 16) (by omega)
  have n9 : (-9 : Int32) ≠ nI R := fun z => (nI_nm1 hR2).2 z.symm
  have l : ∃ v, f_X8_beside FU (nI w) (nI h) c (nI k) (nI p) (-1) 0 = some v ∧ (v = nI R ↔ 1 ≤ p % 16 ∧ A (p - 1)) := by
    by_cases e : p % 16 = 0
    · refine ⟨_, bs_out hw hh hw1 hh1 hp (fun a b hI => ?_), ⟨fun z => absurd z n9, fun z => by omega⟩⟩
      exact d1.1 e a (by have := hI.1; omega) hI.2.2.1
    · refine ⟨_, bs_in (a := p % 16 - 1) (b := p / 16) hw hh hk hp ⟨by omega, hph, d1.2.1 (by omega), d2.2.2.2⟩, ?_⟩
      rw [show 16 * (p / 16) + (p % 16 - 1) = p - 1 by omega, ma_R hM hR (by omega)]
      exact ⟨fun z => ⟨by omega, z⟩, fun z => z.2⟩
  have r : ∃ v, f_X8_beside FU (nI w) (nI h) c (nI k) (nI p) 1 0 = some v ∧ (v = nI R ↔ p % 16 + 1 < w ∧ A (p + 1)) := by
    by_cases e : p % 16 + 1 < w
    · refine ⟨_, bs_in (a := p % 16 + 1) (b := p / 16) hw hh hk hp ⟨e, hph, d1.2.2.1, d2.2.2.2⟩, ?_⟩
      rw [show 16 * (p / 16) + (p % 16 + 1) = p + 1 by omega, ma_R hM hR (by omega)]
      exact ⟨fun z => ⟨e, z⟩, fun z => z.2⟩
    · refine ⟨_, bs_out hw hh hw1 hh1 hp (fun a b hI => ?_), ⟨fun z => absurd z n9, fun z => by omega⟩⟩
      have h1 := hI.1
      have h2 := hI.2.2.1
      rw [d1.2.2.1, n_inj (by omega) (by omega)] at h2
      omega
  have u : ∃ v, f_X8_beside FU (nI w) (nI h) c (nI k) (nI p) 0 (-1) = some v ∧ (v = nI R ↔ 16 ≤ p ∧ A (p - 16)) := by
    by_cases e : p / 16 = 0
    · refine ⟨_, bs_out hw hh hw1 hh1 hp (fun a b hI => ?_), ⟨fun z => absurd z n9, fun z => by omega⟩⟩
      exact d2.1 e b (by have := hI.2.1; omega) hI.2.2.2
    · refine ⟨_, bs_in (a := p % 16) (b := p / 16 - 1) hw hh hk hp ⟨hpw, by omega, d1.2.2.2, d2.2.1 (by omega)⟩, ?_⟩
      rw [show 16 * (p / 16 - 1) + p % 16 = p - 16 by omega, ma_R hM hR (by omega)]
      exact ⟨fun z => ⟨by omega, z⟩, fun z => z.2⟩
  have d : ∃ v, f_X8_beside FU (nI w) (nI h) c (nI k) (nI p) 0 1 = some v ∧ (v = nI R ↔ p / 16 + 1 < h ∧ A (p + 16)) := by
    by_cases e : p / 16 + 1 < h
    · refine ⟨_, bs_in (a := p % 16) (b := p / 16 + 1) hw hh hk hp ⟨hpw, e, d1.2.2.2, d2.2.2.1⟩, ?_⟩
      rw [show 16 * (p / 16 + 1) + p % 16 = p + 16 by omega, ma_R hM hR (by omega)]
      exact ⟨fun z => ⟨e, z⟩, fun z => z.2⟩
    · refine ⟨_, bs_out hw hh hw1 hh1 hp (fun a b hI => ?_), ⟨fun z => absurd z n9, fun z => by omega⟩⟩
      have h1 := hI.2.1
      have h2 := hI.2.2.2
      rw [d2.2.2.1, n_inj (by omega) (by omega)] at h2
      omega
  obtain ⟨v1, e1, i1⟩ := l
  obtain ⟨v2, e2, i2⟩ := r
  obtain ⟨v3, e3, i3⟩ := u
  obtain ⟨v4, e4, i4⟩ := d
  have yes : (∃ q, q < 256 ∧ A q ∧ nb q p) → Rt (some (1 : Int32)) (fun r => r = 0 ↔ ¬ ∃ q, q < 256 ∧ A q ∧ nb q p) := fun z => rt_some ⟨fun y => absurd y (by decide), fun y => absurd z y⟩
  unfold f_X8_isBeside
  rw [e1, bd1_s]
  refine rt_if (fun c1 => ?_) (fun c1 => ?_)
  · have z := i1.mp c1
    exact yes ⟨p - 1, by omega, z.2, Or.inl ⟨by omega, by omega⟩⟩
  · rw [e2, bd1_s]
    refine rt_if (fun c2 => ?_) (fun c2 => ?_)
    · have z := i2.mp c2
      exact yes ⟨p + 1, by omega, z.2, Or.inr (Or.inl ⟨by omega, by omega⟩)⟩
    · rw [e3, bd1_s]
      refine rt_if (fun c3 => ?_) (fun c3 => ?_)
      · have z := i3.mp c3
        exact yes ⟨p - 16, by omega, z.2, Or.inr (Or.inr (Or.inl (by omega)))⟩
      · rw [e4, bd1_s]
        refine rt_if (fun c4 => ?_) (fun c4 => ?_)
        · have z := i4.mp c4
          exact yes ⟨p + 16, by omega, z.2, Or.inr (Or.inr (Or.inr (by omega)))⟩
        · refine rt_some ⟨fun _ => ?_, fun _ => rfl⟩
          rintro ⟨q, hq, ha, hn⟩
          have hq2 := hA q hq ha
          rcases hn with z | z | z | z
          · exact c1 (i1.mpr ⟨by omega, by rw [show p - 1 = q by omega]; exact ha⟩)
          · exact c2 (i2.mpr ⟨by omega, by rw [show p + 1 = q by omega]; exact ha⟩)
          · exact c3 (i3.mpr ⟨by omega, by rw [show p - 16 = q by omega]; exact ha⟩)
          · exact c4 (i4.mpr ⟨by omega, by rw [show p + 16 = q by omega]; exact ha⟩)
/-- what a round, place by place, has made of a set so far -/
def SQ (O A0 A : Nat → Prop) (b : Nat) (gr : Nat) : Prop := (∀ q, q < 256 → A0 q → A q) ∧ (∀ q, q < 256 → A q → Cl O A0 q) ∧
  ((gr = 0 ∧ (∀ q, q < 256 → (A q ↔ A0 q)) ∧ ∀ p, p < b → O p → (∃ q, q < 256 ∧ A0 q ∧ nb q p) → A0 p) ∨ (gr = 1 ∧ cnt A0 < cnt A))
theorem sq_add {O A0 A : Nat → Prop} {b gr : Nat} (hb : b < 256) (h : SQ O A0 A b gr) (ho : O b) (hn : ¬ A b) (he : ∃ q, q < 256 ∧ A q ∧ nb q b) : SQ O A0 (fun q => A q ∨ q = b) (b + 1) 1 := by
  obtain ⟨s1, s2, s3⟩ := h
  refine ⟨fun q hq z => Or.inl (s1 q hq z), ?_, Or.inr ⟨rfl, ?_⟩⟩
  · rintro q hq (z | z)
    · exact s2 q hq z
    · subst z
      obtain ⟨r, hr, ha, hx⟩ := he
      exact cl_step hr hq (s2 r hr ha) hx ho
  · exact cnt_lt (p := b) (fun q hq z => Or.inl (s1 q hq z)) hb (Or.inr rfl) (fun z => hn (s1 b hb z))
theorem sq_skip {O A0 A : Nat → Prop} {b gr : Nat} (hb : b < 256) (h : SQ O A0 A b gr) (hx : O b → ¬ A b → ¬ ∃ q, q < 256 ∧ A q ∧ nb q b) : SQ O A0 A (b + 1) gr := by
  obtain ⟨s1, s2, s3⟩ := h
  refine ⟨s1, s2, ?_⟩
  rcases s3 with ⟨s3, s4, s5⟩ | s3
  · refine Or.inl ⟨s3, s4, fun p hp ho he => ?_⟩
    by_cases e : p = b
    · subst e
      refine Classical.byContradiction (fun z => ?_)
      obtain ⟨q, hq, ha, hn⟩ := he
      exact hx ho (fun y => z ((s4 p hb).mp y)) ⟨q, hq, (s4 q hq).mpr ha, hn⟩
    · exact s5 p (by omega) ho he
  · exact Or.inr s3
theorem cnt_add {A : Nat → Prop} {b : Nat} (hb : b < 256) (hn : ¬ A b) : cnt (fun q => A q ∨ q = b) = cnt A + 1 := by
  have e := fb_ct_upd (dB A) true (i := b) hb
  have e2 : dB A b = false := by
    cases q : dB A b
    · rfl
    · exact absurd (dB_t.mp q) hn
  rw [e2, if_neg (by decide : ¬ (false = true)), if_pos rfl] at e
  have e3 : cnt (fun q => A q ∨ q = b) = fb_ct (fun k => if k = b then true else dB A k) 256 := by
    refine fb_ct_cong (fun q hq => ?_)
    rw [Bool.eq_iff_iff, dB_t]
    by_cases c : q = b
    · rw [if_pos c]; exact ⟨fun _ => rfl, fun _ => Or.inr c⟩
    · rw [if_neg c, dB_t]
      exact ⟨fun z => z.resolve_right c, fun z => Or.inl z⟩
  rw [e3]
  unfold cnt
  omega
theorem m_sp11 {w h k R : Nat} {c0 : Nat → Int32} {A0 : Nat → Prop} {kk : _} {P : _} (hw : w ≤ 16) (hh : h ≤ 16) (hw1 : 1 ≤ w) (hh1 : 1 ≤ h) (hk : k < 8) (hR1 : R < 1024) (hR : ∀ p, p < 256 → c0 (256 * k + p) ≠ nI R) (hIP : ∀ q, q < 256 → c0 (256 * k + q) = -1 → q % 16 < w ∧ q / 16 < h) :
    ∀ (d p fuel gr : Nat) (c cp : Nat → Int32) (A : Nat → Prop), p + d = 256 → d < fuel → MA c0 c k R A → (∀ q, q < 256 → A q → c0 (256 * k + q) = -1) → cp R = nI (cnt A) → SQ (fun q => c0 (256 * k + q) = -1) A0 A p gr →
      (∀ (z : Int32) (gr : Nat) (c cp' : Nat → Int32) (A : Nat → Prop), MA c0 c k R A → (∀ q, q < 256 → A q → c0 (256 * k + q) = -1) → cp' R = nI (cnt A) → (∀ r, r ≠ R → cp' r = cp r) → SQ (fun q => c0 (256 * k + q) = -1) A0 A 256 gr → Rt (kk (nI gr) z c cp') P) →
      Rt (f_X8_spreads_L11 FU (nI k) (nI R) (nI w) (nI h) kk fuel (nI gr) (nI p) c cp) P := by
  intro d
  induction d with
  | zero =>
    intro p fuel gr c cp A e1 e2 hM hA hc hS hkk
    obtain ⟨f, rfl⟩ : ∃ f, fuel = f + 1 := ⟨fuel - 1, by omega⟩
    have ep : p = 256 := by omega
    subst ep
    rw [f_X8_spreads_L11]
    exact rt_t (by rw [show (256 : Int32) = nI 256 from rfl]; exact (by rw [n_le (by omega) (by omega)]; omega)) (hkk _ gr c cp A hM hA hc (fun _ _ => rfl) hS)
  | succ d ih =>
    intro p fuel gr c cp A e1 e2 hM hA hc hS hkk
    obtain ⟨f, rfl⟩ : ∃ f, fuel = f + 1 := ⟨fuel - 1, by omega⟩
    have hp : p < 256 := by omega
    have hcn := cnt_256 A
    rw [f_X8_spreads_L11]
    refine rt_f (by rw [show (256 : Int32) = nI 256 from rfl]; exact (by rw [n_le (by omega) (by omega)]; omega)) ?_
    rw [show (256 : Int32) = nI 256 from rfl, pk_mul, nI_add, rd_ok (by omega) (by omega), nI_1]
    refine rt_if (fun c1 => ?_) (fun c1 => ?_)
    · obtain ⟨z1, z2⟩ := (ma_m1 hM (by omega) hp).mp c1
      obtain ⟨y1, y2⟩ := hIP p hp z1
      refine rt_bd1 (m_isBeside hw hh hw1 hh1 hk hp y1 y2 (by omega) hM hR (fun q hq ha => hIP q hq (hA q hq ha))) ?_
      intro r hr
      refine rt_if (fun c2 => ?_) (fun c2 => ?_)
      · exact ih (p + 1) f gr c cp A (by omega) (by omega) hM hA hc (sq_skip hp hS (fun _ _ => hr.mp c2)) hkk
      · have hex : ∃ q, q < 256 ∧ A q ∧ nb q p := Classical.byContradiction (fun z => c2 (hr.mpr z))
        rw [wr_ok (by omega) (by omega), rd_ok (by omega) (by omega), wr_ok (by omega) (by omega), hc, nI_1]
        refine ih (p + 1) f 1 _ _ (fun q => A q ∨ q = p) (by omega) (by omega) ?_ ?_ ?_ (sq_add hp hS z1 z2 hex) ?_
        · obtain ⟨m1, m2, m3⟩ := hM
          refine ⟨?_, ?_, ?_⟩
          · rintro q hq (z | z)
            · by_cases e : q = p
              · subst e; simp [upd]
              · have ne : 256 * k + q ≠ 256 * k + p := by omega
                simp only [upd, ne, if_false]; exact m1 q hq z
            · subst z; simp [upd]
          · intro q hq z
            have ne : 256 * k + q ≠ 256 * k + p := fun y => z (Or.inr (by omega))
            simp only [upd, ne, if_false]
            exact m2 q hq (fun y => z (Or.inl y))
          · intro k' q hk' hq
            have ne : 256 * k' + q ≠ 256 * k + p := by omega
            simp only [upd, ne, if_false]
            exact m3 k' q hk' hq
        · rintro q hq (z | z)
          · exact hA q hq z
          · subst z; exact z1
        · rw [cnt_add hp z2]; simp [upd]
        · intro z gr c cp' A h1 h2 h3 h4 h5
          exact hkk z gr c cp' A h1 h2 h3 (fun r hr => (h4 r hr).trans (by simp [upd, hr])) h5
    · refine ih (p + 1) f gr c cp A (by omega) (by omega) hM hA hc (sq_skip hp hS (fun z1 z2 => ?_)) hkk
      exact absurd ((ma_m1 hM (by omega) hp).mpr ⟨z1, z2⟩) c1
theorem m_sp2 {w h k R : Nat} {c0 : Nat → Int32} {S : Nat → Prop} (hw : w ≤ 16) (hh : h ≤ 16) (hw1 : 1 ≤ w) (hh1 : 1 ≤ h) (hk : k < 8) (hR1 : R < 1024) (hR : ∀ p, p < 256 → c0 (256 * k + p) ≠ nI R) (hIP : ∀ q, q < 256 → c0 (256 * k + q) = -1 → q % 16 < w ∧ q / 16 < h) {cp0 : Nat → Int32} :
    ∀ (d fuel gr : Nat) (c cp : Nat → Int32) (A : Nat → Prop), 257 ≤ d + cnt A → d < fuel → MA c0 c k R A → (∀ q, q < 256 → A q → c0 (256 * k + q) = -1) → cp R = nI (cnt A) → (∀ r, r ≠ R → cp r = cp0 r) → (∀ q, q < 256 → S q → A q) → (∀ q, q < 256 → A q → Cl (fun q => c0 (256 * k + q) = -1) S q) → (gr = 1 ∨ (gr = 0 ∧ ∀ p, p < 256 → c0 (256 * k + p) = -1 → (∃ q, q < 256 ∧ A q ∧ nb q p) → A p)) →
      Rt (f_X8_spreads_L2 FU (nI k) (nI R) (nI w) (nI h) (fun (x3_1 : Int32) (c_regionAt_2 : (Nat → Int32)) (c_regionPairs_3 : (Nat → Int32)) => some (c_regionAt_2, c_regionPairs_3)) fuel (nI gr) c cp) (fun q => MA c0 q.1 k R (Cl (fun q => c0 (256 * k + q) = -1) S) ∧ q.2 R = nI (cnt (Cl (fun q => c0 (256 * k + q) = -1) S)) ∧ ∀ r, r ≠ R → q.2 r = cp0 r) := by
  have fin : ∀ (c cp : Nat → Int32) (A : Nat → Prop), MA c0 c k R A → cp R = nI (cnt A) → (∀ q, q < 256 → (A q ↔ Cl (fun q => c0 (256 * k + q) = -1) S q)) → MA c0 c k R (Cl (fun q => c0 (256 * k + q) = -1) S) ∧ cp R = nI (cnt (Cl (fun q => c0 (256 * k + q) = -1) S)) := by
    intro c cp A hM hc he
    refine ⟨⟨fun p hp z => hM.1 p hp ((he p hp).mpr z), fun p hp z => hM.2.1 p hp (fun y => z ((he p hp).mp y)), hM.2.2⟩, ?_⟩
    rw [hc, cnt_cong he]
  intro d
  induction d with
  | zero => intro fuel gr c cp A e1; have := cnt_256 A; omega
  | succ d ih =>
    intro fuel gr c cp A e1 e2 hM hA hc hcp h1 h2 h3
    obtain ⟨f, rfl⟩ : ∃ f, fuel = f + 1 := ⟨fuel - 1, by omega⟩
    rw [f_X8_spreads_L2]
    rcases h3 with h3 | ⟨h3, h4⟩
    · subst h3
      refine rt_f (by decide) ?_
      refine m_sp11 (A0 := A) hw hh hw1 hh1 hk hR1 hR hIP 256 0 FU 0 c cp A (by omega) (by unfold FU; omega) hM hA hc ⟨fun _ _ z => z, fun q hq z => cl_seed hq z, Or.inl ⟨rfl, fun _ _ => Iff.rfl, fun p hp => by omega⟩⟩ ?_
      intro z gr' c' cp' A' m1 m2 m3 m4 m5
      obtain ⟨s1, s2, s3⟩ := m5
      rcases s3 with ⟨s3, s4, s5⟩ | ⟨s3, s4⟩
      · subst s3
        by_cases ef : 0 < f
        · obtain ⟨f2, rfl⟩ : ∃ f2, f = f2 + 1 := ⟨f - 1, by omega⟩
          rw [f_X8_spreads_L2]
          refine rt_t rfl (rt_some ?_)
          have hcl : ∀ q, q < 256 → (A' q ↔ Cl (fun q => c0 (256 * k + q) = -1) S q) := by
            refine cl_is (fun q hq z => s1 q hq (h1 q hq z)) (fun q hq z => h2 q hq ((s4 q hq).mp z)) ?_
            intro q r hq hr ha hn ho
            exact (s4 r hr).mpr (s5 r hr ho ⟨q, hq, (s4 q hq).mp ha, hn⟩)
          obtain ⟨f1, f2⟩ := fin c' cp' A' m1 m3 hcl
          exact ⟨f1, f2, fun r hr => (m4 r hr).trans (hcp r hr)⟩
        · have := cnt_256 A; omega
      · subst s3
        exact ih f 1 c' cp' A' (by omega) (by omega) m1 m2 m3 (fun r hr => (m4 r hr).trans (hcp r hr)) (fun q hq z => s1 q hq (h1 q hq z)) (fun q hq z => cl_idem h2 (s2 q hq z)) (Or.inl rfl)
    · subst h3
      refine rt_t rfl (rt_some ?_)
      have hcl : ∀ q, q < 256 → (A q ↔ Cl (fun q => c0 (256 * k + q) = -1) S q) := cl_is h1 h2 (fun q r hq hr ha hn ho => h4 r hr ho ⟨q, hq, ha, hn⟩)
      obtain ⟨f1, f2⟩ := fin c cp A hM hc hcl
      exact ⟨f1, f2, hcp⟩
