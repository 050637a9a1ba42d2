/-! the reference chooses the shifts -/
theorem s15 : ∀ a, a < 31 → ∀ b, b < 31 → (nI a - 15 = nI b - 15 ↔ a = b) ∧ (nI a - 15 ≤ nI b - 15 ↔ a ≤ b) := by decide +kernel
theorem s15b : ∀ a, a < 32 → (15 < nI a - 15 ↔ 31 ≤ a) ∧ (nI a - 15) + 15 = nI a ∧ (nI a - 15) + 1 = nI (a + 1) - 15 := by decide +kernel
theorem sz31 : ∀ a, a < 31 → (if 0 ≤ nI a - 15 then some (nI a - 15) else some (-(nI a - 15))) = some (nI (zD a 15)) := by decide +kernel
def RX (T : Nat → Nat) (K : Nat) (cx cy : Nat → Int32) : Prop := ∀ j, j < K → cx j = nI (T j % 31) - 15 ∧ cy j = nI (T j / 31)
theorem m_voteAt {FU a d : Nat} (ha : a < 31) : f_X8_voteAt FU (nI a - 15) (nI d) = some (nI (16 * a + d)) := by
  unfold f_X8_voteAt
  rw [(s15b a (by omega)).2.1, show (16 : Int32) = nI 16 from rfl, pk_mul, nI_add]
theorem m_isS {K a d : Nat} {T : Nat → Nat} {cx cy : Nat → Int32} (hK : K ≤ 8) (hT : ∀ j, j < K → T j < 496) (hX : RX T K cx cy) (ha : a < 31) (hd : d < 16) :
    ∀ (n j fuel : Nat), j + n = K → n < fuel → (∀ i, i < j → T i ≠ 31 * d + a) → Rt (f_X8_isShift_L2 FU (nI a - 15) (nI d) (nI K) cx cy (fun (_ : Int32) => some 0) fuel (nI j)) (fun r => r = 0 ↔ ∀ i, i < K → T i ≠ 31 * d + a) := by
  intro n
  induction n with
  | zero =>
    intro j fuel e1 e2 hn
    obtain ⟨f, rfl⟩ : ∃ f, fuel = f + 1 := ⟨fuel - 1, by omega⟩
    rw [f_X8_isShift_L2]
    refine rt_t (by rw [n_le (by omega) (by omega)]; omega) (rt_some ⟨fun _ i hi => hn i (by omega), fun _ => rfl⟩)
  | succ n ih =>
    intro j fuel e1 e2 hn
    obtain ⟨f, rfl⟩ : ∃ f, fuel = f + 1 := ⟨fuel - 1, by omega⟩
    have hj := hT j (by omega)
    rw [f_X8_isShift_L2]
    refine rt_f (by rw [n_le (by omega) (by omega)]; omega) ?_
    rw [rd_ok (by omega) (by omega), rd_ok (by omega) (by omega), (hX j (by omega)).1, (hX j (by omega)).2, nI_1]
    refine rt_if (fun c => ?_) (fun c => ?_)
    · rw [(s15 _ (by omega) a ha).1] at c
      refine rt_if (fun c2 => ?_) (fun c2 => ?_)
      · rw [n_inj (by omega) (by omega)] at c2
        refine rt_some ⟨fun z => absurd z (by decide), fun z => absurd (by omega : T j = 31 * d + a) (z j (by omega))⟩
      · rw [n_inj (by omega) (by omega)] at c2
        refine ih (j + 1) f (by omega) (by omega) (fun i hi => ?_)
        by_cases e : i = j
        · subst e; omega
        · exact hn i (by omega)
    · rw [(s15 _ (by omega) a ha).1] at c
      refine ih (j + 1) f (by omega) (by omega) (fun i hi => ?_)
      by_cases e : i = j
      · subst e; omega
      · exact hn i (by omega)
theorem m_ahead {FU v u : Nat} {V : Nat → Nat} {cv : Nat → Int32} (hV : ∀ a d, a < 31 → d < 16 → cv (16 * a + d) = nI (V (31 * d + a))) (hb : ∀ v, V v ≤ 2137) (hv : v < 496) (hu : u < 496) : Rt (f_X8_isShiftAhead FU cv (nI (v % 31) - 15) (nI (v / 31)) (nI (u % 31) - 15) (nI (u / 31))) (fun r => (r = 0 ↔ ¬ ahW V v u)) := by
  have b1 := hb v
  have b2 := hb u
  have d1 : zD (v % 31) 15 < 31 := by unfold zD; omega
  have d2 : zD (u % 31) 15 < 31 := by unfold zD; omega
  have no : ∀ q : Prop, q → (((0 : Int32) = 0) ↔ q) := fun q hq => ⟨fun _ => hq, fun _ => rfl⟩
  have yes : ∀ q : Prop, ¬ q → (((1 : Int32) = 0) ↔ q) := fun q hq => ⟨fun z => absurd z (by decide), fun z => absurd z hq⟩
  have e1 := hV (v % 31) (v / 31) (by omega) (by omega)
  have e2 := hV (u % 31) (u / 31) (by omega) (by omega)
  rw [show 31 * (v / 31) + v % 31 = v by omega] at e1
  rw [show 31 * (u / 31) + u % 31 = u by omega] at e2
  unfold f_X8_isShiftAhead
  rw [m_voteAt (by omega), bd1_s, rd_ok (by omega) (by omega), e1, m_voteAt (by omega), bd1_s, rd_ok (by omega) (by omega), e2]
  unfold f_X8_size
  rw [sz31 _ (by omega), sz31 _ (by omega), bd1_s, bd1_s, nI_add]
  have t1 : (nI (V v) - nI (V u)).toInt = (V v : Int) - V u := pk_sub_toInt (by omega) (by omega)
  have l1 : vLen v = zD (v % 31) 15 + v / 31 := rfl
  have l2 : vLen u = zD (u % 31) 15 + u / 31 := rfl
  have t2 : (nI (zD (v % 31) 15 + v / 31) - nI (zD (u % 31) 15)).toInt = ((zD (v % 31) 15 + v / 31 : Nat) : Int) - (zD (u % 31) 15 : Nat) := pk_sub_toInt (by omega) (by omega)
  have i1 : (nI (u / 31)).toInt = ((u / 31 : Nat) : Int) := i_nI (by omega)
  have t3 : (nI (zD (v % 31) 15 + v / 31) - nI (zD (u % 31) 15) - nI (u / 31)).toInt = ((zD (v % 31) 15 + v / 31 : Nat) : Int) - (zD (u % 31) 15 : Nat) - ((u / 31 : Nat) : Int) := by
    rw [i_sub (by rw [t2, i1]; omega) (by rw [t2, i1]; omega), t2, i1]
  have z0 : (0 : Int32).toInt = 0 := by decide
  refine rt_if (fun c => ?_) (fun c => ?_)
  · rw [i_eq, t1, z0] at c
    refine rt_if (fun c2 => ?_) (fun c2 => ?_)
    · rw [i_eq, t3, z0] at c2
      refine rt_if (fun c3 => ?_) (fun c3 => ?_)
      · rw [n_inj (by omega) (by omega)] at c3
        refine rt_if (fun c4 => ?_) (fun c4 => ?_)
        · rw [(s15 _ (by omega) _ (by omega)).2] at c4
          exact rt_some (no _ (by unfold ahW; omega))
        · rw [(s15 _ (by omega) _ (by omega)).2] at c4
          exact rt_some (yes _ (by unfold ahW; omega))
      · rw [n_inj (by omega) (by omega)] at c3
        refine rt_if (fun c4 => ?_) (fun c4 => ?_)
        · rw [n_le (by omega) (by omega)] at c4
          exact rt_some (no _ (by unfold ahW; omega))
        · rw [n_le (by omega) (by omega)] at c4
          exact rt_some (yes _ (by unfold ahW; omega))
    · rw [i_eq, t3, z0] at c2
      refine rt_if (fun c4 => ?_) (fun c4 => ?_)
      · rw [i_le, t3, z0] at c4
        exact rt_some (no _ (by unfold ahW; omega))
      · rw [i_le, t3, z0] at c4
        exact rt_some (yes _ (by unfold ahW; omega))
  · rw [i_eq, t1, z0] at c
    refine rt_if (fun c4 => ?_) (fun c4 => ?_)
    · rw [i_le, t1, z0] at c4
      exact rt_some (no _ (by unfold ahW; omega))
    · rw [i_le, t1, z0] at c4
      exact rt_some (yes _ (by unfold ahW; omega))
def BI (ah : Nat → Nat → Prop) (S C : Nat → Prop) (T : Nat → Nat) (K m b : Nat) : Prop := (m = 0 ∧ ∀ u, S u → C u → ∃ j, j < K ∧ T j = u) ∨ (m = 1 ∧ S b ∧ C b ∧ (∀ j, j < K → T j ≠ b) ∧ ∀ u, S u → C u → (∀ j, j < K → T j ≠ u) → u = b ∨ ah b u)
theorem bi_no {ah : Nat → Nat → Prop} {S S' C : Nat → Prop} {T : Nat → Nat} {K m b v : Nat} (h : BI ah S C T K m b) (hS : ∀ u, S' u ↔ S u ∨ u = v) (hv : ¬ C v ∨ ∃ j, j < K ∧ T j = v) : BI ah S' C T K m b := by
  rcases h with ⟨h1, h2⟩ | ⟨h1, h2, h3, h4, h5⟩
  · refine Or.inl ⟨h1, fun u hu hc => ?_⟩
    rcases (hS u).mp hu with q | q
    · exact h2 u q hc
    · subst q
      rcases hv with z | z
      · exact absurd hc z
      · exact z
  · refine Or.inr ⟨h1, (hS b).mpr (Or.inl h2), h3, h4, fun u hu hc hn => ?_⟩
    rcases (hS u).mp hu with q | q
    · exact h5 u q hc hn
    · subst q
      rcases hv with z | ⟨j, z1, z2⟩
      · exact absurd hc z
      · exact absurd z2 (hn j z1)
theorem bi_yes {ah : Nat → Nat → Prop} {S S' C : Nat → Prop} {T : Nat → Nat} {K m b v : Nat} (hs : STO ah) (h : BI ah S C T K m b) (hS : ∀ u, S' u ↔ S u ∨ u = v) (hv : C v) (hn : ∀ j, j < K → T j ≠ v) (ha : m = 0 ∨ ah v b) : BI ah S' C T K 1 v := by
  refine Or.inr ⟨rfl, (hS v).mpr (Or.inr rfl), hv, hn, fun u hu hc hnu => ?_⟩
  rcases (hS u).mp hu with q | q
  · rcases h with ⟨h1, h2⟩ | ⟨h1, h2, h3, h4, h5⟩
    · obtain ⟨j, z1, z2⟩ := h2 u q hc
      exact absurd z2 (hnu j z1)
    · have hab : ah v b := by
        rcases ha with z | z
        · omega
        · exact z
      rcases h5 u q hc hnu with z | z
      · rw [z]; exact Or.inr hab
      · exact Or.inr (hs.2.1 _ _ _ hab z)
  · exact Or.inl q
theorem bi_keep {ah : Nat → Nat → Prop} {S S' C : Nat → Prop} {T : Nat → Nat} {K m b v : Nat} (hs : STO ah) (h : BI ah S C T K m b) (hS : ∀ u, S' u ↔ S u ∨ u = v) (hm : m ≠ 0) (ha : ¬ ah v b) : BI ah S' C T K m b := by
  rcases h with ⟨h1, h2⟩ | ⟨h1, h2, h3, h4, h5⟩
  · exact absurd h1 hm
  · refine Or.inr ⟨h1, (hS b).mpr (Or.inl h2), h3, h4, fun u hu hc hn => ?_⟩
    rcases (hS u).mp hu with q | q
    · exact h5 u q hc hn
    · subst q
      by_cases e : u = b
      · exact Or.inl e
      · rcases hs.2.2 u b e with z | z
        · exact absurd z ha
        · exact Or.inr z
def ScS (a d : Nat) (u : Nat) : Prop := u < 496 ∧ (u % 31 < a ∨ (u % 31 = a ∧ u / 31 < d))
def XY (b : Nat) (K : Nat) (cx cy : Nat → Int32) : Prop := cx K = nI (b % 31) - 15 ∧ cy K = nI (b / 31)
theorem m_fs51 {K a : Nat} {V T st : Nat → Nat} {cs cv : Nat → Int32} {k : _} {P : _} (hS : RepS cs st) (ho : OKs st) (hV : ∀ a d, a < 31 → d < 16 → cv (16 * a + d) = nI (V (31 * d + a))) (hb : ∀ v, V v ≤ 2137) (hK : K < 8) (hT : ∀ j, j < K → T j < 496) (ha : a < 31) :
    ∀ (n d fuel m b : Nat) (cx cy : Nat → Int32), d + n = 16 → n < fuel → m ≤ 1 → RX T K cx cy → (m = 1 → XY b K cx cy) → BI (ahW V) (ScS a d) (fun v => st 6 ≤ V v) T K m b →
      (∀ (z : Int32) (m b : Nat) (cx cy : Nat → Int32), m ≤ 1 → RX T K cx cy → (m = 1 → XY b K cx cy) → BI (ahW V) (ScS (a + 1) 0) (fun v => st 6 ≤ V v) T K m b → Rt (k (nI m) z cx cy) P) →
      Rt (f_X8_findShifts_L51 FU (nI a - 15) cs cv (nI K) k fuel (nI m) (nI d) cx cy) P := by
  have hl := ho.least
  intro n
  induction n with
  | zero =>
    intro d fuel m b cx cy e1 e2 hm hX hY hB hk
    obtain ⟨f, rfl⟩ : ∃ f, fuel = f + 1 := ⟨fuel - 1, by omega⟩
    rw [f_X8_findShifts_L51]
    refine rt_t (by rw [show (15 : Int32) = nI 15 from rfl]; exact (by rw [n_lt (by omega) (by omega)]; omega)) (hk _ m b cx cy hm hX hY ?_)
    have es : ScS (a + 1) 0 = ScS a d := by
      funext u
      unfold ScS
      apply propext
      omega
    rw [es]; exact hB
  | succ n ih =>
    intro d fuel m b cx cy e1 e2 hm hX hY hB hk
    obtain ⟨f, rfl⟩ : ∃ f, fuel = f + 1 := ⟨fuel - 1, by omega⟩
    have hd : d < 16 := by omega
    have hvb := hb (31 * d + a)
    have hS1 : ∀ u, ScS a (d + 1) u ↔ ScS a d u ∨ u = 31 * d + a := by
      intro u; unfold ScS; omega
    rw [f_X8_findShifts_L51]
    refine rt_f (by rw [show (15 : Int32) = nI 15 from rfl]; exact (by rw [n_lt (by omega) (by omega)]; omega)) ?_
    rw [m_voteAt ha, bd1_s, rd_ok (by omega) (by omega), hV a d ha hd, show (6 : Int32) = nI 6 from rfl, rd_ok (by omega) (by omega), hS 6 (by omega), nI_1]
    have no : ((¬ st 6 ≤ V (31 * d + a)) ∨ ∃ j, j < K ∧ T j = 31 * d + a) → Rt (f_X8_findShifts_L51 FU (nI a - 15) cs cv (nI K) k f (nI m) (nI (d + 1)) cx cy) P := by
      intro hv
      exact ih (d + 1) f m b cx cy (by omega) (by omega) hm hX hY (bi_no hB hS1 hv) hk
    refine rt_jn ?_
    dsimp only
    refine rt_if (fun c => ?_) (fun c => ?_)
    · rw [n_lt (by omega) (by omega)] at c
      exact rt_t rfl (no (Or.inl (by omega)))
    · rw [n_lt (by omega) (by omega)] at c
      refine rt_bd1 (Z := fun r => r = 0 ↔ ∀ i, i < K → T i ≠ 31 * d + a) ?_ ?_
      · unfold f_X8_isShift
        exact m_isS (by omega) hT hX ha hd K 0 FU (by omega) (by unfold FU; omega) (fun i hi => by omega)
      · intro r hr
        refine rt_if (fun c2 => ?_) (fun c2 => ?_)
        · have hn := hr.mp c2
          refine rt_f (by decide) (rt_jn ?_)
          dsimp only
          have take : (m = 0 ∨ ahW V (31 * d + a) b) → Rt (wr cx 8 (nI K) (nI a - 15) (fun c_shiftX_46 => wr cy 8 (nI K) (nI d) (fun c_shiftY_47 => f_X8_findShifts_L51 FU (nI a - 15) cs cv (nI K) k f 1 (nI d + 1) c_shiftX_46 c_shiftY_47))) P := by
            intro hq
            rw [wr_ok (by omega) (by omega), wr_ok (by omega) (by omega), nI_1]
            refine ih (d + 1) f 1 (31 * d + a) _ _ (by omega) (by omega) (by omega) ?_ ?_ (bi_yes (ahW_sto V) hB hS1 (by omega : st 6 ≤ V (31 * d + a)) hn hq) hk
            · intro j hj
              have ne : j ≠ K := by omega
              simp only [upd, ne, if_false]
              exact hX j hj
            · intro _
              refine ⟨?_, ?_⟩
              · simp only [upd, if_true]; rw [show (31 * d + a) % 31 = a by omega]
              · simp only [upd, if_true]; rw [show (31 * d + a) / 31 = d by omega]
          refine rt_if (fun c3 => ?_) (fun c3 => ?_)
          · rw [show (0 : Int32) = nI 0 from rfl, n_inj (by omega) (by omega)] at c3
            exact take (Or.inl c3)
          · rw [show (0 : Int32) = nI 0 from rfl, n_inj (by omega) (by omega)] at c3
            obtain ⟨y1, y2⟩ := hY (by omega)
            have hbb : b < 496 := by
              rcases hB with z | z
              · omega
              · exact z.2.1.1
            rw [rd_ok (by omega) (by omega), rd_ok (by omega) (by omega), y1, y2]
            have e1 : nI a - 15 = nI ((31 * d + a) % 31) - 15 := by rw [show (31 * d + a) % 31 = a by omega]
            have e2 : nI d = nI ((31 * d + a) / 31) := by rw [show (31 * d + a) / 31 = d by omega]
            have hah := m_ahead (FU := FU) hV hb (by omega : 31 * d + a < 496) hbb
            rw [← e1, ← e2] at hah
            refine rt_bd1 hah ?_
            intro r2 hr2
            refine rt_if (fun c4 => ?_) (fun c4 => ?_)
            · exact ih (d + 1) f m b cx cy (by omega) (by omega) hm hX hY (bi_keep (ahW_sto V) hB hS1 c3 (hr2.mp c4)) hk
            · exact take (Or.inr (Classical.byContradiction (fun z => c4 (hr2.mpr z))))
        · refine rt_t rfl (no (Or.inr ?_))
          exact Classical.byContradiction (fun z => c2 (hr.mpr (fun i hi q => z ⟨i, hi, q⟩)))
theorem m_fs43 {K : Nat} {V T st : Nat → Nat} {cs cv : Nat → Int32} {k : _} {P : _} (hS : RepS cs st) (ho : OKs st) (hV : ∀ a d, a < 31 → d < 16 → cv (16 * a + d) = nI (V (31 * d + a))) (hb : ∀ v, V v ≤ 2137) (hK : K < 8) (hT : ∀ j, j < K → T j < 496) :
    ∀ (n a fuel m b : Nat) (cx cy : Nat → Int32), a + n = 31 → n < fuel → m ≤ 1 → RX T K cx cy → (m = 1 → XY b K cx cy) → BI (ahW V) (ScS a 0) (fun v => st 6 ≤ V v) T K m b →
      (∀ (z : Int32) (m b : Nat) (cx cy : Nat → Int32), m ≤ 1 → RX T K cx cy → (m = 1 → XY b K cx cy) → BI (ahW V) (fun u => u < 496) (fun v => st 6 ≤ V v) T K m b → Rt (k (nI m) z cx cy) P) →
      Rt (f_X8_findShifts_L43 FU cs cv (nI K) k fuel (nI m) (nI a - 15) cx cy) P := by
  intro n
  induction n with
  | zero =>
    intro a fuel m b cx cy e1 e2 hm hX hY hB hk
    obtain ⟨f, rfl⟩ : ∃ f, fuel = f + 1 := ⟨fuel - 1, by omega⟩
    rw [f_X8_findShifts_L43]
    refine rt_t ((s15b a (by omega)).1.mpr (by omega)) (hk _ m b cx cy hm hX hY ?_)
    have es : (fun u => u < 496) = ScS a 0 := by
      funext u
      unfold ScS
      apply propext
      omega
    rw [es]; exact hB
  | succ n ih =>
    intro a fuel m b cx cy e1 e2 hm hX hY hB hk
    obtain ⟨f, rfl⟩ : ∃ f, fuel = f + 1 := ⟨fuel - 1, by omega⟩
    rw [f_X8_findShifts_L43]
    refine rt_f (fun z => by have := (s15b a (by omega)).1.mp z; omega) ?_
    refine m_fs51 hS ho hV hb hK hT (by omega : a < 31) 16 0 FU m b cx cy (by omega) (by unfold FU; omega) hm hX hY hB ?_
    intro z m b cx cy hm hX hY hB
    rw [(s15b a (by omega)).2.2]
    exact ih (a + 1) f m b cx cy (by omega) (by omega) hm hX hY hB hk
theorem m_fs25 {V st : Nat → Nat} {cs cv : Nat → Int32} {k : _} {P : _} (hS : RepS cs st) (ho : OKs st) (hV : ∀ a d, a < 31 → d < 16 → cv (16 * a + d) = nI (V (31 * d + a))) (hb : ∀ v, V v ≤ 2137) :
    ∀ (n K fuel m : Nat) (T : Nat → Nat) (cx cy : Nat → Int32), K + n = 9 → n < fuel → K ≤ 8 → m ≤ 1 → RX T K cx cy → (∀ j, j < K → T j < 496 ∧ st 6 ≤ V (T j)) → (∀ i j, i < j → j < K → ahW V (T i) (T j)) → (∀ u, u < 496 → st 6 ≤ V u → (∃ j, j < K ∧ T j = u) ∨ (m = 1 ∧ ∀ j, j < K → ahW V (T j) u)) →
      (∀ (z : Int32) (K : Nat) (T : Nat → Nat) (cx cy : Nat → Int32), Top 8 (ahW V) (fun v => st 6 ≤ V v) 496 K T → RX T K cx cy → Rt (k z (nI K) cx cy) P) →
      Rt (f_X8_findShifts_L25 FU cs cv k fuel (nI m) (nI K) cx cy) P := by
  intro n
  induction n with
  | zero => intro K fuel m T cx cy e1 e2 e3; omega
  | succ n ih =>
    intro K fuel m T cx cy e1 e2 e3 hm hX h2 h3 h4 hk
    obtain ⟨f, rfl⟩ : ∃ f, fuel = f + 1 := ⟨fuel - 1, by omega⟩
    rw [f_X8_findShifts_L25]
    refine rt_if (fun c => ?_) (fun c => ?_)
    · rw [show (0 : Int32) = nI 0 from rfl, n_inj (by omega) (by omega)] at c
      refine hk _ K T cx cy ⟨e3, h2, h3, fun u hu hc => ?_⟩ hX
      rcases h4 u hu hc with z | z
      · exact Or.inl z
      · omega
    · rw [show (0 : Int32) = nI 0 from rfl, n_inj (by omega) (by omega)] at c
      have em : m = 1 := by omega
      refine rt_if (fun c2 => ?_) (fun c2 => ?_)
      · rw [show (8 : Int32) = nI 8 from rfl, n_le (by omega) (by omega)] at c2
        refine hk _ K T cx cy ⟨e3, h2, h3, fun u hu hc => ?_⟩ hX
        rcases h4 u hu hc with z | z
        · exact Or.inl z
        · exact Or.inr ⟨by omega, z.2⟩
      · rw [show (8 : Int32) = nI 8 from rfl, n_le (by omega) (by omega)] at c2
        have e15 : (-15 : Int32) = nI 0 - 15 := by decide
        refine rt_eq (congrArg (fun z => f_X8_findShifts_L43 FU cs cv (nI K) _ FU 0 z cx cy) e15) ?_
        refine m_fs43 (T := T) hS ho hV hb (by omega) (fun j hj => (h2 j hj).1) 31 0 FU 0 0 cx cy (by omega) (by unfold FU; omega) (by omega) hX (fun z => by omega) (Or.inl ⟨rfl, fun u hu => by unfold ScS at hu; omega⟩) ?_
        intro z m' b cx cy hm' hX' hY hB
        refine rt_jn ?_
        dsimp only
        refine rt_if (fun c3 => ?_) (fun c3 => ?_)
        · rw [show (0 : Int32) = nI 0 from rfl, n_inj (by omega) (by omega)] at c3
          rcases hB with ⟨b1, b2⟩ | ⟨b1, _⟩
          · obtain ⟨f2, rfl⟩ : ∃ f2, f = f2 + 1 := ⟨f - 1, by omega⟩
            rw [f_X8_findShifts_L25]
            refine rt_t (by rw [c3]; rfl) ?_
            rw [Int32.add_zero]
            exact hk _ K T cx cy ⟨e3, h2, h3, fun u hu hc => Or.inl (b2 u hu hc)⟩ hX'
          · omega
        · rw [show (0 : Int32) = nI 0 from rfl, n_inj (by omega) (by omega)] at c3
          rcases hB with ⟨b1, b2⟩ | ⟨b1, b2, b3, b4, b5⟩
          · omega
          · obtain ⟨y1, y2⟩ := hY b1
            have hsel := top_sel (C := fun v => st 6 ≤ V v) (x := b) h2 h3 (fun u hu hc => by
              rcases h4 u hu hc with z | z
              · exact Or.inl z
              · exact Or.inr z.2) b2 b3 b4 b5
            rw [nI_1]
            refine ih (K + 1) f m' (put T K b) cx cy (by omega) (by omega) (by omega) hm' ?_ hsel.1 hsel.2.1 ?_ hk
            · intro j hj
              by_cases e : j = K
              · subst e; simp only [put, if_true]; exact ⟨y1, y2⟩
              · simp only [put, e, if_false]; exact hX' j (by omega)
            · intro u hu hc
              rcases hsel.2.2 u hu hc with z | z
              · exact Or.inl z
              · exact Or.inr ⟨b1, z⟩
def MSh (w h : Nat) (g st : Nat → Nat) (ns : Int32) (cx cy : Nat → Int32) : Prop := ∃ (K : Nat) (T : Nat → Nat), SHt w h g st K T ∧ ns = nI K ∧ RX T K cx cy
theorem rvm_v {w h : Nat} {g st : Nat → Nat} {cv : Nat → Int32} (hV : RVm w st (prL w h g st) cv) : ∀ a d, a < 31 → d < 16 → cv (16 * a + d) = nI (zV w h g st (31 * d + a)) := by
  intro a d ha hd
  rw [hV a d ha hd]
  unfold zV
  rw [show (31 * d + a) % 31 = a by omega, show (31 * d + a) / 31 = d by omega]
theorem m_findShifts {w h om : Nat} {g st : Nat → Nat} {m_squares np ns : Int32} {cg cs csq cd cl ck cw c1 c2 cv cx cy : Nat → Int32} (hG : RepG cg g) (hS : RepS cs st) (hg : ∀ q, q < 256 → g q ≤ 99) (ho : OKs st) (hw : w ≤ 16) (hh : h ≤ 16) (hom : om ≤ 5) (hc : 1 ≤ om → MSq w h g st m_squares csq cd cl ck) (hc2 : 2 ≤ om → MPr w h g st cw np c1 c2 cv) (hc3 : 3 ≤ om → MSh w h g st ns cx cy) :
    Rt (f_X8_findShifts FU (nI om) (nI w) (nI h) cg cs m_squares csq cd cl ck cw np c1 c2 cv ns cx cy) (fun q => q.1 = nI (max om 3) ∧ MSq w h g st q.2.1 q.2.2.1 q.2.2.2.1 q.2.2.2.2.1 q.2.2.2.2.2.1 ∧ MPr w h g st q.2.2.2.2.2.2.1 q.2.2.2.2.2.2.2.1 q.2.2.2.2.2.2.2.2.1 q.2.2.2.2.2.2.2.2.2.1 q.2.2.2.2.2.2.2.2.2.2.1 ∧ MSh w h g st q.2.2.2.2.2.2.2.2.2.2.2.1 q.2.2.2.2.2.2.2.2.2.2.2.2.1 q.2.2.2.2.2.2.2.2.2.2.2.2.2 ∧ (3 ≤ om → q = (nI om, m_squares, csq, cd, cl, ck, cw, np, c1, c2, cv, ns, cx, cy))) := by
  unfold f_X8_findShifts
  by_cases e : 3 ≤ om
  · refine rt_f (by rw [show (2 : Int32) = nI 2 from rfl]; exact (by rw [n_le (by omega) (by omega)]; omega)) ?_
    exact rt_some ⟨by rw [show max om 3 = om by omega], hc (by omega), hc2 (by omega), hc3 e, fun _ => rfl⟩
  · refine rt_t (by rw [show (2 : Int32) = nI 2 from rfl]; exact (by rw [n_le (by omega) (by omega)]; omega)) ?_
    refine rt_bd11 (m_findPairs hG hS hg ho hw hh hom hc hc2) ?_
    intro a1 a2 a3 a4 a5 a6 a7 a8 a9 a10 a11 hz
    obtain ⟨z1, z2, z3, z4⟩ := hz
    dsimp only at z1 z2 z3
    refine m_fs25 (V := zV w h g st) hS ho (rvm_v z3.2.2.2.2) (zV_le ho hw hh) 9 0 FU 1 (fun _ => 0) cx cy (by omega) (by unfold FU; omega) (by omega) (by omega) (fun j hj => by omega) (fun j hj => by omega) (fun i j _ hj => by omega) (fun u _ _ => Or.inr ⟨rfl, fun j hj => by omega⟩) ?_
    intro z K T cx cy ht hx
    exact rt_some ⟨by rw [show max om 3 = 3 by omega]; rfl, z2, z3, ⟨K, T, ht, rfl, hx⟩, fun q => by omega⟩
