/-! the copy of a set -/
def CpS (v : Nat) (A : Nat → Prop) (q : Nat) : Prop := ∃ p, p < 256 ∧ A p ∧ cpP v p = q
theorem b_val {y : Int32} {x : Nat} (hx : x < 32) : ((y >>> (nI x &&& 31)) &&& 1) = if bt y x = true then 1 else 0 := by
  apply b_ext
  intro i hi
  rw [b_and, b_sshr x hx y hi, b_1 i hi]
  by_cases e : i = 0
  · subst e
    rw [if_pos (by omega), Nat.add_zero]
    cases q : bt y x
    · rw [if_neg (by decide), b_0]; rfl
    · rw [if_pos rfl, b_1 0 (by omega)]; rfl
  · rw [show decide (i = 0) = false from decide_eq_false e, Bool.and_false]
    cases q : bt y x
    · rw [if_neg (by decide), b_0]
    · rw [if_pos rfl, b_1 i hi, show decide (i = 0) = false from decide_eq_false e]
theorem c_rowOf {FU ob y : Nat} {cr : Nat → Nat → Int32} (hy : y < 16) : f_X0_rowOf FU cr ob (nI y) = some (cr ob y) := by
  unfold f_X0_rowOf
  rw [wi_eq, show f_X8_within FU (nI y) 0 15 = some 1 from wi_in (a := 0) (b := 15) (n := y) (by omega) ⟨by omega, by omega, rfl⟩, bd1_s, if_neg (by decide), rd_ok (by omega) (by omega)]
theorem c_rowOut {FU ob : Nat} {cr : Nat → Nat → Int32} {x : Int32} (h : x < 0) : f_X0_rowOf FU cr ob x = some 0 := by
  unfold f_X0_rowOf
  rw [wi_eq, wi_f (Or.inl h), bd1_s, if_pos rfl]
theorem sg15 : ∀ a, a < 31 → (15 ≤ a → 0 ≤ nI a - 15 ∧ nI a - 15 = nI (a - 15)) ∧ (a < 15 → ¬ 0 ≤ nI a - 15 ∧ -(nI a - 15) = nI (15 - a)) := by decide +kernel
theorem c_copyRowOf {FU w h v ob y : Nat} {A : Nat → Prop} {cr : Nat → Nat → Int32} {fx fy : Nat → Int32} (hw : w ≤ 16) (hh : h ≤ 16) (hv : v < 496) (hx : fx ob = nI (v % 31) - 15) (hyy : fy ob = nI (v / 31)) (hA : RB (cr ob) A) (hI : ∀ q, q < 256 → A q → cpI w h v q) (hy : y < 16) :
    Rt (f_X0_copyRowOf FU cr fx fy ob (nI y)) (fun z => ∀ i, i < 32 → (bt z i = true ↔ i < 16 ∧ CpS v A (16 * y + i))) := by
  have ha : v % 31 < 31 := by omega
  have hd : v / 31 < 16 := by omega
  have sg := sg15 (v % 31) ha
  unfold f_X0_copyRowOf
  rw [hx, hyy]
  have row : ∃ z, f_X0_rowOf FU cr ob (nI y - nI (v / 31)) = some z ∧ ∀ i, i < 32 → (bt z i = true ↔ i < 16 ∧ v / 31 ≤ y ∧ A (16 * (y - v / 31) + i)) := by
    by_cases c : v / 31 ≤ y
    · rw [pk_sub c, c_rowOf (by omega)]
      refine ⟨_, rfl, fun i hi => ?_⟩
      rw [hA (y - v / 31) (by omega) i hi]
      exact ⟨fun z => ⟨z.1, c, z.2⟩, fun z => ⟨z.1, z.2.2⟩⟩
    · refine ⟨0, c_rowOut ?_, fun i hi => ?_⟩
      · rw [i_lt, pk_sub_toInt (by omega) (by omega), show (0 : Int32).toInt = 0 by decide]
        omega
      · rw [b_0]
        exact ⟨fun z => absurd z (by decide), fun z => absurd z.2.1 c⟩
  obtain ⟨z, ez, hz⟩ := row
  rw [ez, bd1_s]
  have fwd : ∀ i j, i < 16 → v / 31 ≤ y → j + 15 = i + v % 31 → A (16 * (y - v / 31) + i) → j < 16 ∧ CpS v A (16 * y + j) := by
    intro i j hi h1 h2 h3
    have c := hI _ (by omega) h3
    unfold cpI at c
    refine ⟨by omega, 16 * (y - v / 31) + i, by omega, h3, ?_⟩
    unfold cpP
    omega
  have bwd : ∀ j, j < 16 → CpS v A (16 * y + j) → ∃ i, i < 16 ∧ v / 31 ≤ y ∧ j + 15 = i + v % 31 ∧ A (16 * (y - v / 31) + i) := by
    rintro j hj ⟨p, h1, h2, h3⟩
    have c := hI _ h1 h2
    unfold cpI at c
    unfold cpP at h3
    refine ⟨p % 16, by omega, by omega, by omega, ?_⟩
    rw [show 16 * (y - v / 31) + p % 16 = p by omega]
    exact h2
  by_cases c : 15 ≤ v % 31
  · obtain ⟨s1, s2⟩ := sg.1 c
    refine rt_t s1 (rt_some ?_)
    intro j hj
    rw [s2, b_shl _ (by omega) _ hj, Bool.and_eq_true, decide_eq_true_eq]
    constructor
    · rintro ⟨h1, h2⟩
      obtain ⟨y1, y2, y3⟩ := (hz _ (by omega)).mp h2
      exact fwd _ j y1 y2 (by omega) y3
    · rintro ⟨h1, h2⟩
      obtain ⟨i, y1, y2, y3, y4⟩ := bwd j h1 h2
      refine ⟨by omega, (hz _ (by omega)).mpr ?_⟩
      rw [show j - (v % 31 - 15) = i by omega]
      exact ⟨y1, y2, y4⟩
  · obtain ⟨s1, s2⟩ := sg.2 (by omega)
    refine rt_f s1 (rt_some ?_)
    intro j hj
    rw [s2, b_sshr _ (by omega) _ hj]
    by_cases c2 : 15 - v % 31 + j < 32
    · rw [if_pos c2, hz _ c2]
      constructor
      · rintro ⟨y1, y2, y3⟩
        exact fwd _ j y1 y2 (by omega) y3
      · rintro ⟨h1, h2⟩
        obtain ⟨i, y1, y2, y3, y4⟩ := bwd j h1 h2
        rw [show 15 - v % 31 + j = i by omega]
        exact ⟨y1, y2, y4⟩
    · rw [if_neg c2, hz 31 (by omega)]
      constructor
      · rintro ⟨y1, _⟩
        omega
      · rintro ⟨h1, _⟩
        omega
theorem m_isCopy {w h j r a b : Nat} {g st : Nat → Nat} {A : Nat → Prop} {cx cy crs crof c : Nat → Int32} (hw : w ≤ 16) (hh : h ≤ 16) (hw1 : 1 ≤ w) (hh1 : 1 ≤ h) (hm : MF w h g st cx cy crs crof j r) (hA : MIn c j A) (hI : ∀ q, q < 256 → A q → cpI w h (zv w h g st r) q) (ha : a < 16) (hb : b < 16) :
    Rt (f_X8_isCopy FU (nI w) (nI h) cx cy crs crof c (nI j) (nI a) (nI b)) (fun v => (v = 0 ↔ ¬ CpS (zv w h g st r) A (16 * b + a))) := by
  have hj := hm.1
  have go : ∀ (d q fuel : Nat), q + d = 256 → d < fuel → (∀ p, p < q → A p → cpP (zv w h g st r) p ≠ 16 * b + a) → Rt (f_X8_isCopy_L11 FU (nI j) (nI (16 * b + a)) (nI w) (nI h) cx cy crs crof c (fun (x5_1 : Int32) => some 0) fuel (nI q)) (fun v => (v = 0 ↔ ¬ CpS (zv w h g st r) A (16 * b + a))) := by
    intro d
    induction d with
    | zero =>
      intro q fuel e1 e2 hq
      obtain ⟨f, rfl⟩ : ∃ f, fuel = f + 1 := ⟨fuel - 1, by omega⟩
      rw [f_X8_isCopy_L11]
      refine rt_t (by rw [show (256 : Int32) = nI 256 from rfl]; exact (by rw [n_le (by omega) (by omega)]; omega)) (rt_some ⟨fun _ => ?_, fun _ => rfl⟩)
      rintro ⟨p, h1, h2, h3⟩
      exact hq p (by omega) h2 h3
    | succ d ih =>
      intro q fuel e1 e2 hq
      obtain ⟨f, rfl⟩ : ∃ f, fuel = f + 1 := ⟨fuel - 1, by omega⟩
      have hq2 : q < 256 := by omega
      rw [f_X8_isCopy_L11]
      refine rt_f (by rw [show (256 : Int32) = nI 256 from rfl]; exact (by rw [n_le (by omega) (by omega)]; omega)) ?_
      rw [show (256 : Int32) = nI 256 from rfl, pk_mul, nI_add, rd_ok (by omega) (by omega), nI_1]
      refine rt_if (fun c1 => ?_) (fun c1 => ?_)
      · have hn : ¬ A q := (min_0 hA hq2).mp c1
        refine ih (q + 1) f (by omega) (by omega) (fun p hp hap => ?_)
        by_cases e : p = q
        · subst e; exact absurd hap hn
        · exact hq p (by omega) hap
      · have hy : A q := Classical.byContradiction (fun z => c1 ((min_0 hA hq2).mpr z))
        have hc := hI q hq2 hy
        have h256 := cpP_256 hw hh hc
        rw [(m_copyOf hw hh hw1 hh1 hm hq2).1 hc, bd1_s]
        refine rt_if (fun c2 => ?_) (fun c2 => ?_)
        · rw [n_inj (by omega) (by omega)] at c2
          exact rt_some ⟨fun z => absurd z (by decide), fun z => absurd ⟨q, hq2, hy, c2⟩ z⟩
        · rw [n_inj (by omega) (by omega)] at c2
          refine ih (q + 1) f (by omega) (by omega) (fun p hp hap => ?_)
          by_cases e : p = q
          · subst e; exact c2
          · exact hq p (by omega) hap
  unfold f_X8_isCopy
  rw [p16]
  exact go 256 0 FU (by omega) (by unfold FU; omega) (fun p hp => by omega)
/-! holds -/
theorem j_holds {w h rc om : Nat} {g st : Nat → Nat} {c_greys c_settings m_grey m_setting : Nat → Int32} {c_reached : Int32} {c_order : Nat → Int32} {c_merged : Nat → Int32} {c_least : Nat → Int32} {c_greatest : Nat → Int32} {c_role : Nat → Int32} {c_head : Nat → Int64} {c_tail : Nat → Int64} {c_rank : Nat → Int32} {c_kindFrom : Nat → Int32} {c_kindTo : Nat → Int32} {c_side : Int32} {c_across : Int32} {c_down : Int32} {c_count : Int32} {c_flats : Int32} {c_crowded : Int32} {c_kinds : Int32} {c_first : Nat → Int32} {c_second : Nat → Int32} {c_pairs : Int32} {c_pairsWith : Nat → Int32} {c_voted : Nat → Int32} {c_ways : Nat → Int32} {c_shcount : Int32} {c_numberOfWay : Nat → Int32} {c_list : Nat → Nat} {c_fcount : Int32} {c_regions : Nat → Int32} {c_left : Nat → Nat → Int32} {c_open : Nat → Int32} {c_frows : Nat → Nat → Int32} {c_fshift : Nat → Int32} {c_fdx : Nat → Int32} {c_fdy : Nat → Int32} {c_fleastPlace : Nat → Int32} {c_fpairs : Nat → Int32} {c_foffset : Nat → Int32} {c_fplacesFirst : Nat → Int32} {c_fplaces : Nat → Int32} {m_squares : Int32} {m_square : Nat → Int32} {m_dark : Nat → Int32} {m_light : Nat → Int32} {m_like : Nat → Int32} {m_isCrowded : Nat → Int32} {m_pairs : Int32} {m_first : Nat → Int32} {m_second : Nat → Int32} {m_votes : Nat → Int32} {m_shifts : Int32} {m_shiftX : Nat → Int32} {m_shiftY : Nat → Int32} {m_regionAt : Nat → Int32} {m_regions : Int32} {m_regionShift : Nat → Int32} {m_regionPairs : Nat → Int32} {m_regionFirst : Nat → Int32} {m_findings : Int32} {m_regionOf : Nat → Int32} {m_offset : Nat → Int32} {m_begun : Nat → Int32} {m_held : Nat → Int32} {m_isIn : Nat → Int32} {m_numbered : Nat → Int32} (hC : Cor w h g st c_greys c_settings) (hD : Cor w h g st m_grey m_setting) (hS : CSv w h g st rc c_reached c_order c_merged c_least c_greatest c_role c_head c_tail c_rank c_kindFrom c_kindTo c_side c_across c_down c_count c_flats c_crowded c_kinds c_first c_second c_pairs c_pairsWith c_voted c_ways c_shcount c_numberOfWay c_list c_fcount c_regions c_left c_open c_frows c_fshift c_fdx c_fdy c_fleastPlace c_fpairs c_foffset c_fplacesFirst c_fplaces) (hM : MAll w h g st om m_squares m_square m_dark m_light m_like m_isCrowded m_pairs m_first m_second m_votes m_shifts m_shiftX m_shiftY m_regionAt m_regions m_regionShift m_regionPairs m_regionFirst m_findings m_regionOf m_offset m_begun m_held m_isIn m_numbered) (x1 x2 x3 : Int32) : ∃ (r : Int32) (rc' om' : Nat) (c_reached' : Int32) (c_order' : Nat → Int32) (c_merged' : Nat → Int32) (c_least' : Nat → Int32) (c_greatest' : Nat → Int32) (c_role' : Nat → Int32) (c_head' : Nat → Int64) (c_tail' : Nat → Int64) (c_rank' : Nat → Int32) (c_kindFrom' : Nat → Int32) (c_kindTo' : Nat → Int32) (c_side' : Int32) (c_across' : Int32) (c_down' : Int32) (c_count' : Int32) (c_flats' : Int32) (c_crowded' : Int32) (c_kinds' : Int32) (c_first' : Nat → Int32) (c_second' : Nat → Int32) (c_pairs' : Int32) (c_pairsWith' : Nat → Int32) (c_voted' : Nat → Int32) (c_ways' : Nat → Int32) (c_shcount' : Int32) (c_numberOfWay' : Nat → Int32) (c_list' : Nat → Nat) (c_fcount' : Int32) (c_regions' : Nat → Int32) (c_left' : Nat → Nat → Int32) (c_open' : Nat → Int32) (c_frows' : Nat → Nat → Int32) (c_fshift' : Nat → Int32) (c_fdx' : Nat → Int32) (c_fdy' : Nat → Int32) (c_fleastPlace' : Nat → Int32) (c_fpairs' : Nat → Int32) (c_foffset' : Nat → Int32) (c_fplacesFirst' : Nat → Int32) (c_fplaces' : Nat → Int32) (m_squares' : Int32) (m_square' : Nat → Int32) (m_dark' : Nat → Int32) (m_light' : Nat → Int32) (m_like' : Nat → Int32) (m_isCrowded' : Nat → Int32) (m_pairs' : Int32) (m_first' : Nat → Int32) (m_second' : Nat → Int32) (m_votes' : Nat → Int32) (m_shifts' : Int32) (m_shiftX' : Nat → Int32) (m_shiftY' : Nat → Int32) (m_regionAt' : Nat → Int32) (m_regions' : Int32) (m_regionShift' : Nat → Int32) (m_regionPairs' : Nat → Int32) (m_regionFirst' : Nat → Int32) (m_findings' : Int32) (m_regionOf' : Nat → Int32) (m_offset' : Nat → Int32) (m_begun' : Nat → Int32) (m_held' : Nat → Int32) (m_isIn' : Nat → Int32) (m_numbered' : Nat → Int32), f_X7_holds FU c_greys (nI w) (nI h) c_settings c_reached c_order c_merged c_least c_greatest c_role c_head c_tail c_rank c_kindFrom c_kindTo c_side c_across c_down c_count c_flats c_crowded c_kinds c_first c_second c_pairs c_pairsWith c_voted c_ways c_shcount c_numberOfWay c_list c_fcount c_regions c_left c_open c_frows c_fshift c_fdx c_fdy c_fleastPlace c_fpairs c_foffset c_fplacesFirst c_fplaces x1 x2 x3 = some (r, c_reached', c_order', c_merged', c_least', c_greatest', c_role', c_head', c_tail', c_rank', c_kindFrom', c_kindTo', c_side', c_across', c_down', c_count', c_flats', c_crowded', c_kinds', c_first', c_second', c_pairs', c_pairsWith', c_voted', c_ways', c_shcount', c_numberOfWay', c_list', c_fcount', c_regions', c_left', c_open', c_frows', c_fshift', c_fdx', c_fdy', c_fleastPlace', c_fpairs', c_foffset', c_fplacesFirst', c_fplaces') ∧ f_X8_holds FU (nI om) (nI w) (nI h) m_grey m_setting m_squares m_square m_dark m_light m_like m_isCrowded m_pairs m_first m_second m_votes m_shifts m_shiftX m_shiftY m_regionAt m_regions m_regionShift m_regionPairs m_regionFirst m_findings m_regionOf m_offset m_begun m_held m_isIn m_numbered x1 x2 x3 = some (r, nI om', m_squares', m_square', m_dark', m_light', m_like', m_isCrowded', m_pairs', m_first', m_second', m_votes', m_shifts', m_shiftX', m_shiftY', m_regionAt', m_regions', m_regionShift', m_regionPairs', m_regionFirst', m_findings', m_regionOf', m_offset', m_begun', m_held', m_isIn', m_numbered') ∧ CSv w h g st rc' c_reached' c_order' c_merged' c_least' c_greatest' c_role' c_head' c_tail' c_rank' c_kindFrom' c_kindTo' c_side' c_across' c_down' c_count' c_flats' c_crowded' c_kinds' c_first' c_second' c_pairs' c_pairsWith' c_voted' c_ways' c_shcount' c_numberOfWay' c_list' c_fcount' c_regions' c_left' c_open' c_frows' c_fshift' c_fdx' c_fdy' c_fleastPlace' c_fpairs' c_foffset' c_fplacesFirst' c_fplaces' ∧ MAll w h g st om' m_squares' m_square' m_dark' m_light' m_like' m_isCrowded' m_pairs' m_first' m_second' m_votes' m_shifts' m_shiftX' m_shiftY' m_regionAt' m_regions' m_regionShift' m_regionPairs' m_regionFirst' m_findings' m_regionOf' m_offset' m_begun' m_held' m_isIn' m_numbered'  := by
  obtain ⟨hs, hf⟩ := fdc hC.1
  obtain ⟨rc', c_reached', c_order', c_merged', c_least', c_greatest', c_role', c_head', c_tail', c_rank', c_kindFrom', c_kindTo', c_side', c_across', c_down', c_count', c_flats', c_crowded', c_kinds', c_first', c_second', c_pairs', c_pairsWith', c_voted', c_ways', c_shcount', c_numberOfWay', c_list', c_fcount', c_regions', c_left', c_open', c_frows', c_fshift', c_fdx', c_fdy', c_fleastPlace', c_fpairs', c_foffset', c_fplacesFirst', c_fplaces', e7, r7, hS'⟩ := c_reach3 hC hS
  obtain ⟨om', m_squares', m_square', m_dark', m_light', m_like', m_isCrowded', m_pairs', m_first', m_second', m_votes', m_shifts', m_shiftX', m_shiftY', m_regionAt', m_regions', m_regionShift', m_regionPairs', m_regionFirst', m_findings', m_regionOf', m_offset', m_begun', m_held', m_isIn', m_numbered', e8, r8, hM'⟩ := ma5 hD hf hM
  obtain ⟨_, q1, q2, q3⟩ := hS'.2.2.2.2.2 r7
  obtain ⟨_, n1, n2, n3⟩ := hM'.2.2.2.2.2 r8
  have l4 := hM'.2.2.2.2.1 (by omega)
  obtain ⟨_, l31, l32⟩ := (hM'.2.2.2.1 (by omega)).can
  have h24 := hf.n24
  have h1024 := zRL_1024 hs
  have hlp := hS'.2.2.1
  have b7 : ∀ (v : Int32), f_X7_holds FU c_greys (nI w) (nI h) c_settings c_reached c_order c_merged c_least c_greatest c_role c_head c_tail c_rank c_kindFrom c_kindTo c_side c_across c_down c_count c_flats c_crowded c_kinds c_first c_second c_pairs c_pairsWith c_voted c_ways c_shcount c_numberOfWay c_list c_fcount c_regions c_left c_open c_frows c_fshift c_fdx c_fdy c_fleastPlace c_fpairs c_foffset c_fplacesFirst c_fplaces x1 x2 x3 = some (v, c_reached', c_order', c_merged', c_least', c_greatest', c_role', c_head', c_tail', c_rank', c_kindFrom', c_kindTo', c_side', c_across', c_down', c_count', c_flats', c_crowded', c_kinds', c_first', c_second', c_pairs', c_pairsWith', c_voted', c_ways', c_shcount', c_numberOfWay', c_list', c_fcount', c_regions', c_left', c_open', c_frows', c_fshift', c_fdx', c_fdy', c_fleastPlace', c_fpairs', c_foffset', c_fplacesFirst', c_fplaces') → f_X8_holds FU (nI om) (nI w) (nI h) m_grey m_setting m_squares m_square m_dark m_light m_like m_isCrowded m_pairs m_first m_second m_votes m_shifts m_shiftX m_shiftY m_regionAt m_regions m_regionShift m_regionPairs m_regionFirst m_findings m_regionOf m_offset m_begun m_held m_isIn m_numbered x1 x2 x3 = some (v, nI om', m_squares', m_square', m_dark', m_light', m_like', m_isCrowded', m_pairs', m_first', m_second', m_votes', m_shifts', m_shiftX', m_shiftY', m_regionAt', m_regions', m_regionShift', m_regionPairs', m_regionFirst', m_findings', m_regionOf', m_offset', m_begun', m_held', m_isIn', m_numbered') → ∃ (r : Int32) (rc' om' : Nat) (c_reached' : Int32) (c_order' : Nat → Int32) (c_merged' : Nat → Int32) (c_least' : Nat → Int32) (c_greatest' : Nat → Int32) (c_role' : Nat → Int32) (c_head' : Nat → Int64) (c_tail' : Nat → Int64) (c_rank' : Nat → Int32) (c_kindFrom' : Nat → Int32) (c_kindTo' : Nat → Int32) (c_side' : Int32) (c_across' : Int32) (c_down' : Int32) (c_count' : Int32) (c_flats' : Int32) (c_crowded' : Int32) (c_kinds' : Int32) (c_first' : Nat → Int32) (c_second' : Nat → Int32) (c_pairs' : Int32) (c_pairsWith' : Nat → Int32) (c_voted' : Nat → Int32) (c_ways' : Nat → Int32) (c_shcount' : Int32) (c_numberOfWay' : Nat → Int32) (c_list' : Nat → Nat) (c_fcount' : Int32) (c_regions' : Nat → Int32) (c_left' : Nat → Nat → Int32) (c_open' : Nat → Int32) (c_frows' : Nat → Nat → Int32) (c_fshift' : Nat → Int32) (c_fdx' : Nat → Int32) (c_fdy' : Nat → Int32) (c_fleastPlace' : Nat → Int32) (c_fpairs' : Nat → Int32) (c_foffset' : Nat → Int32) (c_fplacesFirst' : Nat → Int32) (c_fplaces' : Nat → Int32) (m_squares' : Int32) (m_square' : Nat → Int32) (m_dark' : Nat → Int32) (m_light' : Nat → Int32) (m_like' : Nat → Int32) (m_isCrowded' : Nat → Int32) (m_pairs' : Int32) (m_first' : Nat → Int32) (m_second' : Nat → Int32) (m_votes' : Nat → Int32) (m_shifts' : Int32) (m_shiftX' : Nat → Int32) (m_shiftY' : Nat → Int32) (m_regionAt' : Nat → Int32) (m_regions' : Int32) (m_regionShift' : Nat → Int32) (m_regionPairs' : Nat → Int32) (m_regionFirst' : Nat → Int32) (m_findings' : Int32) (m_regionOf' : Nat → Int32) (m_offset' : Nat → Int32) (m_begun' : Nat → Int32) (m_held' : Nat → Int32) (m_isIn' : Nat → Int32) (m_numbered' : Nat → Int32), f_X7_holds FU c_greys (nI w) (nI h) c_settings c_reached c_order c_merged c_least c_greatest c_role c_head c_tail c_rank c_kindFrom c_kindTo c_side c_across c_down c_count c_flats c_crowded c_kinds c_first c_second c_pairs c_pairsWith c_voted c_ways c_shcount c_numberOfWay c_list c_fcount c_regions c_left c_open c_frows c_fshift c_fdx c_fdy c_fleastPlace c_fpairs c_foffset c_fplacesFirst c_fplaces x1 x2 x3 = some (r, c_reached', c_order', c_merged', c_least', c_greatest', c_role', c_head', c_tail', c_rank', c_kindFrom', c_kindTo', c_side', c_across', c_down', c_count', c_flats', c_crowded', c_kinds', c_first', c_second', c_pairs', c_pairsWith', c_voted', c_ways', c_shcount', c_numberOfWay', c_list', c_fcount', c_regions', c_left', c_open', c_frows', c_fshift', c_fdx', c_fdy', c_fleastPlace', c_fpairs', c_foffset', c_fplacesFirst', c_fplaces') ∧ f_X8_holds FU (nI om) (nI w) (nI h) m_grey m_setting m_squares m_square m_dark m_light m_like m_isCrowded m_pairs m_first m_second m_votes m_shifts m_shiftX m_shiftY m_regionAt m_regions m_regionShift m_regionPairs m_regionFirst m_findings m_regionOf m_offset m_begun m_held m_isIn m_numbered x1 x2 x3 = some (r, nI om', m_squares', m_square', m_dark', m_light', m_like', m_isCrowded', m_pairs', m_first', m_second', m_votes', m_shifts', m_shiftX', m_shiftY', m_regionAt', m_regions', m_regionShift', m_regionPairs', m_regionFirst', m_findings', m_regionOf', m_offset', m_begun', m_held', m_isIn', m_numbered') ∧ CSv w h g st rc' c_reached' c_order' c_merged' c_least' c_greatest' c_role' c_head' c_tail' c_rank' c_kindFrom' c_kindTo' c_side' c_across' c_down' c_count' c_flats' c_crowded' c_kinds' c_first' c_second' c_pairs' c_pairsWith' c_voted' c_ways' c_shcount' c_numberOfWay' c_list' c_fcount' c_regions' c_left' c_open' c_frows' c_fshift' c_fdx' c_fdy' c_fleastPlace' c_fpairs' c_foffset' c_fplacesFirst' c_fplaces' ∧ MAll w h g st om' m_squares' m_square' m_dark' m_light' m_like' m_isCrowded' m_pairs' m_first' m_second' m_votes' m_shifts' m_shiftX' m_shiftY' m_regionAt' m_regions' m_regionShift' m_regionPairs' m_regionFirst' m_findings' m_regionOf' m_offset' m_begun' m_held' m_isIn' m_numbered'  := by
    intro v z7 z8
    exact ⟨v, rc', om', _, _, _, _, _, _, _, _, _, _, _, _, _, _, _, _, _, _, _, _, _, _, _, _, _, _, _, _, _, _, _, _, _, _, _, _, _, _, _, _, _, _, _, _, _, _, _, _, _, _, _, _, _, _, _, _, _, _, _, _, _, _, _, _, _, z7, z8, hS', hM'⟩
  by_cases c : ∃ i, i < zFn w h g st ∧ x1 = nI i
  · obtain ⟨k, hk, ek⟩ := c
    have w7 : f_X7_isWithin FU x1 0 (c_fcount' - 1) = some 1 := by rw [q1, wi_eq]; exact wi_cn (by omega) hk ek
    have w8 : f_X8_within FU x1 0 (m_findings' - 1) = some 1 := by rw [n1]; exact wi_cn (by omega) hk ek
    by_cases cp : ∃ a b, InP w h x2 x3 a b
    · obtain ⟨a, b, hI⟩ := cp
      obtain ⟨i, hi, ei, eT⟩ := n3 k hk
      have hr := hf.f hk
      obtain ⟨g1, ⟨f1, f2, f3, f4, f5⟩, g3, g4, g5⟩ := q2 k hk
      have hF := n2 i hi
      rw [eT] at hF
      obtain ⟨m1, m2, m3, m4, m5⟩ := hF
      generalize zTf w h g st k = r at *
      have hlt := hlp.1 k (by omega)
      have hm : MF w h g st m_shiftX' m_shiftY' m_regionShift' m_regionOf' i r := ⟨by omega, hr, hs, l32, l4.2.1, m1⟩
      have hin : ∀ q, q < 256 → zGr w h g st r q → cpI w h (zv w h g st r) q := fun q _ hq => (zGr_in hC.o hC.w hC.h hr hq).2.2
      have ha : a < 16 := by have := hI.1; have := hC.w; omega
      have hb : b < 16 := by have := hI.2.1; have := hC.h; omega
      obtain ⟨z, ez, hz⟩ := c_copyRowOf (FU := FU) hC.w hC.h (zv_496 hs hr) f2 f3 g1 hin hb
      obtain ⟨u, eu, hu, hu2⟩ := m_held_in (FU := FU) (x := nI a) (y := nI b) (a := a) (b := b) hD.w hD.h (by omega : i < 24) m5 ⟨hI.1, hI.2.1, rfl, rfl⟩
      obtain ⟨t, et, ht⟩ := m_isCopy hD.w hD.h hD.w1 hD.h1 hm m5 hin ha hb
      have bb1 := g1 b hb a (by omega)
      have bb2 := hz a (by omega)
      refine b7 ((if u = 0 then 0 else 1) + (if t = 0 then 0 else 2)) ?_ ?_
      · unfold f_X7_holds
        rw [e7, bd40_s, w7, bd1_s, if_neg (by decide), has_t hC.w hC.h hI, bd1_s, if_neg (by decide), ek, rdn_ok (by omega) (by omega), lt25_ok hlt, hI.2.2.1, hI.2.2.2, c_rowOf hb, bd1_s, ez, bd1_s, b_val (by omega), b_val (by omega)]
        have v1 : (if bt (c_frows' (c_list' k) b) a = true then (1 : Int32) else 0) = if u = 0 then 0 else 1 := by
          by_cases y : zGr w h g st r (16 * b + a)
          · rw [if_pos (bb1.mpr ⟨ha, y⟩), if_neg (fun z => hu.mp z y)]
          · rw [if_neg (fun z => y (bb1.mp z).2), if_pos (hu.mpr y)]
        have v2 : 2 * (if bt z a = true then (1 : Int32) else 0) = if t = 0 then 0 else 2 := by
          by_cases y : CpS (zv w h g st r) (zGr w h g st r) (16 * b + a)
          · rw [if_pos (bb2.mpr ⟨ha, y⟩), if_neg (fun z => ht.mp z y)]; rfl
          · rw [if_neg (fun z => y (bb2.mp z).2), if_pos (ht.mpr y)]; rfl
        rw [v1, v2]
      · unfold f_X8_holds
        rw [e8, bd26_s, w8, bd1_s, if_neg (by decide), pl_t hD.w hD.h hI, bd1_s, if_neg (by decide), ek, rd_ok (by omega) (by omega), ei, hI.2.2.1, hI.2.2.2, eu, bd1_s]
        unfold jn
        dsimp only
        rw [et]
        simp only [bd1_s]
        by_cases y1 : u = 0 <;> by_cases y2 : t = 0
        · rw [if_pos y1, if_pos y2, if_pos y1, if_pos y2]
        · rw [if_pos y1, if_neg y2, if_pos y1, if_neg y2]
        · rw [if_neg y1, if_pos y2, if_neg y1, if_pos y2]
        · rw [if_neg y1, if_neg y2, if_neg y1, if_neg y2]
    · have hn : ∀ a b, ¬ InP w h x2 x3 a b := fun a b hI => cp ⟨a, b, hI⟩
      refine b7 (-1) ?_ ?_
      · unfold f_X7_holds
        rw [e7, bd40_s, w7, bd1_s, if_neg (by decide), has_f hC.w hC.h hn, bd1_s, if_pos rfl]
      · unfold f_X8_holds
        rw [e8, bd26_s, w8, bd1_s, if_neg (by decide), pl_f hD.w hD.h hD.w1 hD.h1 hn, bd1_s, if_pos rfl]
  · have hn : ∀ i, i < zFn w h g st → x1 ≠ nI i := fun i hi z => c ⟨i, hi, z⟩
    refine b7 (-1) ?_ ?_
    · unfold f_X7_holds
      rw [e7, bd40_s, q1, wi_eq, wi_cf (by omega) hn, bd1_s, if_pos rfl]
    · unfold f_X8_holds
      rw [e8, bd26_s, n1, wi_cf (by omega) hn, bd1_s, if_pos rfl]
