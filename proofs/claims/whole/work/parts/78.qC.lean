/-! in order -/
theorem od_num {κ o : Nat → Nat} {N i : Nat} (h1 : ∀ i, i < N → o i < N) (h2 : ∀ i j, i < j → j < N → bef κ (o i) (o j)) (hi : i < N) : fb_ct (dB (fun t => bef κ t (o i))) N = i := by
  refine ct_img (T := o) i _ (fun j hj => h1 j (by omega)) (fun a b hab hb => bef_inj h2 a b hab (by omega)) ?_
  intro u hu
  rw [dB_t]
  constructor
  · intro z
    obtain ⟨j, hj, ej⟩ := fb_onto h1 (bef_inj h2) hu
    rw [← ej] at z
    exact ⟨j, o_lt h2 hj hi z, ej⟩
  · rintro ⟨j, hj, ej⟩
    rw [← ej]
    exact h2 j i hj hi
theorem m_io19 {w h s : Nat} {g st : Nat → Nat} {cg cs csq cd cl : Nat → Int32} {kk : _} {P : _} (hG : RepG cg g) (hS : RepS cs st) (hg : ∀ q, q < 256 → g q ≤ 99) (ho : OKs st) (hw : w ≤ 16) (hh : h ≤ 16) (hM : MS w g st (qN w h st) csq cd cl) (hs : s < qN w h st) :
    ∀ (d t fuel : Nat), t + d = qN w h st → d < fuel → (∀ z : Int32, Rt (kk (nI (fb_ct (dB (fun t => bef (zK w g st) t s)) (qN w h st))) z) P) → Rt (f_X8_inOrder_L19 FU (nI s) cg cs (nI (qN w h st)) csq cd kk fuel (nI (fb_ct (dB (fun t => bef (zK w g st) t s)) t)) (nI t)) P := by
  have hN := qN_225 (w := w) (h := h) ho hw hh
  intro d
  induction d with
  | zero =>
    intro t fuel e1 e2 hk
    obtain ⟨f, rfl⟩ : ∃ f, fuel = f + 1 := ⟨fuel - 1, by omega⟩
    have et : t = qN w h st := by omega
    subst et
    rw [f_X8_inOrder_L19]
    exact rt_t (by rw [n_le (by omega) (by omega)]; omega) (hk _)
  | succ d ih =>
    intro t fuel e1 e2 hk
    obtain ⟨f, rfl⟩ : ∃ f, fuel = f + 1 := ⟨fuel - 1, by omega⟩
    have ht : t < qN w h st := by omega
    have key := ih (t + 1) f (by omega) (by omega) hk
    rw [fb_ct_succ, ← nI_add] at key
    have o1 := OKp_s ho hw hh ht
    have o2 := OKp_s ho hw hh hs
    have qk := qC_K ho hg o1 o2
    rw [f_X8_inOrder_L19]
    refine rt_f (by rw [n_le (by omega) (by omega)]; omega) ?_
    refine rt_bd1 (m_compared hG hS hg ho (by omega) (by omega) (hM t ht).1 (hM t ht).2.1 o1 (hM s hs).1 (hM s hs).2.1 o2) ?_
    intro v hv
    refine rt_jn ?_
    dsimp only
    rw [show nI t + (1 : Int32) = nI (t + 1) from nI_add t 1]
    have yes : bef (zK w g st) t s → Rt (f_X8_inOrder_L19 FU (nI s) cg cs (nI (qN w h st)) csq cd kk f (nI (fb_ct (dB (fun t => bef (zK w g st) t s)) t) + 1) (nI (t + 1))) P := by
      intro z
      have hy : dB (fun t => bef (zK w g st) t s) t = true := dB_t.mpr z
      rw [hy, if_pos rfl] at key
      exact key
    have no : ¬ bef (zK w g st) t s → Rt (f_X8_inOrder_L19 FU (nI s) cg cs (nI (qN w h st)) csq cd kk f (nI (fb_ct (dB (fun t => bef (zK w g st) t s)) t) + 0) (nI (t + 1))) P := by
      intro z
      have hn : ¬ dB (fun t => bef (zK w g st) t s) t = true := fun y => z (dB_t.mp y)
      rw [if_neg hn] at key
      exact key
    refine rt_if (fun c => ?_) (fun c => ?_)
    · rw [i_lt, hv, show (0 : Int32).toInt = 0 by decide] at c
      exact yes (Or.inl (qk.1.mp c))
    · rw [i_lt, hv, show (0 : Int32).toInt = 0 by decide] at c
      refine rt_if (fun c2 => ?_) (fun c2 => ?_)
      · rw [i_eq, hv, show (0 : Int32).toInt = 0 by decide] at c2
        have ek : zK w g st t = zK w g st s := qk.2.mp c2
        refine rt_if (fun c3 => ?_) (fun c3 => ?_)
        · rw [n_le (by omega) (by omega)] at c3
          exact no (by unfold bef; omega)
        · rw [n_le (by omega) (by omega)] at c3
          exact yes (by unfold bef; omega)
      · rw [i_eq, hv, show (0 : Int32).toInt = 0 by decide] at c2
        have l1 : ¬ zK w g st t < zK w g st s := fun z => c (qk.1.mpr z)
        have l2 : ¬ zK w g st t = zK w g st s := fun z => c2 (qk.2.mpr z)
        exact no (by unfold bef; omega)
theorem j_inOrder {w h rc om : Nat} {g st : Nat → Nat} {c_greys c_settings m_grey m_setting : Nat → Int32} {c_reached : Int32} {c_order : Nat → Int32} {c_merged : Nat → Int32} {c_least : Nat → Int32} {c_greatest : Nat → Int32} {c_role : Nat → Int32} {c_head : Nat → Int64} {c_tail : Nat → Int64} {c_rank : Nat → Int32} {c_kindFrom : Nat → Int32} {c_kindTo : Nat → Int32} {c_side : Int32} {c_across : Int32} {c_down : Int32} {c_count : Int32} {c_flats : Int32} {c_crowded : Int32} {c_kinds : Int32} {c_first : Nat → Int32} {c_second : Nat → Int32} {c_pairs : Int32} {c_pairsWith : Nat → Int32} {c_voted : Nat → Int32} {c_ways : Nat → Int32} {c_shcount : Int32} {c_numberOfWay : Nat → Int32} {c_list : Nat → Nat} {c_fcount : Int32} {c_regions : Nat → Int32} {c_left : Nat → Nat → Int32} {c_open : Nat → Int32} {c_frows : Nat → Nat → Int32} {c_fshift : Nat → Int32} {c_fdx : Nat → Int32} {c_fdy : Nat → Int32} {c_fleastPlace : Nat → Int32} {c_fpairs : Nat → Int32} {c_foffset : Nat → Int32} {c_fplacesFirst : Nat → Int32} {c_fplaces : Nat → Int32} {m_squares : Int32} {m_square : Nat → Int32} {m_dark : Nat → Int32} {m_light : Nat → Int32} {m_like : Nat → Int32} {m_isCrowded : Nat → Int32} {m_pairs : Int32} {m_first : Nat → Int32} {m_second : Nat → Int32} {m_votes : Nat → Int32} {m_shifts : Int32} {m_shiftX : Nat → Int32} {m_shiftY : Nat → Int32} {m_regionAt : Nat → Int32} {m_regions : Int32} {m_regionShift : Nat → Int32} {m_regionPairs : Nat → Int32} {m_regionFirst : Nat → Int32} {m_findings : Int32} {m_regionOf : Nat → Int32} {m_offset : Nat → Int32} {m_begun : Nat → Int32} {m_held : Nat → Int32} {m_isIn : Nat → Int32} {m_numbered : Nat → Int32} (hC : Cor w h g st c_greys c_settings) (hD : Cor w h g st m_grey m_setting) (hS : CSv w h g st rc c_reached c_order c_merged c_least c_greatest c_role c_head c_tail c_rank c_kindFrom c_kindTo c_side c_across c_down c_count c_flats c_crowded c_kinds c_first c_second c_pairs c_pairsWith c_voted c_ways c_shcount c_numberOfWay c_list c_fcount c_regions c_left c_open c_frows c_fshift c_fdx c_fdy c_fleastPlace c_fpairs c_foffset c_fplacesFirst c_fplaces) (hM : MAll w h g st om m_squares m_square m_dark m_light m_like m_isCrowded m_pairs m_first m_second m_votes m_shifts m_shiftX m_shiftY m_regionAt m_regions m_regionShift m_regionPairs m_regionFirst m_findings m_regionOf m_offset m_begun m_held m_isIn m_numbered) (x1 : Int32) : ∃ (r : Int32) (rc' om' : Nat) (c_reached' : Int32) (c_order' : Nat → Int32) (c_merged' : Nat → Int32) (c_least' : Nat → Int32) (c_greatest' : Nat → Int32) (c_role' : Nat → Int32) (c_head' : Nat → Int64) (c_tail' : Nat → Int64) (c_rank' : Nat → Int32) (c_kindFrom' : Nat → Int32) (c_kindTo' : Nat → Int32) (c_side' : Int32) (c_across' : Int32) (c_down' : Int32) (c_count' : Int32) (c_flats' : Int32) (c_crowded' : Int32) (c_kinds' : Int32) (c_first' : Nat → Int32) (c_second' : Nat → Int32) (c_pairs' : Int32) (c_pairsWith' : Nat → Int32) (c_voted' : Nat → Int32) (c_ways' : Nat → Int32) (c_shcount' : Int32) (c_numberOfWay' : Nat → Int32) (c_list' : Nat → Nat) (c_fcount' : Int32) (c_regions' : Nat → Int32) (c_left' : Nat → Nat → Int32) (c_open' : Nat → Int32) (c_frows' : Nat → Nat → Int32) (c_fshift' : Nat → Int32) (c_fdx' : Nat → Int32) (c_fdy' : Nat → Int32) (c_fleastPlace' : Nat → Int32) (c_fpairs' : Nat → Int32) (c_foffset' : Nat → Int32) (c_fplacesFirst' : Nat → Int32) (c_fplaces' : Nat → Int32) (m_squares' : Int32) (m_square' : Nat → Int32) (m_dark' : Nat → Int32) (m_light' : Nat → Int32) (m_like' : Nat → Int32), f_X7_inOrder FU c_greys (nI w) (nI h) c_settings c_reached c_order c_merged c_least c_greatest c_role c_head c_tail c_rank c_kindFrom c_kindTo c_side c_across c_down c_count c_flats c_crowded c_kinds c_first c_second c_pairs c_pairsWith c_voted c_ways c_shcount c_numberOfWay c_list c_fcount c_regions c_left c_open c_frows c_fshift c_fdx c_fdy c_fleastPlace c_fpairs c_foffset c_fplacesFirst c_fplaces x1 = some (r, c_reached', c_order', c_merged', c_least', c_greatest', c_role', c_head', c_tail', c_rank', c_kindFrom', c_kindTo', c_side', c_across', c_down', c_count', c_flats', c_crowded', c_kinds', c_first', c_second', c_pairs', c_pairsWith', c_voted', c_ways', c_shcount', c_numberOfWay', c_list', c_fcount', c_regions', c_left', c_open', c_frows', c_fshift', c_fdx', c_fdy', c_fleastPlace', c_fpairs', c_foffset', c_fplacesFirst', c_fplaces') ∧ f_X8_inOrder FU (nI om) (nI w) (nI h) m_grey m_setting m_squares m_square m_dark m_light m_like x1 = some (r, nI om', m_squares', m_square', m_dark', m_light', m_like') ∧ CSv w h g st rc' c_reached' c_order' c_merged' c_least' c_greatest' c_role' c_head' c_tail' c_rank' c_kindFrom' c_kindTo' c_side' c_across' c_down' c_count' c_flats' c_crowded' c_kinds' c_first' c_second' c_pairs' c_pairsWith' c_voted' c_ways' c_shcount' c_numberOfWay' c_list' c_fcount' c_regions' c_left' c_open' c_frows' c_fshift' c_fdx' c_fdy' c_fleastPlace' c_fpairs' c_foffset' c_fplacesFirst' c_fplaces' ∧ MAll w h g st om' m_squares' m_square' m_dark' m_light' m_like' m_isCrowded m_pairs m_first m_second m_votes m_shifts m_shiftX m_shiftY m_regionAt m_regions m_regionShift m_regionPairs m_regionFirst m_findings m_regionOf m_offset m_begun m_held m_isIn m_numbered := by
  have hN := qN_225 (w := w) (h := h) hC.o hC.w hC.h
  obtain ⟨rc', c_reached', c_order', c_merged', c_least', c_greatest', c_role', c_head', c_tail', c_rank', c_kindFrom', c_kindTo', c_side', c_across', c_down', c_count', c_flats', c_crowded', c_kinds', c_first', c_second', c_pairs', c_pairsWith', c_voted', c_ways', c_shcount', c_numberOfWay', c_list', c_fcount', c_regions', c_left', c_open', c_frows', c_fshift', c_fdx', c_fdy', c_fleastPlace', c_fpairs', c_foffset', c_fplacesFirst', c_fplaces', e7, r7, hS'⟩ := c_reach1 hC hS
  obtain ⟨om', m_squares', m_square', m_dark', m_light', m_like', e8, r8, hM'⟩ := ma1 hD hM
  have k1 := hM'.2.1 r8
  have k2 := k1.1
  obtain ⟨o, q1, q2, q3, q4, q5, q6, q7, q8, q9, q10, q11, q12⟩ := hS'.2.2.2.1 r7
  have main : ∀ (d s fuel : Nat), s + d = qN w h st → d < fuel → (∀ i, i < qN w h st → x1 = nI i → s ≤ o i) → Rt (f_X8_inOrder_L6 FU x1 (nI om') m_grey m_setting (nI (qN w h st)) m_square' m_dark' m_light' m_like' (fun (x2_7 : Int32) => some ((-1), nI om', nI (qN w h st), m_square', m_dark', m_light', m_like')) fuel (nI s)) (fun q => ∃ r, q = (r, nI om', nI (qN w h st), m_square', m_dark', m_light', m_like') ∧ (∀ i, i < qN w h st → x1 = nI i → r = nI (qP w st (o i))) ∧ ((∀ i, i < qN w h st → x1 ≠ nI i) → r = -1)) := by
    intro d
    induction d with
    | zero =>
      intro s fuel a1 a2 hle
      obtain ⟨f, rfl⟩ : ∃ f, fuel = f + 1 := ⟨fuel - 1, by omega⟩
      rw [f_X8_inOrder_L6]
      refine rt_t (by rw [n_le (by omega) (by omega)]; omega) (rt_some ⟨-1, rfl, fun i hi z => ?_, fun _ => rfl⟩)
      have := hle i hi z
      have := q1 i hi
      omega
    | succ d ih =>
      intro s fuel a1 a2 hle
      obtain ⟨f, rfl⟩ : ∃ f, fuel = f + 1 := ⟨fuel - 1, by omega⟩
      have hs : s < qN w h st := by omega
      rw [f_X8_inOrder_L6]
      refine rt_f (by rw [n_le (by omega) (by omega)]; omega) ?_
      refine m_io19 hD.2.1 hD.2.2 hD.g hD.o hD.w hD.h k1.2.1 hs (qN w h st) 0 FU (by omega) (by unfold FU; omega) ?_
      intro z
      obtain ⟨i, hi, ei⟩ := fb_onto q1 (bef_inj q2) hs
      have hnum := od_num q1 q2 hi
      rw [ei] at hnum
      rw [hnum]
      refine rt_if (fun c => ?_) (fun c => ?_)
      · rw [rd_ok (by omega) (by omega), (k1.2.1 s hs).1]
        refine rt_some ⟨_, rfl, fun i' hi' z => ?_, fun z => absurd c.symm (z i hi)⟩
        rw [z, n_inj (by omega) (by omega)] at c
        rw [← c, ei]
      · rw [nI_1]
        refine ih (s + 1) f (by omega) (by omega) (fun i' hi' z => ?_)
        have h1 := hle i' hi' z
        have h2 : s ≠ o i' := by
          intro y
          have : i = i' := by
            rcases Nat.lt_trichotomy i i' with u | u | u
            · exact absurd (ei.trans y) (bef_inj q2 i i' u hi')
            · exact u
            · exact absurd (y.symm.trans ei.symm) (bef_inj q2 i' i u hi)
          subst this
          exact c z.symm
        omega
  obtain ⟨q, e9, r, e10, z1, z2⟩ := main (qN w h st) 0 FU (by omega) (by unfold FU; omega) (fun i _ _ => by omega)
  subst e10
  have b8 : f_X8_inOrder FU (nI om) (nI w) (nI h) m_grey m_setting m_squares m_square m_dark m_light m_like x1 = some (r, nI om', m_squares', m_square', m_dark', m_light', m_like') := by
    unfold f_X8_inOrder
    rw [e8, bd6_s, k2]
    exact e9
  by_cases c : ∃ i, i < qN w h st ∧ x1 = nI i
  · obtain ⟨i, hi, ei⟩ := c
    have er := z1 i hi ei
    subst er
    refine ⟨_, rc', om', _, _, _, _, _, _, _, _, _, _, _, _, _, _, _, _, _, _, _, _, _, _, _, _, _, _, _, _, _, _, _, _, _, _, _, _, _, _, _, _, _, _, _, _, _, ?_, b8, hS', hM'⟩
    unfold f_X7_inOrder
    rw [e7, bd40_s, q9, wi_eq, wi_cn (by omega) hi ei, bd1_s, if_neg (by decide), ei, rd_ok (by omega) (by omega), q3 i hi]
  · have hn : ∀ i, i < qN w h st → x1 ≠ nI i := fun i hi z => c ⟨i, hi, z⟩
    have er := z2 hn
    subst er
    refine ⟨_, rc', om', _, _, _, _, _, _, _, _, _, _, _, _, _, _, _, _, _, _, _, _, _, _, _, _, _, _, _, _, _, _, _, _, _, _, _, _, _, _, _, _, _, _, _, _, _, ?_, b8, hS', hM'⟩
    unfold f_X7_inOrder
    rw [e7, bd40_s, q9, wi_eq, wi_cf (by omega) hn, bd1_s, if_pos rfl]
/-! pair -/
theorem j_pair {w h rc om : Nat} {g st : Nat → Nat} {c_greys c_settings m_grey m_setting : Nat → Int32} {c_reached : Int32} {c_order : Nat → Int32} {c_merged : Nat → Int32} {c_least : Nat → Int32} {c_greatest : Nat → Int32} {c_role : Nat → Int32} {c_head : Nat → Int64} {c_tail : Nat → Int64} {c_rank : Nat → Int32} {c_kindFrom : Nat → Int32} {c_kindTo : Nat → Int32} {c_side : Int32} {c_across : Int32} {c_down : Int32} {c_count : Int32} {c_flats : Int32} {c_crowded : Int32} {c_kinds : Int32} {c_first : Nat → Int32} {c_second : Nat → Int32} {c_pairs : Int32} {c_pairsWith : Nat → Int32} {c_voted : Nat → Int32} {c_ways : Nat → Int32} {c_shcount : Int32} {c_numberOfWay : Nat → Int32} {c_list : Nat → Nat} {c_fcount : Int32} {c_regions : Nat → Int32} {c_left : Nat → Nat → Int32} {c_open : Nat → Int32} {c_frows : Nat → Nat → Int32} {c_fshift : Nat → Int32} {c_fdx : Nat → Int32} {c_fdy : Nat → Int32} {c_fleastPlace : Nat → Int32} {c_fpairs : Nat → Int32} {c_foffset : Nat → Int32} {c_fplacesFirst : Nat → Int32} {c_fplaces : Nat → Int32} {m_squares : Int32} {m_square : Nat → Int32} {m_dark : Nat → Int32} {m_light : Nat → Int32} {m_like : Nat → Int32} {m_isCrowded : Nat → Int32} {m_pairs : Int32} {m_first : Nat → Int32} {m_second : Nat → Int32} {m_votes : Nat → Int32} {m_shifts : Int32} {m_shiftX : Nat → Int32} {m_shiftY : Nat → Int32} {m_regionAt : Nat → Int32} {m_regions : Int32} {m_regionShift : Nat → Int32} {m_regionPairs : Nat → Int32} {m_regionFirst : Nat → Int32} {m_findings : Int32} {m_regionOf : Nat → Int32} {m_offset : Nat → Int32} {m_begun : Nat → Int32} {m_held : Nat → Int32} {m_isIn : Nat → Int32} {m_numbered : Nat → Int32} (hC : Cor w h g st c_greys c_settings) (hD : Cor w h g st m_grey m_setting) (hS : CSv w h g st rc c_reached c_order c_merged c_least c_greatest c_role c_head c_tail c_rank c_kindFrom c_kindTo c_side c_across c_down c_count c_flats c_crowded c_kinds c_first c_second c_pairs c_pairsWith c_voted c_ways c_shcount c_numberOfWay c_list c_fcount c_regions c_left c_open c_frows c_fshift c_fdx c_fdy c_fleastPlace c_fpairs c_foffset c_fplacesFirst c_fplaces) (hM : MAll w h g st om m_squares m_square m_dark m_light m_like m_isCrowded m_pairs m_first m_second m_votes m_shifts m_shiftX m_shiftY m_regionAt m_regions m_regionShift m_regionPairs m_regionFirst m_findings m_regionOf m_offset m_begun m_held m_isIn m_numbered) (x1 x2 : Int32) : ∃ (r : Int32) (rc' om' : Nat) (c_reached' : Int32) (c_order' : Nat → Int32) (c_merged' : Nat → Int32) (c_least' : Nat → Int32) (c_greatest' : Nat → Int32) (c_role' : Nat → Int32) (c_head' : Nat → Int64) (c_tail' : Nat → Int64) (c_rank' : Nat → Int32) (c_kindFrom' : Nat → Int32) (c_kindTo' : Nat → Int32) (c_side' : Int32) (c_across' : Int32) (c_down' : Int32) (c_count' : Int32) (c_flats' : Int32) (c_crowded' : Int32) (c_kinds' : Int32) (c_first' : Nat → Int32) (c_second' : Nat → Int32) (c_pairs' : Int32) (c_pairsWith' : Nat → Int32) (c_voted' : Nat → Int32) (c_ways' : Nat → Int32) (c_shcount' : Int32) (c_numberOfWay' : Nat → Int32) (c_list' : Nat → Nat) (c_fcount' : Int32) (c_regions' : Nat → Int32) (c_left' : Nat → Nat → Int32) (c_open' : Nat → Int32) (c_frows' : Nat → Nat → Int32) (c_fshift' : Nat → Int32) (c_fdx' : Nat → Int32) (c_fdy' : Nat → Int32) (c_fleastPlace' : Nat → Int32) (c_fpairs' : Nat → Int32) (c_foffset' : Nat → Int32) (c_fplacesFirst' : Nat → Int32) (c_fplaces' : Nat → Int32) (m_squares' : Int32) (m_square' : Nat → Int32) (m_dark' : Nat → Int32) (m_light' : Nat → Int32) (m_like' : Nat → Int32) (m_isCrowded' : Nat → Int32) (m_pairs' : Int32) (m_first' : Nat → Int32) (m_second' : Nat → Int32) (m_votes' : Nat → Int32), f_X7_pair FU c_greys (nI w) (nI h) c_settings c_reached c_order c_merged c_least c_greatest c_role c_head c_tail c_rank c_kindFrom c_kindTo c_side c_across c_down c_count c_flats c_crowded c_kinds c_first c_second c_pairs c_pairsWith c_voted c_ways c_shcount c_numberOfWay c_list c_fcount c_regions c_left c_open c_frows c_fshift c_fdx c_fdy c_fleastPlace c_fpairs c_foffset c_fplacesFirst c_fplaces x1 x2 = some (r, c_reached', c_order', c_merged', c_least', c_greatest', c_role', c_head', c_tail', c_rank', c_kindFrom', c_kindTo', c_side', c_across', c_down', c_count', c_flats', c_crowded', c_kinds', c_first', c_second', c_pairs', c_pairsWith', c_voted', c_ways', c_shcount', c_numberOfWay', c_list', c_fcount', c_regions', c_left', c_open', c_frows', c_fshift', c_fdx', c_fdy', c_fleastPlace', c_fpairs', c_foffset', c_fplacesFirst', c_fplaces') ∧ f_X8_pair FU (nI om) (nI w) (nI h) m_grey m_setting m_squares m_square m_dark m_light m_like m_isCrowded m_pairs m_first m_second m_votes x1 x2 = some (r, nI om', m_squares', m_square', m_dark', m_light', m_like', m_isCrowded', m_pairs', m_first', m_second', m_votes') ∧ CSv w h g st rc' c_reached' c_order' c_merged' c_least' c_greatest' c_role' c_head' c_tail' c_rank' c_kindFrom' c_kindTo' c_side' c_across' c_down' c_count' c_flats' c_crowded' c_kinds' c_first' c_second' c_pairs' c_pairsWith' c_voted' c_ways' c_shcount' c_numberOfWay' c_list' c_fcount' c_regions' c_left' c_open' c_frows' c_fshift' c_fdx' c_fdy' c_fleastPlace' c_fpairs' c_foffset' c_fplacesFirst' c_fplaces' ∧ MAll w h g st om' m_squares' m_square' m_dark' m_light' m_like' m_isCrowded' m_pairs' m_first' m_second' m_votes' m_shifts m_shiftX m_shiftY m_regionAt m_regions m_regionShift m_regionPairs m_regionFirst m_findings m_regionOf m_offset m_begun m_held m_isIn m_numbered := by
  have h21 := pr_2137 (w := w) (h := h) (g := g) hC.o hC.w hC.h
  obtain ⟨rc', c_reached', c_order', c_merged', c_least', c_greatest', c_role', c_head', c_tail', c_rank', c_kindFrom', c_kindTo', c_side', c_across', c_down', c_count', c_flats', c_crowded', c_kinds', c_first', c_second', c_pairs', c_pairsWith', c_voted', c_ways', c_shcount', c_numberOfWay', c_list', c_fcount', c_regions', c_left', c_open', c_frows', c_fshift', c_fdx', c_fdy', c_fleastPlace', c_fpairs', c_foffset', c_fplacesFirst', c_fplaces', e7, r7, hS'⟩ := c_reach2 hC hS
  obtain ⟨om', m_squares', m_square', m_dark', m_light', m_like', m_isCrowded', m_pairs', m_first', m_second', m_votes', e8, r8, hM'⟩ := ma2 hD hM
  have l1 := hM'.2.1 (by omega)
  have l2 := hM'.2.2.1 r8
  obtain ⟨⟨p1, p2, p3, p4, p5⟩, _⟩ := hS'.2.2.2.2.1 r7
  have b7 : ∀ (r : Int32), f_X7_pair FU c_greys (nI w) (nI h) c_settings c_reached c_order c_merged c_least c_greatest c_role c_head c_tail c_rank c_kindFrom c_kindTo c_side c_across c_down c_count c_flats c_crowded c_kinds c_first c_second c_pairs c_pairsWith c_voted c_ways c_shcount c_numberOfWay c_list c_fcount c_regions c_left c_open c_frows c_fshift c_fdx c_fdy c_fleastPlace c_fpairs c_foffset c_fplacesFirst c_fplaces x1 x2 = some (r, c_reached', c_order', c_merged', c_least', c_greatest', c_role', c_head', c_tail', c_rank', c_kindFrom', c_kindTo', c_side', c_across', c_down', c_count', c_flats', c_crowded', c_kinds', c_first', c_second', c_pairs', c_pairsWith', c_voted', c_ways', c_shcount', c_numberOfWay', c_list', c_fcount', c_regions', c_left', c_open', c_frows', c_fshift', c_fdx', c_fdy', c_fleastPlace', c_fpairs', c_foffset', c_fplacesFirst', c_fplaces') → f_X8_pair FU (nI om) (nI w) (nI h) m_grey m_setting m_squares m_square m_dark m_light m_like m_isCrowded m_pairs m_first m_second m_votes x1 x2 = some (r, nI om', m_squares', m_square', m_dark', m_light', m_like', m_isCrowded', m_pairs', m_first', m_second', m_votes') → ∃ (r : Int32) (rc' om' : Nat) (c_reached' : Int32) (c_order' : Nat → Int32) (c_merged' : Nat → Int32) (c_least' : Nat → Int32) (c_greatest' : Nat → Int32) (c_role' : Nat → Int32) (c_head' : Nat → Int64) (c_tail' : Nat → Int64) (c_rank' : Nat → Int32) (c_kindFrom' : Nat → Int32) (c_kindTo' : Nat → Int32) (c_side' : Int32) (c_across' : Int32) (c_down' : Int32) (c_count' : Int32) (c_flats' : Int32) (c_crowded' : Int32) (c_kinds' : Int32) (c_first' : Nat → Int32) (c_second' : Nat → Int32) (c_pairs' : Int32) (c_pairsWith' : Nat → Int32) (c_voted' : Nat → Int32) (c_ways' : Nat → Int32) (c_shcount' : Int32) (c_numberOfWay' : Nat → Int32) (c_list' : Nat → Nat) (c_fcount' : Int32) (c_regions' : Nat → Int32) (c_left' : Nat → Nat → Int32) (c_open' : Nat → Int32) (c_frows' : Nat → Nat → Int32) (c_fshift' : Nat → Int32) (c_fdx' : Nat → Int32) (c_fdy' : Nat → Int32) (c_fleastPlace' : Nat → Int32) (c_fpairs' : Nat → Int32) (c_foffset' : Nat → Int32) (c_fplacesFirst' : Nat → Int32) (c_fplaces' : Nat → Int32) (m_squares' : Int32) (m_square' : Nat → Int32) (m_dark' : Nat → Int32) (m_light' : Nat → Int32) (m_like' : Nat → Int32) (m_isCrowded' : Nat → Int32) (m_pairs' : Int32) (m_first' : Nat → Int32) (m_second' : Nat → Int32) (m_votes' : Nat → Int32), f_X7_pair FU c_greys (nI w) (nI h) c_settings c_reached c_order c_merged c_least c_greatest c_role c_head c_tail c_rank c_kindFrom c_kindTo c_side c_across c_down c_count c_flats c_crowded c_kinds c_first c_second c_pairs c_pairsWith c_voted c_ways c_shcount c_numberOfWay c_list c_fcount c_regions c_left c_open c_frows c_fshift c_fdx c_fdy c_fleastPlace c_fpairs c_foffset c_fplacesFirst c_fplaces x1 x2 = some (r, c_reached', c_order', c_merged', c_least', c_greatest', c_role', c_head', c_tail', c_rank', c_kindFrom', c_kindTo', c_side', c_across', c_down', c_count', c_flats', c_crowded', c_kinds', c_first', c_second', c_pairs', c_pairsWith', c_voted', c_ways', c_shcount', c_numberOfWay', c_list', c_fcount', c_regions', c_left', c_open', c_frows', c_fshift', c_fdx', c_fdy', c_fleastPlace', c_fpairs', c_foffset', c_fplacesFirst', c_fplaces') ∧ f_X8_pair FU (nI om) (nI w) (nI h) m_grey m_setting m_squares m_square m_dark m_light m_like m_isCrowded m_pairs m_first m_second m_votes x1 x2 = some (r, nI om', m_squares', m_square', m_dark', m_light', m_like', m_isCrowded', m_pairs', m_first', m_second', m_votes') ∧ CSv w h g st rc' c_reached' c_order' c_merged' c_least' c_greatest' c_role' c_head' c_tail' c_rank' c_kindFrom' c_kindTo' c_side' c_across' c_down' c_count' c_flats' c_crowded' c_kinds' c_first' c_second' c_pairs' c_pairsWith' c_voted' c_ways' c_shcount' c_numberOfWay' c_list' c_fcount' c_regions' c_left' c_open' c_frows' c_fshift' c_fdx' c_fdy' c_fleastPlace' c_fpairs' c_foffset' c_fplacesFirst' c_fplaces' ∧ MAll w h g st om' m_squares' m_square' m_dark' m_light' m_like' m_isCrowded' m_pairs' m_first' m_second' m_votes' m_shifts m_shiftX m_shiftY m_regionAt m_regions m_regionShift m_regionPairs m_regionFirst m_findings m_regionOf m_offset m_begun m_held m_isIn m_numbered := by
    intro r z7 z8
    exact ⟨r, rc', om', _, _, _, _, _, _, _, _, _, _, _, _, _, _, _, _, _, _, _, _, _, _, _, _, _, _, _, _, _, _, _, _, _, _, _, _, _, _, _, _, _, _, _, _, _, _, _, _, _, _, z7, z8, hS', hM'⟩
  by_cases c : ∃ i, i < (prL w h g st).length ∧ x1 = nI i
  · obtain ⟨i, hi, ei⟩ := c
    have hm := prL_mem.mp (getD_mem (z := (0, 0)) hi)
    have hb := prL_b hC.o hC.w hC.h _ (getD_mem (z := (0, 0)) hi)
    have y1 : c_first' i = nI (qP w st ((prL w h g st).getD i (0, 0)).1) := p1 i hi
    have y2 : c_second' i = nI (qP w st ((prL w h g st).getD i (0, 0)).2) := p2 i hi
    have y3 : m_first' i = nI ((prL w h g st).getD i (0, 0)).1 := l2.2.2.1 i hi
    have y4 : m_second' i = nI ((prL w h g st).getD i (0, 0)).2 := l2.2.2.2.1 i hi
    generalize (prL w h g st).getD i (0, 0) = e at *
    have y5 := (l1.2.1 e.1 (by omega)).1
    have y6 := (l1.2.1 e.2 (by omega)).1
    by_cases c0 : x2 = 0
    · refine b7 (nI (qP w st e.1)) ?_ ?_
      · unfold f_X7_pair
        rw [e7, bd40_s, p3, wi_eq, wi_cn (by omega) hi ei, bd1_s, if_neg (by decide), if_pos c0, ei, rd_ok (by omega) (by omega), y1]
      · unfold f_X8_pair
        rw [e8, bd11_s, l2.2.1, wi_cn (by omega) hi ei, bd1_s, if_neg (by decide), if_pos c0, ei, rd_ok (by omega) (by omega), y3, rd_ok (by omega) (by omega), y5]
    · by_cases c1 : x2 = 1
      · refine b7 (nI (qP w st e.2)) ?_ ?_
        · unfold f_X7_pair
          rw [e7, bd40_s, p3, wi_eq, wi_cn (by omega) hi ei, bd1_s, if_neg (by decide), if_neg c0, if_pos c1, ei, rd_ok (by omega) (by omega), y2]
        · unfold f_X8_pair
          rw [e8, bd11_s, l2.2.1, wi_cn (by omega) hi ei, bd1_s, if_neg (by decide), if_neg c0, if_pos c1, ei, rd_ok (by omega) (by omega), y4, rd_ok (by omega) (by omega), y6]
      · refine b7 (-2) ?_ ?_
        · unfold f_X7_pair
          rw [e7, bd40_s, p3, wi_eq, wi_cn (by omega) hi ei, bd1_s, if_neg (by decide), if_neg c0, if_neg c1]
        · unfold f_X8_pair
          rw [e8, bd11_s, l2.2.1, wi_cn (by omega) hi ei, bd1_s, if_neg (by decide), if_neg c0, if_neg c1]
  · have hn : ∀ i, i < (prL w h g st).length → x1 ≠ nI i := fun i hi z => c ⟨i, hi, z⟩
    refine b7 (-1) ?_ ?_
    · unfold f_X7_pair
      rw [e7, bd40_s, p3, wi_eq, wi_cf (by omega) hn, bd1_s, if_pos rfl]
    · unfold f_X8_pair
      rw [e8, bd11_s, l2.2.1, wi_cf (by omega) hn, bd1_s, if_pos rfl]
/-! votes -/
theorem in15 : ∀ a, a < 31 → ¬ nI a - 15 < -15 ∧ ¬ (15 : Int32) < nI a - 15 := by decide +kernel
theorem wi15_t {FU a : Nat} {x : Int32} (ha : a < 31) (e : x = nI a - 15) : f_X8_within FU x (-15) 15 = some 1 := by
  rw [e]
  exact wi_t (in15 a ha).1 (in15 a ha).2
theorem wi15_f {FU : Nat} {x : Int32} (h : ∀ a, a < 31 → x ≠ nI a - 15) : f_X8_within FU x (-15) 15 = some 0 := by
  refine wi_f (Classical.byContradiction (fun z => ?_))
  have z1 : ¬ x < -15 := fun y => z (Or.inl y)
  have z2 : ¬ (15 : Int32) < x := fun y => z (Or.inr y)
  rw [i_lt, show (-15 : Int32).toInt = -15 by decide] at z1
  rw [i_lt, show (15 : Int32).toInt = 15 by decide] at z2
  have e15 : (15 : Int32).toInt = 15 := by decide
  have e1 : (x + 15).toInt = x.toInt + 15 := by rw [i_add, e15] <;> rw [e15] <;> omega
  obtain ⟨n, hn, e2, e3⟩ := i_nat (x := x + 15) (by omega)
  refine h n (by omega) ?_
  rw [← e2, Int32.add_sub_cancel]
theorem j_votes {w h rc om : Nat} {g st : Nat → Nat} {c_greys c_settings m_grey m_setting : Nat → Int32} {c_reached : Int32} {c_order : Nat → Int32} {c_merged : Nat → Int32} {c_least : Nat → Int32} {c_greatest : Nat → Int32} {c_role : Nat → Int32} {c_head : Nat → Int64} {c_tail : Nat → Int64} {c_rank : Nat → Int32} {c_kindFrom : Nat → Int32} {c_kindTo : Nat → Int32} {c_side : Int32} {c_across : Int32} {c_down : Int32} {c_count : Int32} {c_flats : Int32} {c_crowded : Int32} {c_kinds : Int32} {c_first : Nat → Int32} {c_second : Nat → Int32} {c_pairs : Int32} {c_pairsWith : Nat → Int32} {c_voted : Nat → Int32} {c_ways : Nat → Int32} {c_shcount : Int32} {c_numberOfWay : Nat → Int32} {c_list : Nat → Nat} {c_fcount : Int32} {c_regions : Nat → Int32} {c_left : Nat → Nat → Int32} {c_open : Nat → Int32} {c_frows : Nat → Nat → Int32} {c_fshift : Nat → Int32} {c_fdx : Nat → Int32} {c_fdy : Nat → Int32} {c_fleastPlace : Nat → Int32} {c_fpairs : Nat → Int32} {c_foffset : Nat → Int32} {c_fplacesFirst : Nat → Int32} {c_fplaces : Nat → Int32} {m_squares : Int32} {m_square : Nat → Int32} {m_dark : Nat → Int32} {m_light : Nat → Int32} {m_like : Nat → Int32} {m_isCrowded : Nat → Int32} {m_pairs : Int32} {m_first : Nat → Int32} {m_second : Nat → Int32} {m_votes : Nat → Int32} {m_shifts : Int32} {m_shiftX : Nat → Int32} {m_shiftY : Nat → Int32} {m_regionAt : Nat → Int32} {m_regions : Int32} {m_regionShift : Nat → Int32} {m_regionPairs : Nat → Int32} {m_regionFirst : Nat → Int32} {m_findings : Int32} {m_regionOf : Nat → Int32} {m_offset : Nat → Int32} {m_begun : Nat → Int32} {m_held : Nat → Int32} {m_isIn : Nat → Int32} {m_numbered : Nat → Int32} (hC : Cor w h g st c_greys c_settings) (hD : Cor w h g st m_grey m_setting) (hS : CSv w h g st rc c_reached c_order c_merged c_least c_greatest c_role c_head c_tail c_rank c_kindFrom c_kindTo c_side c_across c_down c_count c_flats c_crowded c_kinds c_first c_second c_pairs c_pairsWith c_voted c_ways c_shcount c_numberOfWay c_list c_fcount c_regions c_left c_open c_frows c_fshift c_fdx c_fdy c_fleastPlace c_fpairs c_foffset c_fplacesFirst c_fplaces) (hM : MAll w h g st om m_squares m_square m_dark m_light m_like m_isCrowded m_pairs m_first m_second m_votes m_shifts m_shiftX m_shiftY m_regionAt m_regions m_regionShift m_regionPairs m_regionFirst m_findings m_regionOf m_offset m_begun m_held m_isIn m_numbered) (x1 x2 : Int32) : ∃ (r : Int32) (rc' om' : Nat) (c_reached' : Int32) (c_order' : Nat → Int32) (c_merged' : Nat → Int32) (c_least' : Nat → Int32) (c_greatest' : Nat → Int32) (c_role' : Nat → Int32) (c_head' : Nat → Int64) (c_tail' : Nat → Int64) (c_rank' : Nat → Int32) (c_kindFrom' : Nat → Int32) (c_kindTo' : Nat → Int32) (c_side' : Int32) (c_across' : Int32) (c_down' : Int32) (c_count' : Int32) (c_flats' : Int32) (c_crowded' : Int32) (c_kinds' : Int32) (c_first' : Nat → Int32) (c_second' : Nat → Int32) (c_pairs' : Int32) (c_pairsWith' : Nat → Int32) (c_voted' : Nat → Int32) (c_ways' : Nat → Int32) (c_shcount' : Int32) (c_numberOfWay' : Nat → Int32) (c_list' : Nat → Nat) (c_fcount' : Int32) (c_regions' : Nat → Int32) (c_left' : Nat → Nat → Int32) (c_open' : Nat → Int32) (c_frows' : Nat → Nat → Int32) (c_fshift' : Nat → Int32) (c_fdx' : Nat → Int32) (c_fdy' : Nat → Int32) (c_fleastPlace' : Nat → Int32) (c_fpairs' : Nat → Int32) (c_foffset' : Nat → Int32) (c_fplacesFirst' : Nat → Int32) (c_fplaces' : Nat → Int32) (m_squares' : Int32) (m_square' : Nat → Int32) (m_dark' : Nat → Int32) (m_light' : Nat → Int32) (m_like' : Nat → Int32) (m_isCrowded' : Nat → Int32) (m_pairs' : Int32) (m_first' : Nat → Int32) (m_second' : Nat → Int32) (m_votes' : Nat → Int32), f_X7_votes FU c_greys (nI w) (nI h) c_settings c_reached c_order c_merged c_least c_greatest c_role c_head c_tail c_rank c_kindFrom c_kindTo c_side c_across c_down c_count c_flats c_crowded c_kinds c_first c_second c_pairs c_pairsWith c_voted c_ways c_shcount c_numberOfWay c_list c_fcount c_regions c_left c_open c_frows c_fshift c_fdx c_fdy c_fleastPlace c_fpairs c_foffset c_fplacesFirst c_fplaces x1 x2 = some (r, c_reached', c_order', c_merged', c_least', c_greatest', c_role', c_head', c_tail', c_rank', c_kindFrom', c_kindTo', c_side', c_across', c_down', c_count', c_flats', c_crowded', c_kinds', c_first', c_second', c_pairs', c_pairsWith', c_voted', c_ways', c_shcount', c_numberOfWay', c_list', c_fcount', c_regions', c_left', c_open', c_frows', c_fshift', c_fdx', c_fdy', c_fleastPlace', c_fpairs', c_foffset', c_fplacesFirst', c_fplaces') ∧ f_X8_votes FU (nI om) (nI w) (nI h) m_grey m_setting m_squares m_square m_dark m_light m_like m_isCrowded m_pairs m_first m_second m_votes x1 x2 = some (r, nI om', m_squares', m_square', m_dark', m_light', m_like', m_isCrowded', m_pairs', m_first', m_second', m_votes') ∧ CSv w h g st rc' c_reached' c_order' c_merged' c_least' c_greatest' c_role' c_head' c_tail' c_rank' c_kindFrom' c_kindTo' c_side' c_across' c_down' c_count' c_flats' c_crowded' c_kinds' c_first' c_second' c_pairs' c_pairsWith' c_voted' c_ways' c_shcount' c_numberOfWay' c_list' c_fcount' c_regions' c_left' c_open' c_frows' c_fshift' c_fdx' c_fdy' c_fleastPlace' c_fpairs' c_foffset' c_fplacesFirst' c_fplaces' ∧ MAll w h g st om' m_squares' m_square' m_dark' m_light' m_like' m_isCrowded' m_pairs' m_first' m_second' m_votes' m_shifts m_shiftX m_shiftY m_regionAt m_regions m_regionShift m_regionPairs m_regionFirst m_findings m_regionOf m_offset m_begun m_held m_isIn m_numbered := by
  by_cases c1 : ∃ a, a < 31 ∧ x1 = nI a - 15
  · obtain ⟨a, ha, ea⟩ := c1
    by_cases c2 : ∃ n, InR x2 0 15 n
    · obtain ⟨d, hd⟩ := c2
      have w2 : f_X8_within FU x2 0 15 = some 1 := wi_in (a := 0) (b := 15) (by omega) hd
      have hd2 := hd.2.1
      obtain ⟨rc', c_reached', c_order', c_merged', c_least', c_greatest', c_role', c_head', c_tail', c_rank', c_kindFrom', c_kindTo', c_side', c_across', c_down', c_count', c_flats', c_crowded', c_kinds', c_first', c_second', c_pairs', c_pairsWith', c_voted', c_ways', c_shcount', c_numberOfWay', c_list', c_fcount', c_regions', c_left', c_open', c_frows', c_fshift', c_fdx', c_fdy', c_fleastPlace', c_fpairs', c_foffset', c_fplacesFirst', c_fplaces', e7, r7, hS'⟩ := c_reach2 hC hS
      obtain ⟨om', m_squares', m_square', m_dark', m_light', m_like', m_isCrowded', m_pairs', m_first', m_second', m_votes', e8, r8, hM'⟩ := ma2 hD hM
      have l2 := hM'.2.2.1 r8
      obtain ⟨⟨p1, p2, p3, p4, p5⟩, _⟩ := hS'.2.2.2.2.1 r7
      refine ⟨nI (vtL w st (prL w h g st) a d), rc', om', _, _, _, _, _, _, _, _, _, _, _, _, _, _, _, _, _, _, _, _, _, _, _, _, _, _, _, _, _, _, _, _, _, _, _, _, _, _, _, _, _, _, _, _, _, _, _, _, _, _, ?_, ?_, hS', hM'⟩
      · unfold f_X7_votes f_X7_wayOf
        rw [wi_eq, wi15_t ha ea, bd1_s, if_neg (by decide), wi_eq, w2, bd1_s, if_neg (by decide), e7, bd40_s, bd1_s, ea, hd.2.2, Int32.add_assoc, (s15b a (by omega)).2.1, show (31 : Int32) = nI 31 from rfl, pk_mul, nI_add, rd_ok (by omega) (by omega), p5 a d ha (by omega)]
      · unfold f_X8_votes
        rw [wi15_t ha ea, bd1_s, if_neg (by decide), w2, bd1_s, if_neg (by decide), e8, bd11_s, ea, hd.2.2, m_voteAt ha, bd1_s, rd_ok (by omega) (by omega), l2.2.2.2.2 a d ha (by omega)]
    · have w2 : f_X8_within FU x2 0 15 = some 0 := wi_out (a := 0) (b := 15) (by omega) (by omega) (fun n hn => c2 ⟨n, hn⟩)
      refine ⟨-2, rc, om, _, _, _, _, _, _, _, _, _, _, _, _, _, _, _, _, _, _, _, _, _, _, _, _, _, _, _, _, _, _, _, _, _, _, _, _, _, _, _, _, _, _, _, _, _, _, _, _, _, _, ?_, ?_, hS, hM⟩
      · unfold f_X7_votes
        rw [wi_eq, wi15_t ha ea, bd1_s, if_neg (by decide), wi_eq, w2, bd1_s, if_pos rfl]
      · unfold f_X8_votes
        rw [wi15_t ha ea, bd1_s, if_neg (by decide), w2, bd1_s, if_pos rfl]
  · have hn : ∀ a, a < 31 → x1 ≠ nI a - 15 := fun a ha z => c1 ⟨a, ha, z⟩
    refine ⟨-2, rc, om, _, _, _, _, _, _, _, _, _, _, _, _, _, _, _, _, _, _, _, _, _, _, _, _, _, _, _, _, _, _, _, _, _, _, _, _, _, _, _, _, _, _, _, _, _, _, _, _, _, _, ?_, ?_, hS, hM⟩
    · unfold f_X7_votes
      rw [wi_eq, wi15_f hn, bd1_s, if_pos rfl]
    · unfold f_X8_votes
      rw [wi15_f hn, bd1_s, if_pos rfl]
/-! shift -/
theorem rgI_ct {W : Nat → Nat → Prop} {k j n : Nat} : (rgI W j n).countP (fun e => decide (e.1 = k)) = if j = k then (rgI W j n).length else 0 := by
  by_cases e : j = k
  · rw [if_pos e, List.countP_eq_length]
    intro x hx
    have := ((rgI_mem _).mp hx).1
    simp only [decide_eq_true_eq]
    omega
  · rw [if_neg e, List.countP_eq_zero]
    intro x hx
    have := ((rgI_mem _).mp hx).1
    simp only [decide_eq_true_eq]
    omega
theorem rgO_ct {W : Nat → Nat → Prop} {k : Nat} : ∀ (n : Nat), (rgO W n).countP (fun e => decide (e.1 = k)) = if k < n then (rgI W k 256).length else 0
  | 0 => by simp [rgO]
  | n + 1 => by
    rw [rgO_s, List.countP_append, rgO_ct n, rgI_ct]
    by_cases e : n = k
    · subst e
      rw [if_neg (Nat.lt_irrefl _), if_pos rfl, if_pos (Nat.lt_succ_self _), Nat.zero_add]
    · rw [if_neg e, Nat.add_zero]
      by_cases e2 : k < n
      · rw [if_pos e2, if_pos (by omega)]
      · rw [if_neg e2, if_neg (by omega)]
theorem m_sh25 {k : Nat} {L : List (Nat × Nat)} {c : Nat → Int32} {kk : _} {P : _} (hL : L.length ≤ 1024) (hk8 : k < 8) (hb : ∀ e, e ∈ L → e.1 < 8) (h1 : RLs (0, 0) (fun e => e.1) L c) :
    ∀ (d i fuel : Nat), i + d = L.length → d < fuel → (∀ z : Int32, Rt (kk (nI (L.countP (fun e => decide (e.1 = k)))) z) P) → Rt (f_X8_shift_L25 FU (nI k) (nI L.length) c kk fuel (nI ((L.take i).countP (fun e => decide (e.1 = k)))) (nI i)) P := by
  intro d
  induction d with
  | zero =>
    intro i fuel e1 e2 hk
    obtain ⟨f, rfl⟩ : ∃ f, fuel = f + 1 := ⟨fuel - 1, by omega⟩
    have ei : i = L.length := by omega
    subst ei
    rw [f_X8_shift_L25, List.take_length]
    exact rt_t (by rw [n_le (by omega) (by omega)]; omega) (hk _)
  | succ d ih =>
    intro i fuel e1 e2 hk
    obtain ⟨f, rfl⟩ : ∃ f, fuel = f + 1 := ⟨fuel - 1, by omega⟩
    have hil : i < L.length := by omega
    have eg : L.getD i (0, 0) = L[i] := by rw [List.getD_eq_getElem?_getD, List.getElem?_eq_getElem hil]; rfl
    have m := hb L[i] (List.getElem_mem hil)
    have key := ih (i + 1) f (by omega) (by omega) hk
    rw [List.take_succ_eq_append_getElem hil, List.countP_append, List.countP_singleton, ← nI_add] at key
    have y : c i = nI L[i].1 := by rw [← eg]; exact h1 i hil
    rw [f_X8_shift_L25]
    refine rt_f (by rw [n_le (by omega) (by omega)]; omega) ?_
    rw [rd_ok (by omega) (by omega), y]
    refine rt_jn ?_
    dsimp only
    rw [show nI i + (1 : Int32) = nI (i + 1) from nI_add i 1]
    refine rt_if (fun c => ?_) (fun c => ?_)
    · rw [n_inj (by omega) (by omega)] at c
      rw [if_pos (by simp only [decide_eq_true_eq]; exact c)] at key
      exact key
    · rw [n_inj (by omega) (by omega)] at c
      rw [if_neg (by simp only [decide_eq_true_eq]; exact c)] at key
      exact key
theorem j_shift {w h rc om : Nat} {g st : Nat → Nat} {c_greys c_settings m_grey m_setting : Nat → Int32} {c_reached : Int32} {c_order : Nat → Int32} {c_merged : Nat → Int32} {c_least : Nat → Int32} {c_greatest : Nat → Int32} {c_role : Nat → Int32} {c_head : Nat → Int64} {c_tail : Nat → Int64} {c_rank : Nat → Int32} {c_kindFrom : Nat → Int32} {c_kindTo : Nat → Int32} {c_side : Int32} {c_across : Int32} {c_down : Int32} {c_count : Int32} {c_flats : Int32} {c_crowded : Int32} {c_kinds : Int32} {c_first : Nat → Int32} {c_second : Nat → Int32} {c_pairs : Int32} {c_pairsWith : Nat → Int32} {c_voted : Nat → Int32} {c_ways : Nat → Int32} {c_shcount : Int32} {c_numberOfWay : Nat → Int32} {c_list : Nat → Nat} {c_fcount : Int32} {c_regions : Nat → Int32} {c_left : Nat → Nat → Int32} {c_open : Nat → Int32} {c_frows : Nat → Nat → Int32} {c_fshift : Nat → Int32} {c_fdx : Nat → Int32} {c_fdy : Nat → Int32} {c_fleastPlace : Nat → Int32} {c_fpairs : Nat → Int32} {c_foffset : Nat → Int32} {c_fplacesFirst : Nat → Int32} {c_fplaces : Nat → Int32} {m_squares : Int32} {m_square : Nat → Int32} {m_dark : Nat → Int32} {m_light : Nat → Int32} {m_like : Nat → Int32} {m_isCrowded : Nat → Int32} {m_pairs : Int32} {m_first : Nat → Int32} {m_second : Nat → Int32} {m_votes : Nat → Int32} {m_shifts : Int32} {m_shiftX : Nat → Int32} {m_shiftY : Nat → Int32} {m_regionAt : Nat → Int32} {m_regions : Int32} {m_regionShift : Nat → Int32} {m_regionPairs : Nat → Int32} {m_regionFirst : Nat → Int32} {m_findings : Int32} {m_regionOf : Nat → Int32} {m_offset : Nat → Int32} {m_begun : Nat → Int32} {m_held : Nat → Int32} {m_isIn : Nat → Int32} {m_numbered : Nat → Int32} (hC : Cor w h g st c_greys c_settings) (hD : Cor w h g st m_grey m_setting) (hS : CSv w h g st rc c_reached c_order c_merged c_least c_greatest c_role c_head c_tail c_rank c_kindFrom c_kindTo c_side c_across c_down c_count c_flats c_crowded c_kinds c_first c_second c_pairs c_pairsWith c_voted c_ways c_shcount c_numberOfWay c_list c_fcount c_regions c_left c_open c_frows c_fshift c_fdx c_fdy c_fleastPlace c_fpairs c_foffset c_fplacesFirst c_fplaces) (hM : MAll w h g st om m_squares m_square m_dark m_light m_like m_isCrowded m_pairs m_first m_second m_votes m_shifts m_shiftX m_shiftY m_regionAt m_regions m_regionShift m_regionPairs m_regionFirst m_findings m_regionOf m_offset m_begun m_held m_isIn m_numbered) (x1 x2 : Int32) : ∃ (r : Int32) (rc' om' : Nat) (c_reached' : Int32) (c_order' : Nat → Int32) (c_merged' : Nat → Int32) (c_least' : Nat → Int32) (c_greatest' : Nat → Int32) (c_role' : Nat → Int32) (c_head' : Nat → Int64) (c_tail' : Nat → Int64) (c_rank' : Nat → Int32) (c_kindFrom' : Nat → Int32) (c_kindTo' : Nat → Int32) (c_side' : Int32) (c_across' : Int32) (c_down' : Int32) (c_count' : Int32) (c_flats' : Int32) (c_crowded' : Int32) (c_kinds' : Int32) (c_first' : Nat → Int32) (c_second' : Nat → Int32) (c_pairs' : Int32) (c_pairsWith' : Nat → Int32) (c_voted' : Nat → Int32) (c_ways' : Nat → Int32) (c_shcount' : Int32) (c_numberOfWay' : Nat → Int32) (c_list' : Nat → Nat) (c_fcount' : Int32) (c_regions' : Nat → Int32) (c_left' : Nat → Nat → Int32) (c_open' : Nat → Int32) (c_frows' : Nat → Nat → Int32) (c_fshift' : Nat → Int32) (c_fdx' : Nat → Int32) (c_fdy' : Nat → Int32) (c_fleastPlace' : Nat → Int32) (c_fpairs' : Nat → Int32) (c_foffset' : Nat → Int32) (c_fplacesFirst' : Nat → Int32) (c_fplaces' : Nat → Int32) (m_squares' : Int32) (m_square' : Nat → Int32) (m_dark' : Nat → Int32) (m_light' : Nat → Int32) (m_like' : Nat → Int32) (m_isCrowded' : Nat → Int32) (m_pairs' : Int32) (m_first' : Nat → Int32) (m_second' : Nat → Int32) (m_votes' : Nat → Int32) (m_shifts' : Int32) (m_shiftX' : Nat → Int32) (m_shiftY' : Nat → Int32) (m_regionAt' : Nat → Int32) (m_regions' : Int32) (m_regionShift' : Nat → Int32) (m_regionPairs' : Nat → Int32) (m_regionFirst' : Nat → Int32), f_X7_shift FU c_greys (nI w) (nI h) c_settings c_reached c_order c_merged c_least c_greatest c_role c_head c_tail c_rank c_kindFrom c_kindTo c_side c_across c_down c_count c_flats c_crowded c_kinds c_first c_second c_pairs c_pairsWith c_voted c_ways c_shcount c_numberOfWay c_list c_fcount c_regions c_left c_open c_frows c_fshift c_fdx c_fdy c_fleastPlace c_fpairs c_foffset c_fplacesFirst c_fplaces x1 x2 = some (r, c_reached', c_order', c_merged', c_least', c_greatest', c_role', c_head', c_tail', c_rank', c_kindFrom', c_kindTo', c_side', c_across', c_down', c_count', c_flats', c_crowded', c_kinds', c_first', c_second', c_pairs', c_pairsWith', c_voted', c_ways', c_shcount', c_numberOfWay', c_list', c_fcount', c_regions', c_left', c_open', c_frows', c_fshift', c_fdx', c_fdy', c_fleastPlace', c_fpairs', c_foffset', c_fplacesFirst', c_fplaces') ∧ f_X8_shift FU (nI om) (nI w) (nI h) m_grey m_setting m_squares m_square m_dark m_light m_like m_isCrowded m_pairs m_first m_second m_votes m_shifts m_shiftX m_shiftY m_regionAt m_regions m_regionShift m_regionPairs m_regionFirst x1 x2 = some (r, nI om', m_squares', m_square', m_dark', m_light', m_like', m_isCrowded', m_pairs', m_first', m_second', m_votes', m_shifts', m_shiftX', m_shiftY', m_regionAt', m_regions', m_regionShift', m_regionPairs', m_regionFirst') ∧ CSv w h g st rc' c_reached' c_order' c_merged' c_least' c_greatest' c_role' c_head' c_tail' c_rank' c_kindFrom' c_kindTo' c_side' c_across' c_down' c_count' c_flats' c_crowded' c_kinds' c_first' c_second' c_pairs' c_pairsWith' c_voted' c_ways' c_shcount' c_numberOfWay' c_list' c_fcount' c_regions' c_left' c_open' c_frows' c_fshift' c_fdx' c_fdy' c_fleastPlace' c_fpairs' c_foffset' c_fplacesFirst' c_fplaces' ∧ MAll w h g st om' m_squares' m_square' m_dark' m_light' m_like' m_isCrowded' m_pairs' m_first' m_second' m_votes' m_shifts' m_shiftX' m_shiftY' m_regionAt' m_regions' m_regionShift' m_regionPairs' m_regionFirst' m_findings m_regionOf m_offset m_begun m_held m_isIn m_numbered := by
  have h21 := pr_2137 (w := w) (h := h) (g := g) hC.o hC.w hC.h
  obtain ⟨rc', c_reached', c_order', c_merged', c_least', c_greatest', c_role', c_head', c_tail', c_rank', c_kindFrom', c_kindTo', c_side', c_across', c_down', c_count', c_flats', c_crowded', c_kinds', c_first', c_second', c_pairs', c_pairsWith', c_voted', c_ways', c_shcount', c_numberOfWay', c_list', c_fcount', c_regions', c_left', c_open', c_frows', c_fshift', c_fdx', c_fdy', c_fleastPlace', c_fpairs', c_foffset', c_fplacesFirst', c_fplaces', e7, r7, hS'⟩ := c_reach2 hC hS
  obtain ⟨om', m_squares', m_square', m_dark', m_light', m_like', m_isCrowded', m_pairs', m_first', m_second', m_votes', m_shifts', m_shiftX', m_shiftY', m_regionAt', m_regions', m_regionShift', m_regionPairs', m_regionFirst', e8, r8, hM'⟩ := ma4 hD hM
  have l2 := hM'.2.2.1 (by omega)
  have l4 := hM'.2.2.2.2.1 r8
  obtain ⟨hs, l31, l32⟩ := (hM'.2.2.2.1 (by omega)).can
  obtain ⟨⟨p1, p2, p3, p4, p5⟩, _, t1, t2, t3, t4⟩ := (hS'.2.2.2.2.1 r7).can
  have hK := hs.K8
  have h1024 := zRL_1024 hs
  have b7 : ∀ (r : Int32), f_X7_shift FU c_greys (nI w) (nI h) c_settings c_reached c_order c_merged c_least c_greatest c_role c_head c_tail c_rank c_kindFrom c_kindTo c_side c_across c_down c_count c_flats c_crowded c_kinds c_first c_second c_pairs c_pairsWith c_voted c_ways c_shcount c_numberOfWay c_list c_fcount c_regions c_left c_open c_frows c_fshift c_fdx c_fdy c_fleastPlace c_fpairs c_foffset c_fplacesFirst c_fplaces x1 x2 = some (r, c_reached', c_order', c_merged', c_least', c_greatest', c_role', c_head', c_tail', c_rank', c_kindFrom', c_kindTo', c_side', c_across', c_down', c_count', c_flats', c_crowded', c_kinds', c_first', c_second', c_pairs', c_pairsWith', c_voted', c_ways', c_shcount', c_numberOfWay', c_list', c_fcount', c_regions', c_left', c_open', c_frows', c_fshift', c_fdx', c_fdy', c_fleastPlace', c_fpairs', c_foffset', c_fplacesFirst', c_fplaces') → f_X8_shift FU (nI om) (nI w) (nI h) m_grey m_setting m_squares m_square m_dark m_light m_like m_isCrowded m_pairs m_first m_second m_votes m_shifts m_shiftX m_shiftY m_regionAt m_regions m_regionShift m_regionPairs m_regionFirst x1 x2 = some (r, nI om', m_squares', m_square', m_dark', m_light', m_like', m_isCrowded', m_pairs', m_first', m_second', m_votes', m_shifts', m_shiftX', m_shiftY', m_regionAt', m_regions', m_regionShift', m_regionPairs', m_regionFirst') → ∃ (r : Int32) (rc' om' : Nat) (c_reached' : Int32) (c_order' : Nat → Int32) (c_merged' : Nat → Int32) (c_least' : Nat → Int32) (c_greatest' : Nat → Int32) (c_role' : Nat → Int32) (c_head' : Nat → Int64) (c_tail' : Nat → Int64) (c_rank' : Nat → Int32) (c_kindFrom' : Nat → Int32) (c_kindTo' : Nat → Int32) (c_side' : Int32) (c_across' : Int32) (c_down' : Int32) (c_count' : Int32) (c_flats' : Int32) (c_crowded' : Int32) (c_kinds' : Int32) (c_first' : Nat → Int32) (c_second' : Nat → Int32) (c_pairs' : Int32) (c_pairsWith' : Nat → Int32) (c_voted' : Nat → Int32) (c_ways' : Nat → Int32) (c_shcount' : Int32) (c_numberOfWay' : Nat → Int32) (c_list' : Nat → Nat) (c_fcount' : Int32) (c_regions' : Nat → Int32) (c_left' : Nat → Nat → Int32) (c_open' : Nat → Int32) (c_frows' : Nat → Nat → Int32) (c_fshift' : Nat → Int32) (c_fdx' : Nat → Int32) (c_fdy' : Nat → Int32) (c_fleastPlace' : Nat → Int32) (c_fpairs' : Nat → Int32) (c_foffset' : Nat → Int32) (c_fplacesFirst' : Nat → Int32) (c_fplaces' : Nat → Int32) (m_squares' : Int32) (m_square' : Nat → Int32) (m_dark' : Nat → Int32) (m_light' : Nat → Int32) (m_like' : Nat → Int32) (m_isCrowded' : Nat → Int32) (m_pairs' : Int32) (m_first' : Nat → Int32) (m_second' : Nat → Int32) (m_votes' : Nat → Int32) (m_shifts' : Int32) (m_shiftX' : Nat → Int32) (m_shiftY' : Nat → Int32) (m_regionAt' : Nat → Int32) (m_regions' : Int32) (m_regionShift' : Nat → Int32) (m_regionPairs' : Nat → Int32) (m_regionFirst' : Nat → Int32), f_X7_shift FU c_greys (nI w) (nI h) c_settings c_reached c_order c_merged c_least c_greatest c_role c_head c_tail c_rank c_kindFrom c_kindTo c_side c_across c_down c_count c_flats c_crowded c_kinds c_first c_second c_pairs c_pairsWith c_voted c_ways c_shcount c_numberOfWay c_list c_fcount c_regions c_left c_open c_frows c_fshift c_fdx c_fdy c_fleastPlace c_fpairs c_foffset c_fplacesFirst c_fplaces x1 x2 = some (r, c_reached', c_order', c_merged', c_least', c_greatest', c_role', c_head', c_tail', c_rank', c_kindFrom', c_kindTo', c_side', c_across', c_down', c_count', c_flats', c_crowded', c_kinds', c_first', c_second', c_pairs', c_pairsWith', c_voted', c_ways', c_shcount', c_numberOfWay', c_list', c_fcount', c_regions', c_left', c_open', c_frows', c_fshift', c_fdx', c_fdy', c_fleastPlace', c_fpairs', c_foffset', c_fplacesFirst', c_fplaces') ∧ f_X8_shift FU (nI om) (nI w) (nI h) m_grey m_setting m_squares m_square m_dark m_light m_like m_isCrowded m_pairs m_first m_second m_votes m_shifts m_shiftX m_shiftY m_regionAt m_regions m_regionShift m_regionPairs m_regionFirst x1 x2 = some (r, nI om', m_squares', m_square', m_dark', m_light', m_like', m_isCrowded', m_pairs', m_first', m_second', m_votes', m_shifts', m_shiftX', m_shiftY', m_regionAt', m_regions', m_regionShift', m_regionPairs', m_regionFirst') ∧ CSv w h g st rc' c_reached' c_order' c_merged' c_least' c_greatest' c_role' c_head' c_tail' c_rank' c_kindFrom' c_kindTo' c_side' c_across' c_down' c_count' c_flats' c_crowded' c_kinds' c_first' c_second' c_pairs' c_pairsWith' c_voted' c_ways' c_shcount' c_numberOfWay' c_list' c_fcount' c_regions' c_left' c_open' c_frows' c_fshift' c_fdx' c_fdy' c_fleastPlace' c_fpairs' c_foffset' c_fplacesFirst' c_fplaces' ∧ MAll w h g st om' m_squares' m_square' m_dark' m_light' m_like' m_isCrowded' m_pairs' m_first' m_second' m_votes' m_shifts' m_shiftX' m_shiftY' m_regionAt' m_regions' m_regionShift' m_regionPairs' m_regionFirst' m_findings m_regionOf m_offset m_begun m_held m_isIn m_numbered := by
    intro r z7 z8
    exact ⟨r, rc', om', _, _, _, _, _, _, _, _, _, _, _, _, _, _, _, _, _, _, _, _, _, _, _, _, _, _, _, _, _, _, _, _, _, _, _, _, _, _, _, _, _, _, _, _, _, _, _, _, _, _, _, _, _, _, _, _, _, _, z7, z8, hS', hM'⟩
  by_cases c : ∃ i, i < zKn w h g st ∧ x1 = nI i
  · obtain ⟨k, hk, ek⟩ := c
    have hv := hs.T hk
    have hX := l32 k hk
    have ev := rvm_v l2.2.2.2.2 (zT w h g st k % 31) (zT w h g st k / 31) (by omega) (by omega)
    rw [show 31 * (zT w h g st k / 31) + zT w h g st k % 31 = zT w h g st k by omega] at ev
    have ecn : (zRL w h g st).countP (fun e => decide (e.1 = k)) = (rgI (zW w h g st) k 256).length := by
      unfold zRL
      rw [rgO_ct, if_pos hk]
    have hle : (rgI (zW w h g st) k 256).length ≤ 128 := rgI_128
    have b8 : ∀ (r : Int32), Rt (if x2 = 0 then rd m_shiftX' 8 x1 (fun y_27 => some ((y_27 + 100), nI om', m_squares', m_square', m_dark', m_light', m_like', m_isCrowded', m_pairs', m_first', m_second', m_votes', m_shifts', m_shiftX', m_shiftY', m_regionAt', m_regions', m_regionShift', m_regionPairs', m_regionFirst')) else if x2 = 1 then rd m_shiftY' 8 x1 (fun y_29 => some (y_29, nI om', m_squares', m_square', m_dark', m_light', m_like', m_isCrowded', m_pairs', m_first', m_second', m_votes', m_shifts', m_shiftX', m_shiftY', m_regionAt', m_regions', m_regionShift', m_regionPairs', m_regionFirst')) else if x2 = 2 then rd m_shiftX' 8 x1 (fun y_31 => rd m_shiftY' 8 x1 (fun y_32 => bd1 (f_X8_voteAt FU y_31 y_32) (fun r_33 => rd m_votes' 496 r_33 (fun y_34 => some (y_34, nI om', m_squares', m_square', m_dark', m_light', m_like', m_isCrowded', m_pairs', m_first', m_second', m_votes', m_shifts', m_shiftX', m_shiftY', m_regionAt', m_regions', m_regionShift', m_regionPairs', m_regionFirst'))))) else if x2 = 3 then some (nI (rgI (zW w h g st) k 256).length, nI om', m_squares', m_square', m_dark', m_light', m_like', m_isCrowded', m_pairs', m_first', m_second', m_votes', m_shifts', m_shiftX', m_shiftY', m_regionAt', m_regions', m_regionShift', m_regionPairs', m_regionFirst') else some ((-2), nI om', m_squares', m_square', m_dark', m_light', m_like', m_isCrowded', m_pairs', m_first', m_second', m_votes', m_shifts', m_shiftX', m_shiftY', m_regionAt', m_regions', m_regionShift', m_regionPairs', m_regionFirst')) (fun q => q = (r, nI om', m_squares', m_square', m_dark', m_light', m_like', m_isCrowded', m_pairs', m_first', m_second', m_votes', m_shifts', m_shiftX', m_shiftY', m_regionAt', m_regions', m_regionShift', m_regionPairs', m_regionFirst')) → f_X8_shift FU (nI om) (nI w) (nI h) m_grey m_setting m_squares m_square m_dark m_light m_like m_isCrowded m_pairs m_first m_second m_votes m_shifts m_shiftX m_shiftY m_regionAt m_regions m_regionShift m_regionPairs m_regionFirst x1 x2 = some (r, nI om', m_squares', m_square', m_dark', m_light', m_like', m_isCrowded', m_pairs', m_first', m_second', m_votes', m_shifts', m_shiftX', m_shiftY', m_regionAt', m_regions', m_regionShift', m_regionPairs', m_regionFirst') := by
      intro r hr
      have : Rt (f_X8_shift FU (nI om) (nI w) (nI h) m_grey m_setting m_squares m_square m_dark m_light m_like m_isCrowded m_pairs m_first m_second m_votes m_shifts m_shiftX m_shiftY m_regionAt m_regions m_regionShift m_regionPairs m_regionFirst x1 x2) (fun q => q = (r, nI om', m_squares', m_square', m_dark', m_light', m_like', m_isCrowded', m_pairs', m_first', m_second', m_votes', m_shifts', m_shiftX', m_shiftY', m_regionAt', m_regions', m_regionShift', m_regionPairs', m_regionFirst')) := by
        unfold f_X8_shift
        rw [e8, bd19_s]
        rw [show f_X8_within FU x1 0 (m_shifts' - 1) = some 1 by rw [l31]; exact wi_cn (by omega) hk ek, bd1_s]
        refine rt_f (by decide) ?_
        rw [show m_regions' = nI (zRL w h g st).length from l4.1] at hr ⊢
        rw [ek] at hr ⊢
        refine m_sh25 h1024 (by omega) (fun e he => by have := ((rgO_mem _).mp he).1; omega) l4.2.1 (zRL w h g st).length 0 FU (by omega) (by unfold FU; omega) ?_
        intro z
        rw [ecn]
        exact hr
      obtain ⟨q, e, rfl⟩ := this
      exact e
    have w7 : f_X7_isWithin FU x1 0 (c_shcount' - 1) = some 1 := by rw [t1, wi_eq]; exact wi_cn (by omega) hk ek
    by_cases c0 : x2 = 0
    · refine b7 ((nI (zT w h g st k % 31) - 15) + 100) ?_ (b8 _ ?_)
      · unfold f_X7_shift f_X7_acrossOf
        rw [e7, bd40_s, w7, bd1_s, if_neg (by decide), ek, rd_ok (by omega) (by omega), t2 k hk, if_pos c0, bd1_s, md31 (by omega)]
      · rw [if_pos c0, ek, rd_ok (by omega) (by omega), hX.1]
        exact rt_some rfl
    · by_cases c1 : x2 = 1
      · refine b7 (nI (zT w h g st k / 31)) ?_ (b8 _ ?_)
        · unfold f_X7_shift f_X7_downOf
          rw [e7, bd40_s, w7, bd1_s, if_neg (by decide), ek, rd_ok (by omega) (by omega), t2 k hk, if_neg c0, if_pos c1, bd1_s, dv31 (by omega)]
        · rw [if_neg c0, if_pos c1, ek, rd_ok (by omega) (by omega), hX.2]
          exact rt_some rfl
      · by_cases c2 : x2 = 2
        · refine b7 (nI (zV w h g st (zT w h g st k))) ?_ (b8 _ ?_)
          · unfold f_X7_shift
            rw [e7, bd40_s, w7, bd1_s, if_neg (by decide), ek, rd_ok (by omega) (by omega), t2 k hk, if_neg c0, if_neg c1, if_pos c2, rd_ok (by omega) (by omega), rvc_v p5 hv]
          · rw [if_neg c0, if_neg c1, if_pos c2, ek, rd_ok (by omega) (by omega), rd_ok (by omega) (by omega), hX.1, hX.2, m_voteAt (by omega), bd1_s, rd_ok (by omega) (by omega), ev]
            exact rt_some rfl
        · by_cases c3 : x2 = 3
          · obtain ⟨rc3, c_reached'', c_order'', c_merged'', c_least'', c_greatest'', c_role'', c_head'', c_tail'', c_rank'', c_kindFrom'', c_kindTo'', c_side'', c_across'', c_down'', c_count'', c_flats'', c_crowded'', c_kinds'', c_first'', c_second'', c_pairs'', c_pairsWith'', c_voted'', c_ways'', c_shcount'', c_numberOfWay'', c_list'', c_fcount'', c_regions'', c_left'', c_open'', c_frows'', c_fshift'', c_fdx'', c_fdy'', c_fleastPlace'', c_fpairs'', c_foffset'', c_fplacesFirst'', c_fplaces'', e73, r73, hS3⟩ := c_reach3 hC hS'
            have hfd := (hS3.2.2.2.2.2 r73).2.2.2 k hk
            refine ⟨nI (rgI (zW w h g st) k 256).length, rc3, om', _, _, _, _, _, _, _, _, _, _, _, _, _, _, _, _, _, _, _, _, _, _, _, _, _, _, _, _, _, _, _, _, _, _, _, _, _, _, _, _, _, _, _, _, _, _, _, _, _, _, _, _, _, _, _, _, _, _, ?_, b8 _ ?_, hS3, hM'⟩
            · unfold f_X7_shift
              rw [e7, bd40_s, w7, bd1_s, if_neg (by decide), ek, rd_ok (by omega) (by omega), t2 k hk, if_neg c0, if_neg c1, if_neg c2, if_pos c3, e73, bd40_s, rd_ok (by omega) (by omega), hfd]
            · rw [if_neg c0, if_neg c1, if_neg c2, if_pos c3]
              exact rt_some rfl
          · refine b7 (-2) ?_ (b8 _ ?_)
            · unfold f_X7_shift
              rw [e7, bd40_s, w7, bd1_s, if_neg (by decide), ek, rd_ok (by omega) (by omega), t2 k hk, if_neg c0, if_neg c1, if_neg c2, if_neg c3]
            · rw [if_neg c0, if_neg c1, if_neg c2, if_neg c3]
              exact rt_some rfl
  · have hn : ∀ i, i < zKn w h g st → x1 ≠ nI i := fun i hi z => c ⟨i, hi, z⟩
    refine b7 (-1) ?_ ?_
    · unfold f_X7_shift
      rw [e7, bd40_s, t1, wi_eq, wi_cf (by omega) hn, bd1_s, if_pos rfl]
    · unfold f_X8_shift
      rw [e8, bd19_s, l31, wi_cf (by omega) hn, bd1_s, if_pos rfl]
