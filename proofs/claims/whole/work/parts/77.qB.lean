/-! mark -/
theorem sq_lt {w h a b : Nat} {st : Nat → Nat} {x y : Int32} (hI : InP (qA w st) (qA h st) x y a b) : qA w st * b + a < qN w h st := by
  have := Nat.mul_le_mul_left (qA w st) hI.2.1
  have h4 := hI.1
  unfold qN
  rw [Nat.mul_succ] at this
  omega
theorem j_mark {w h rc om : Nat} {g st : Nat → Nat} {c_greys c_settings m_grey m_setting : Nat → Int32} {c_reached : Int32} {c_order : Nat → Int32} {c_merged : Nat → Int32} {c_least : Nat → Int32} {c_greatest : Nat → Int32} {c_role : Nat → Int32} {c_head : Nat → Int64} {c_tail : Nat → Int64} {c_rank : Nat → Int32} {c_kindFrom : Nat → Int32} {c_kindTo : Nat → Int32} {c_side : Int32} {c_across : Int32} {c_down : Int32} {c_count : Int32} {c_flats : Int32} {c_crowded : Int32} {c_kinds : Int32} {c_first : Nat → Int32} {c_second : Nat → Int32} {c_pairs : Int32} {c_pairsWith : Nat → Int32} {c_voted : Nat → Int32} {c_ways : Nat → Int32} {c_shcount : Int32} {c_numberOfWay : Nat → Int32} {c_list : Nat → Nat} {c_fcount : Int32} {c_regions : Nat → Int32} {c_left : Nat → Nat → Int32} {c_open : Nat → Int32} {c_frows : Nat → Nat → Int32} {c_fshift : Nat → Int32} {c_fdx : Nat → Int32} {c_fdy : Nat → Int32} {c_fleastPlace : Nat → Int32} {c_fpairs : Nat → Int32} {c_foffset : Nat → Int32} {c_fplacesFirst : Nat → Int32} {c_fplaces : Nat → Int32} {m_squares : Int32} {m_square : Nat → Int32} {m_dark : Nat → Int32} {m_light : Nat → Int32} {m_like : Nat → Int32} {m_isCrowded : Nat → Int32} {m_pairs : Int32} {m_first : Nat → Int32} {m_second : Nat → Int32} {m_votes : Nat → Int32} {m_shifts : Int32} {m_shiftX : Nat → Int32} {m_shiftY : Nat → Int32} {m_regionAt : Nat → Int32} {m_regions : Int32} {m_regionShift : Nat → Int32} {m_regionPairs : Nat → Int32} {m_regionFirst : Nat → Int32} {m_findings : Int32} {m_regionOf : Nat → Int32} {m_offset : Nat → Int32} {m_begun : Nat → Int32} {m_held : Nat → Int32} {m_isIn : Nat → Int32} {m_numbered : Nat → Int32} (hC : Cor w h g st c_greys c_settings) (hD : Cor w h g st m_grey m_setting) (hS : CSv w h g st rc c_reached c_order c_merged c_least c_greatest c_role c_head c_tail c_rank c_kindFrom c_kindTo c_side c_across c_down c_count c_flats c_crowded c_kinds c_first c_second c_pairs c_pairsWith c_voted c_ways c_shcount c_numberOfWay c_list c_fcount c_regions c_left c_open c_frows c_fshift c_fdx c_fdy c_fleastPlace c_fpairs c_foffset c_fplacesFirst c_fplaces) (hM : MAll w h g st om m_squares m_square m_dark m_light m_like m_isCrowded m_pairs m_first m_second m_votes m_shifts m_shiftX m_shiftY m_regionAt m_regions m_regionShift m_regionPairs m_regionFirst m_findings m_regionOf m_offset m_begun m_held m_isIn m_numbered) (x1 x2 : Int32) : ∃ (r : Int32) (rc' om' : Nat) (c_reached' : Int32) (c_order' : Nat → Int32) (c_merged' : Nat → Int32) (c_least' : Nat → Int32) (c_greatest' : Nat → Int32) (c_role' : Nat → Int32) (c_head' : Nat → Int64) (c_tail' : Nat → Int64) (c_rank' : Nat → Int32) (c_kindFrom' : Nat → Int32) (c_kindTo' : Nat → Int32) (c_side' : Int32) (c_across' : Int32) (c_down' : Int32) (c_count' : Int32) (c_flats' : Int32) (c_crowded' : Int32) (c_kinds' : Int32) (c_first' : Nat → Int32) (c_second' : Nat → Int32) (c_pairs' : Int32) (c_pairsWith' : Nat → Int32) (c_voted' : Nat → Int32) (c_ways' : Nat → Int32) (c_shcount' : Int32) (c_numberOfWay' : Nat → Int32) (c_list' : Nat → Nat) (c_fcount' : Int32) (c_regions' : Nat → Int32) (c_left' : Nat → Nat → Int32) (c_open' : Nat → Int32) (c_frows' : Nat → Nat → Int32) (c_fshift' : Nat → Int32) (c_fdx' : Nat → Int32) (c_fdy' : Nat → Int32) (c_fleastPlace' : Nat → Int32) (c_fpairs' : Nat → Int32) (c_foffset' : Nat → Int32) (c_fplacesFirst' : Nat → Int32) (c_fplaces' : Nat → Int32) (m_squares' : Int32) (m_square' : Nat → Int32) (m_dark' : Nat → Int32) (m_light' : Nat → Int32) (m_like' : Nat → Int32), f_X7_mark FU c_greys (nI w) (nI h) c_settings c_reached c_order c_merged c_least c_greatest c_role c_head c_tail c_rank c_kindFrom c_kindTo c_side c_across c_down c_count c_flats c_crowded c_kinds c_first c_second c_pairs c_pairsWith c_voted c_ways c_shcount c_numberOfWay c_list c_fcount c_regions c_left c_open c_frows c_fshift c_fdx c_fdy c_fleastPlace c_fpairs c_foffset c_fplacesFirst c_fplaces x1 x2 = some (r, c_reached', c_order', c_merged', c_least', c_greatest', c_role', c_head', c_tail', c_rank', c_kindFrom', c_kindTo', c_side', c_across', c_down', c_count', c_flats', c_crowded', c_kinds', c_first', c_second', c_pairs', c_pairsWith', c_voted', c_ways', c_shcount', c_numberOfWay', c_list', c_fcount', c_regions', c_left', c_open', c_frows', c_fshift', c_fdx', c_fdy', c_fleastPlace', c_fpairs', c_foffset', c_fplacesFirst', c_fplaces') ∧ f_X8_mark FU (nI om) (nI w) (nI h) m_grey m_setting m_squares m_square m_dark m_light m_like x1 x2 = some (r, nI om', m_squares', m_square', m_dark', m_light', m_like') ∧ CSv w h g st rc' c_reached' c_order' c_merged' c_least' c_greatest' c_role' c_head' c_tail' c_rank' c_kindFrom' c_kindTo' c_side' c_across' c_down' c_count' c_flats' c_crowded' c_kinds' c_first' c_second' c_pairs' c_pairsWith' c_voted' c_ways' c_shcount' c_numberOfWay' c_list' c_fcount' c_regions' c_left' c_open' c_frows' c_fshift' c_fdx' c_fdy' c_fleastPlace' c_fpairs' c_foffset' c_fplacesFirst' c_fplaces' ∧ MAll w h g st om' m_squares' m_square' m_dark' m_light' m_like' m_isCrowded m_pairs m_first m_second m_votes m_shifts m_shiftX m_shiftY m_regionAt m_regions m_regionShift m_regionPairs m_regionFirst m_findings m_regionOf m_offset m_begun m_held m_isIn m_numbered := by
  have hA := qA_15 hC.o hC.w
  have hA2 := qA_15 hC.o hC.h
  have hN := qN_225 (w := w) (h := h) hC.o hC.w hC.h
  obtain ⟨rc', c_reached', c_order', c_merged', c_least', c_greatest', c_role', c_head', c_tail', c_rank', c_kindFrom', c_kindTo', c_side', c_across', c_down', c_count', c_flats', c_crowded', c_kinds', c_first', c_second', c_pairs', c_pairsWith', c_voted', c_ways', c_shcount', c_numberOfWay', c_list', c_fcount', c_regions', c_left', c_open', c_frows', c_fshift', c_fdx', c_fdy', c_fleastPlace', c_fpairs', c_foffset', c_fplacesFirst', c_fplaces', e7, r7, hS'⟩ := c_reach1 hC hS
  obtain ⟨v, om', m_squares', m_square', m_dark', m_light', m_like', e8, r8, hM', v1, v2⟩ := m_sqAt hD hM x1 x2
  have k1 := hM'.2.1 r8
  obtain ⟨o, q1, q2, q3, q4, q5, q6, q7, q8, q9, q10, q11, q12⟩ := hS'.2.2.2.1 r7
  subst q6 q7 q8
  by_cases c : ∃ a b, InP (qA w st) (qA h st) x1 x2 a b
  · obtain ⟨a, b, hI⟩ := c
    have hs := sq_lt hI
    have ep : qP w st (qA w st * b + a) = 16 * b + a := qP_xy hI.1
    have o1 := OKp_s hC.o hC.w hC.h hs
    have o2 := qP_256 hC.o hC.w hC.h hs
    have hv := v1 a b hI
    subst hv
    refine ⟨qMk g st (qP w st (qA w st * b + a)) (qS st), rc', om', _, _, _, _, _, _, _, _, _, _, _, _, _, _, _, _, _, _, _, _, _, _, _, _, _, _, _, _, _, _, _, _, _, _, _, _, _, _, _, _, _, _, _, _, _, ?_, ?_, hS', hM'⟩
    · unfold f_X7_mark
      rw [e7, bd40_s, c_has5, has_t (by omega) (by omega) hI, bd1_s, if_neg (by decide), hI.2.2.1, hI.2.2.2, p16, ← ep, c_markOf hC.o hC.g o1 o2 (q4 _ hs).2.2.2, bd1_s]
    · unfold f_X8_mark
      rw [e8, bd7_s, if_neg (nI_nm1 (by omega)).2]
      obtain ⟨q, e, rfl⟩ := m_mk21 (kk := fun (x4_8 : Int32) (x5_9 : Int32) => some (x4_8, nI om', m_squares', m_square', m_dark', m_light', m_like')) (P := fun q => q = (qMk g st (qP w st (qA w st * b + a)) (qS st), nI om', m_squares', m_square', m_dark', m_light', m_like')) hD.2.1 hD.2.2 hD.g hD.o (by omega : qA w st * b + a < 225) (k1.2.1 _ hs).1 (k1.2.1 _ hs).2.1 o1 (qS st) 0 FU (by omega) (by have := hD.o.sq; unfold FU; omega) (fun z => rt_some rfl)
      exact e
  · have hn : ∀ a b, ¬ InP (qA w st) (qA h st) x1 x2 a b := fun a b hI => c ⟨a, b, hI⟩
    have hv := v2 hn
    subst hv
    refine ⟨0, rc', om', _, _, _, _, _, _, _, _, _, _, _, _, _, _, _, _, _, _, _, _, _, _, _, _, _, _, _, _, _, _, _, _, _, _, _, _, _, _, _, _, _, _, _, _, _, ?_, ?_, hS', hM'⟩
    · unfold f_X7_mark
      rw [e7, bd40_s, c_has5, has_f (by omega) (by omega) hn, bd1_s, if_pos rfl]
    · unfold f_X8_mark
      rw [e8, bd7_s, if_pos rfl]
/-! square -/
theorem m_sq158 {s : Nat} {L : List (Nat × Nat)} {c1 c2 : Nat → Int32} {kk : _} {P : _} (hL : L.length ≤ 2137) (hs : s < 225) (hb : ∀ e, e ∈ L → e.1 < 225 ∧ e.2 < 225) (h1 : RLs (0, 0) (fun p => p.1) L c1) (h2 : RLs (0, 0) (fun p => p.2) L c2) :
    ∀ (d k fuel : Nat), k + d = L.length → d < fuel → (∀ z : Int32, Rt (kk (nI (pwL L s)) z) P) → Rt (f_X8_square_L158 FU (nI s) (nI L.length) c1 c2 kk fuel (nI (pwL (L.take k) s)) (nI k)) P := by
  intro d
  induction d with
  | zero =>
    intro k fuel e1 e2 hk
    obtain ⟨f, rfl⟩ : ∃ f, fuel = f + 1 := ⟨fuel - 1, by omega⟩
    have ek : k = L.length := by omega
    subst ek
    rw [f_X8_square_L158, List.take_length]
    exact rt_t (by rw [n_le (by omega) (by omega)]; omega) (hk _)
  | succ d ih =>
    intro k fuel e1 e2 hk
    obtain ⟨f, rfl⟩ : ∃ f, fuel = f + 1 := ⟨fuel - 1, by omega⟩
    have hkl : k < L.length := by omega
    have eg : L.getD k (0, 0) = L[k] := by rw [List.getD_eq_getElem?_getD, List.getElem?_eq_getElem hkl]; rfl
    have m := hb L[k] (List.getElem_mem hkl)
    have key := ih (k + 1) f (by omega) (by omega) hk
    rw [List.take_succ_eq_append_getElem hkl, pw_snoc, ← nI_add] at key
    rw [f_X8_square_L158]
    refine rt_f (by rw [n_le (by omega) (by omega)]; omega) ?_
    rw [rd_ok (by omega) (by omega), h1 k hkl, eg]
    refine rt_jn ?_
    dsimp only
    rw [show nI k + (1 : Int32) = nI (k + 1) from nI_add k 1]
    refine rt_if (fun c => ?_) (fun c => ?_)
    · rw [n_inj (by omega) (by omega)] at c
      rw [if_pos (Or.inl c)] at key
      exact key
    · rw [n_inj (by omega) (by omega)] at c
      rw [rd_ok (by omega) (by omega), h2 k hkl, eg]
      dsimp only
      refine rt_if (fun c2 => ?_) (fun c2 => ?_)
      · rw [n_inj (by omega) (by omega)] at c2
        rw [if_pos (Or.inr c2)] at key
        exact key
      · rw [n_inj (by omega) (by omega)] at c2
        rw [if_neg (fun z => z.elim c c2)] at key
        exact key
theorem prL_b {w h : Nat} {g st : Nat → Nat} (ho : OKs st) (hw : w ≤ 16) (hh : h ≤ 16) : ∀ e, e ∈ prL w h g st → e.1 < 225 ∧ e.2 < 225 := by
  intro e he
  have := prL_mem.mp he
  have hN := qN_225 (w := w) (h := h) ho hw hh
  omega
/-- how many are alike -/
theorem kd_many {N i a b : Nat} {κ o : Nat → Nat} (h1 : ∀ i, i < N → o i < N) (h2 : ∀ i j, i < j → j < N → o i ≠ o j) (hK : KD N (fun i => κ (o i)) i a b) : fb_sm (fun t => if κ t = κ (o i) then (if (1 : Nat) = 1 then 1 else 0) else 0) N = b - a := by
  obtain ⟨k1, k2, k3, k4⟩ := hK
  rw [← sm_perm _ h1 h2, sm_mid (a := a) (b := b) (by omega) k3]
  · rw [fb_sm_cong (g := fun _ => 1)]
    · rw [fb_sm_const]; omega
    · intro k hk
      rw [if_pos ((k4 (a + k) (by omega)).mpr (by omega)), if_pos rfl]
  · intro j hj hn
    rw [if_neg (fun z => by have := (k4 j hj).mp z; omega)]
theorem j_square {w h rc om : Nat} {g st : Nat → Nat} {c_greys c_settings m_grey m_setting : Nat → Int32} {c_reached : Int32} {c_order : Nat → Int32} {c_merged : Nat → Int32} {c_least : Nat → Int32} {c_greatest : Nat → Int32} {c_role : Nat → Int32} {c_head : Nat → Int64} {c_tail : Nat → Int64} {c_rank : Nat → Int32} {c_kindFrom : Nat → Int32} {c_kindTo : Nat → Int32} {c_side : Int32} {c_across : Int32} {c_down : Int32} {c_count : Int32} {c_flats : Int32} {c_crowded : Int32} {c_kinds : Int32} {c_first : Nat → Int32} {c_second : Nat → Int32} {c_pairs : Int32} {c_pairsWith : Nat → Int32} {c_voted : Nat → Int32} {c_ways : Nat → Int32} {c_shcount : Int32} {c_numberOfWay : Nat → Int32} {c_list : Nat → Nat} {c_fcount : Int32} {c_regions : Nat → Int32} {c_left : Nat → Nat → Int32} {c_open : Nat → Int32} {c_frows : Nat → Nat → Int32} {c_fshift : Nat → Int32} {c_fdx : Nat → Int32} {c_fdy : Nat → Int32} {c_fleastPlace : Nat → Int32} {c_fpairs : Nat → Int32} {c_foffset : Nat → Int32} {c_fplacesFirst : Nat → Int32} {c_fplaces : Nat → Int32} {m_squares : Int32} {m_square : Nat → Int32} {m_dark : Nat → Int32} {m_light : Nat → Int32} {m_like : Nat → Int32} {m_isCrowded : Nat → Int32} {m_pairs : Int32} {m_first : Nat → Int32} {m_second : Nat → Int32} {m_votes : Nat → Int32} {m_shifts : Int32} {m_shiftX : Nat → Int32} {m_shiftY : Nat → Int32} {m_regionAt : Nat → Int32} {m_regions : Int32} {m_regionShift : Nat → Int32} {m_regionPairs : Nat → Int32} {m_regionFirst : Nat → Int32} {m_findings : Int32} {m_regionOf : Nat → Int32} {m_offset : Nat → Int32} {m_begun : Nat → Int32} {m_held : Nat → Int32} {m_isIn : Nat → Int32} {m_numbered : Nat → Int32} (hC : Cor w h g st c_greys c_settings) (hD : Cor w h g st m_grey m_setting) (hS : CSv w h g st rc c_reached c_order c_merged c_least c_greatest c_role c_head c_tail c_rank c_kindFrom c_kindTo c_side c_across c_down c_count c_flats c_crowded c_kinds c_first c_second c_pairs c_pairsWith c_voted c_ways c_shcount c_numberOfWay c_list c_fcount c_regions c_left c_open c_frows c_fshift c_fdx c_fdy c_fleastPlace c_fpairs c_foffset c_fplacesFirst c_fplaces) (hM : MAll w h g st om m_squares m_square m_dark m_light m_like m_isCrowded m_pairs m_first m_second m_votes m_shifts m_shiftX m_shiftY m_regionAt m_regions m_regionShift m_regionPairs m_regionFirst m_findings m_regionOf m_offset m_begun m_held m_isIn m_numbered) (x1 x2 x3 : Int32) : ∃ (r : Int32) (rc' om' : Nat) (c_reached' : Int32) (c_order' : Nat → Int32) (c_merged' : Nat → Int32) (c_least' : Nat → Int32) (c_greatest' : Nat → Int32) (c_role' : Nat → Int32) (c_head' : Nat → Int64) (c_tail' : Nat → Int64) (c_rank' : Nat → Int32) (c_kindFrom' : Nat → Int32) (c_kindTo' : Nat → Int32) (c_side' : Int32) (c_across' : Int32) (c_down' : Int32) (c_count' : Int32) (c_flats' : Int32) (c_crowded' : Int32) (c_kinds' : Int32) (c_first' : Nat → Int32) (c_second' : Nat → Int32) (c_pairs' : Int32) (c_pairsWith' : Nat → Int32) (c_voted' : Nat → Int32) (c_ways' : Nat → Int32) (c_shcount' : Int32) (c_numberOfWay' : Nat → Int32) (c_list' : Nat → Nat) (c_fcount' : Int32) (c_regions' : Nat → Int32) (c_left' : Nat → Nat → Int32) (c_open' : Nat → Int32) (c_frows' : Nat → Nat → Int32) (c_fshift' : Nat → Int32) (c_fdx' : Nat → Int32) (c_fdy' : Nat → Int32) (c_fleastPlace' : Nat → Int32) (c_fpairs' : Nat → Int32) (c_foffset' : Nat → Int32) (c_fplacesFirst' : Nat → Int32) (c_fplaces' : Nat → Int32) (m_squares' : Int32) (m_square' : Nat → Int32) (m_dark' : Nat → Int32) (m_light' : Nat → Int32) (m_like' : Nat → Int32) (m_isCrowded' : Nat → Int32) (m_pairs' : Int32) (m_first' : Nat → Int32) (m_second' : Nat → Int32) (m_votes' : Nat → Int32), f_X7_square FU c_greys (nI w) (nI h) c_settings c_reached c_order c_merged c_least c_greatest c_role c_head c_tail c_rank c_kindFrom c_kindTo c_side c_across c_down c_count c_flats c_crowded c_kinds c_first c_second c_pairs c_pairsWith c_voted c_ways c_shcount c_numberOfWay c_list c_fcount c_regions c_left c_open c_frows c_fshift c_fdx c_fdy c_fleastPlace c_fpairs c_foffset c_fplacesFirst c_fplaces x1 x2 x3 = some (r, c_reached', c_order', c_merged', c_least', c_greatest', c_role', c_head', c_tail', c_rank', c_kindFrom', c_kindTo', c_side', c_across', c_down', c_count', c_flats', c_crowded', c_kinds', c_first', c_second', c_pairs', c_pairsWith', c_voted', c_ways', c_shcount', c_numberOfWay', c_list', c_fcount', c_regions', c_left', c_open', c_frows', c_fshift', c_fdx', c_fdy', c_fleastPlace', c_fpairs', c_foffset', c_fplacesFirst', c_fplaces') ∧ f_X8_square FU (nI om) (nI w) (nI h) m_grey m_setting m_squares m_square m_dark m_light m_like m_isCrowded m_pairs m_first m_second m_votes x1 x2 x3 = some (r, nI om', m_squares', m_square', m_dark', m_light', m_like', m_isCrowded', m_pairs', m_first', m_second', m_votes') ∧ CSv w h g st rc' c_reached' c_order' c_merged' c_least' c_greatest' c_role' c_head' c_tail' c_rank' c_kindFrom' c_kindTo' c_side' c_across' c_down' c_count' c_flats' c_crowded' c_kinds' c_first' c_second' c_pairs' c_pairsWith' c_voted' c_ways' c_shcount' c_numberOfWay' c_list' c_fcount' c_regions' c_left' c_open' c_frows' c_fshift' c_fdx' c_fdy' c_fleastPlace' c_fpairs' c_foffset' c_fplacesFirst' c_fplaces' ∧ MAll w h g st om' m_squares' m_square' m_dark' m_light' m_like' m_isCrowded' m_pairs' m_first' m_second' m_votes' m_shifts m_shiftX m_shiftY m_regionAt m_regions m_regionShift m_regionPairs m_regionFirst m_findings m_regionOf m_offset m_begun m_held m_isIn m_numbered := by
  have hA := qA_15 hC.o hC.w
  have hA2 := qA_15 hC.o hC.h
  have hN := qN_225 (w := w) (h := h) hC.o hC.w hC.h
  have h21 := pr_2137 (w := w) (h := h) (g := g) hC.o hC.w hC.h
  obtain ⟨rc', c_reached', c_order', c_merged', c_least', c_greatest', c_role', c_head', c_tail', c_rank', c_kindFrom', c_kindTo', c_side', c_across', c_down', c_count', c_flats', c_crowded', c_kinds', c_first', c_second', c_pairs', c_pairsWith', c_voted', c_ways', c_shcount', c_numberOfWay', c_list', c_fcount', c_regions', c_left', c_open', c_frows', c_fshift', c_fdx', c_fdy', c_fleastPlace', c_fpairs', c_foffset', c_fplacesFirst', c_fplaces', e7, r7, hS'⟩ := c_reach1 hC hS
  obtain ⟨v, om', m_squares', m_square', m_dark', m_light', m_like', e8, r8, hM', v1, v2⟩ := m_sqAt hD hM x1 x2
  have k1 := hM'.2.1 r8
  obtain ⟨o, q1, q2, q3, q4, q5, q6, q7, q8, q9, q10, q11, q12⟩ := hS'.2.2.2.1 r7
  by_cases c : ∃ a b, InP (qA w st) (qA h st) x1 x2 a b
  · obtain ⟨a, b, hI⟩ := c
    have hs := sq_lt hI
    have ep : qP w st (qA w st * b + a) = 16 * b + a := qP_xy hI.1
    have o1 := OKp_s hC.o hC.w hC.h hs
    have o2 := qP_256 hC.o hC.w hC.h hs
    have hv := v1 a b hI
    subst hv
    have exy : (16 * x2) + x1 = nI (qP w st (qA w st * b + a)) := by rw [hI.2.2.1, hI.2.2.2, p16, ep]
    have i1 : f_X5_has FU c_across' c_down' x1 x2 = some 1 := by rw [q7, q8, c_has5]; exact has_t (by omega) (by omega) hI
    have n9 := (nI_nm1 (R := qA w st * b + a) (by omega)).2
    generalize qA w st * b + a = s at *
    by_cases cn : ∃ n, InR x3 10 25 n
    · obtain ⟨n, hn⟩ := cn
      have w1 : f_X8_within FU x3 10 25 = some 1 := wi_in (a := 10) (b := 25) (by omega) hn
      have e10 : x3 - 10 = nI (n - 10) := by rw [hn.2.2]; exact pk_sub (b := 10) hn.1
      have hsq := hC.o.sq
      have b1 := hn.1
      have b2 := hn.2.1
      refine ⟨(if n - 10 < qS st then nI (qNu g st (qP w st s) (n - 10)) else -9), rc', om', _, _, _, _, _, _, _, _, _, _, _, _, _, _, _, _, _, _, _, _, _, _, _, _, _, _, _, _, _, _, _, _, _, _, _, _, _, _, _, _, _, _, _, _, _, _, _, _, _, _, ?_, ?_, hS', hM'⟩
      · unfold f_X7_square
        rw [e7, bd40_s, i1, bd1_s, if_neg (by decide), wi_eq, w1, bd1_s, if_neg (by decide), exy, e10, q6, c_numberOf hC.o hC.g o1 o2 (q4 _ hs).2.2.2 (by omega), bd1_s]
      · unfold f_X8_square
        rw [e8, bd7_s, if_neg n9, w1, bd1_s, if_neg (by decide), m_numbers hD.2.2, bd1_s, e10]
        by_cases cs : n - 10 < qS st
        · rw [if_neg (by rw [n_le (by omega) (by omega)]; omega), m_numberIn hD.2.1 hD.2.2 hD.g hD.o (by omega) (k1.2.1 _ hs).1 (k1.2.1 _ hs).2.1 o1 cs, bd1_s, if_pos cs]
        · rw [if_pos (by rw [n_le (by omega) (by omega)]; omega), if_neg cs]
    · have w0 : f_X8_within FU x3 10 25 = some 0 := wi_out (a := 10) (b := 25) (by omega) (by omega) (fun n hn => cn ⟨n, hn⟩)
      obtain ⟨om2, m_squares'', m_square'', m_dark'', m_light'', m_like'', m_isCrowded'', m_pairs'', m_first'', m_second'', m_votes'', e9, r9, hM2⟩ := ma2 hD hM'
      have l1 := hM2.2.1 (by omega)
      have l2 := hM2.2.2.1 r9
      have u4 := q4 s hs
      have b7 : ∀ (r : Int32), f_X7_square FU c_greys (nI w) (nI h) c_settings c_reached c_order c_merged c_least c_greatest c_role c_head c_tail c_rank c_kindFrom c_kindTo c_side c_across c_down c_count c_flats c_crowded c_kinds c_first c_second c_pairs c_pairsWith c_voted c_ways c_shcount c_numberOfWay c_list c_fcount c_regions c_left c_open c_frows c_fshift c_fdx c_fdy c_fleastPlace c_fpairs c_foffset c_fplacesFirst c_fplaces x1 x2 x3 = some (r, c_reached', c_order', c_merged', c_least', c_greatest', c_role', c_head', c_tail', c_rank', c_kindFrom', c_kindTo', c_side', c_across', c_down', c_count', c_flats', c_crowded', c_kinds', c_first', c_second', c_pairs', c_pairsWith', c_voted', c_ways', c_shcount', c_numberOfWay', c_list', c_fcount', c_regions', c_left', c_open', c_frows', c_fshift', c_fdx', c_fdy', c_fleastPlace', c_fpairs', c_foffset', c_fplacesFirst', c_fplaces') → f_X8_square FU (nI om) (nI w) (nI h) m_grey m_setting m_squares m_square m_dark m_light m_like m_isCrowded m_pairs m_first m_second m_votes x1 x2 x3 = some (r, nI om2, m_squares'', m_square'', m_dark'', m_light'', m_like'', m_isCrowded'', m_pairs'', m_first'', m_second'', m_votes'') → ∃ (r : Int32) (rc' om' : Nat) (c_reached' : Int32) (c_order' : Nat → Int32) (c_merged' : Nat → Int32) (c_least' : Nat → Int32) (c_greatest' : Nat → Int32) (c_role' : Nat → Int32) (c_head' : Nat → Int64) (c_tail' : Nat → Int64) (c_rank' : Nat → Int32) (c_kindFrom' : Nat → Int32) (c_kindTo' : Nat → Int32) (c_side' : Int32) (c_across' : Int32) (c_down' : Int32) (c_count' : Int32) (c_flats' : Int32) (c_crowded' : Int32) (c_kinds' : Int32) (c_first' : Nat → Int32) (c_second' : Nat → Int32) (c_pairs' : Int32) (c_pairsWith' : Nat → Int32) (c_voted' : Nat → Int32) (c_ways' : Nat → Int32) (c_shcount' : Int32) (c_numberOfWay' : Nat → Int32) (c_list' : Nat → Nat) (c_fcount' : Int32) (c_regions' : Nat → Int32) (c_left' : Nat → Nat → Int32) (c_open' : Nat → Int32) (c_frows' : Nat → Nat → Int32) (c_fshift' : Nat → Int32) (c_fdx' : Nat → Int32) (c_fdy' : Nat → Int32) (c_fleastPlace' : Nat → Int32) (c_fpairs' : Nat → Int32) (c_foffset' : Nat → Int32) (c_fplacesFirst' : Nat → Int32) (c_fplaces' : Nat → Int32) (m_squares' : Int32) (m_square' : Nat → Int32) (m_dark' : Nat → Int32) (m_light' : Nat → Int32) (m_like' : Nat → Int32) (m_isCrowded' : Nat → Int32) (m_pairs' : Int32) (m_first' : Nat → Int32) (m_second' : Nat → Int32) (m_votes' : Nat → Int32), f_X7_square FU c_greys (nI w) (nI h) c_settings c_reached c_order c_merged c_least c_greatest c_role c_head c_tail c_rank c_kindFrom c_kindTo c_side c_across c_down c_count c_flats c_crowded c_kinds c_first c_second c_pairs c_pairsWith c_voted c_ways c_shcount c_numberOfWay c_list c_fcount c_regions c_left c_open c_frows c_fshift c_fdx c_fdy c_fleastPlace c_fpairs c_foffset c_fplacesFirst c_fplaces x1 x2 x3 = some (r, c_reached', c_order', c_merged', c_least', c_greatest', c_role', c_head', c_tail', c_rank', c_kindFrom', c_kindTo', c_side', c_across', c_down', c_count', c_flats', c_crowded', c_kinds', c_first', c_second', c_pairs', c_pairsWith', c_voted', c_ways', c_shcount', c_numberOfWay', c_list', c_fcount', c_regions', c_left', c_open', c_frows', c_fshift', c_fdx', c_fdy', c_fleastPlace', c_fpairs', c_foffset', c_fplacesFirst', c_fplaces') ∧ f_X8_square FU (nI om) (nI w) (nI h) m_grey m_setting m_squares m_square m_dark m_light m_like m_isCrowded m_pairs m_first m_second m_votes x1 x2 x3 = some (r, nI om', m_squares', m_square', m_dark', m_light', m_like', m_isCrowded', m_pairs', m_first', m_second', m_votes') ∧ CSv w h g st rc' c_reached' c_order' c_merged' c_least' c_greatest' c_role' c_head' c_tail' c_rank' c_kindFrom' c_kindTo' c_side' c_across' c_down' c_count' c_flats' c_crowded' c_kinds' c_first' c_second' c_pairs' c_pairsWith' c_voted' c_ways' c_shcount' c_numberOfWay' c_list' c_fcount' c_regions' c_left' c_open' c_frows' c_fshift' c_fdx' c_fdy' c_fleastPlace' c_fpairs' c_foffset' c_fplacesFirst' c_fplaces' ∧ MAll w h g st om' m_squares' m_square' m_dark' m_light' m_like' m_isCrowded' m_pairs' m_first' m_second' m_votes' m_shifts m_shiftX m_shiftY m_regionAt m_regions m_regionShift m_regionPairs m_regionFirst m_findings m_regionOf m_offset m_begun m_held m_isIn m_numbered := by
        intro r z7 z8
        exact ⟨r, rc', om2, _, _, _, _, _, _, _, _, _, _, _, _, _, _, _, _, _, _, _, _, _, _, _, _, _, _, _, _, _, _, _, _, _, _, _, _, _, _, _, _, _, _, _, _, _, _, _, _, _, _, z7, z8, hS', hM2⟩
      by_cases c0 : x3 = 0
      · refine b7 (nI (qMn g st (qP w st s))) ?_ ?_
        · unfold f_X7_square
          rw [e7, bd40_s, i1, bd1_s, if_neg (by decide), wi_eq, w0, bd1_s, if_pos rfl, if_pos c0, exy, rd_ok (by omega) (by omega), u4.1]
        · unfold f_X8_square
          rw [e8, bd7_s, if_neg n9, w0, bd1_s, if_pos rfl, e9, bd11_s, if_pos c0, rd_ok (by omega) (by omega), (l1.2.1 s hs).2.1]
      · by_cases c1 : x3 = 1
        · refine b7 (nI (qMx g st (qP w st s))) ?_ ?_
          · unfold f_X7_square
            rw [e7, bd40_s, i1, bd1_s, if_neg (by decide), wi_eq, w0, bd1_s, if_pos rfl, if_neg c0, if_pos c1, exy, rd_ok (by omega) (by omega), u4.2.1]
          · unfold f_X8_square
            rw [e8, bd7_s, if_neg n9, w0, bd1_s, if_pos rfl, e9, bd11_s, if_neg c0, if_pos c1, rd_ok (by omega) (by omega), (l1.2.1 s hs).2.2]
        · by_cases c2 : x3 = 2
          · have hz := zF_1 w g st s
            refine b7 (if zF w g st s = 1 then 1 else 0) ?_ ?_
            · unfold f_X7_square
              rw [e7, bd40_s, i1, bd1_s, if_neg (by decide), wi_eq, w0, bd1_s, if_pos rfl, if_neg c0, if_neg c1, if_pos c2, exy, rd_ok (by omega) (by omega), u4.2.2.1]
              by_cases cz : zF w g st s = 1
              · have e1 : roP (qN w h st) (st 5) (zK w g st) (zF w g st) s = 1 := by unfold roP; rw [if_pos cz]
                rw [e1, if_pos (show nI 1 = (1 : Int32) from rfl), if_pos cz]
              · have e1 : roP (qN w h st) (st 5) (zK w g st) (zF w g st) s = 0 ∨ roP (qN w h st) (st 5) (zK w g st) (zF w g st) s = 2 := by unfold roP; rw [if_neg cz]; split <;> omega
                rw [if_neg cz, if_neg (by rcases e1 with z | z <;> rw [z] <;> decide)]
            · unfold f_X8_square
              rw [e8, bd7_s, if_neg n9, w0, bd1_s, if_pos rfl, e9, bd11_s, if_neg c0, if_neg c1, if_pos c2, m_flat hD.2.2 hD.g hD.o hD.w hD.h l1.2.1 hs, bd1_s]
              by_cases cz : zF w g st s = 1
              · rw [cz, if_neg (by decide), if_pos rfl]
              · rw [show zF w g st s = 0 by omega, if_pos (show nI 0 = (0 : Int32) from rfl), if_neg (by decide)]
          · by_cases c3 : x3 = 3
            · refine b7 (if zC w h g st s = 1 then 1 else 0) ?_ ?_
              · unfold f_X7_square
                rw [e7, bd40_s, i1, bd1_s, if_neg (by decide), wi_eq, w0, bd1_s, if_pos rfl, if_neg c0, if_neg c1, if_neg c2, if_pos c3, exy, rd_ok (by omega) (by omega), u4.2.2.1]
                by_cases cz : roP (qN w h st) (st 5) (zK w g st) (zF w g st) s = 2
                · have e1 : zC w h g st s = 1 := by unfold zC c2P; rw [if_pos cz]
                  rw [cz, if_pos (show nI 2 = (2 : Int32) from rfl), if_pos e1]
                · have e1 : zC w h g st s = 0 := by unfold zC c2P; rw [if_neg cz]
                  have e2 : roP (qN w h st) (st 5) (zK w g st) (zF w g st) s ≤ 2 := by unfold roP; split; omega; split <;> omega
                  rw [show (2 : Int32) = nI 2 from rfl, if_neg (fun z => cz ((n_inj (b := 2) (by omega) (by omega)).mp z)), e1, if_neg (by decide)]
              · unfold f_X8_square
                rw [e8, bd7_s, if_neg n9, w0, bd1_s, if_pos rfl, e9, bd11_s, if_neg c0, if_neg c1, if_neg c2, if_pos c3, rd_ok (by omega) (by omega), l2.1 s hs]
                have hz := zC_1 w h g st s
                by_cases cz : zC w h g st s = 1
                · rw [cz, if_neg (by decide), if_pos rfl]
                · rw [show zC w h g st s = 0 by omega, if_pos (show nI 0 = (0 : Int32) from rfl), if_neg (by decide)]
            · by_cases c4 : x3 = 4
              · obtain ⟨i, hi, ei⟩ := fb_onto q1 (bef_inj q2) hs
                obtain ⟨ka, kb, d1, d2, d3, d4⟩ := q5 i hi
                have hmn := kd_many q1 (bef_inj q2) d1
                rw [ei] at d3 d4 hmn
                refine b7 (nI (kb - ka)) ?_ ?_
                · unfold f_X7_square
                  rw [e7, bd40_s, i1, bd1_s, if_neg (by decide), wi_eq, w0, bd1_s, if_pos rfl, if_neg c0, if_neg c1, if_neg c2, if_neg c3, if_pos c4, exy, rd_ok (by omega) (by omega), rd_ok (by omega) (by omega), d3, d4, pk_sub (by have := d1.1; have := d1.2.1; omega)]
                · unfold f_X8_square
                  have hml := m_manyLike (s := s) 1 hD.2.2 hD.g hD.o hD.w hD.h l1.2.1 l1.2.2 hs (by omega)
                  rw [e8, bd7_s, if_neg n9, w0, bd1_s, if_pos rfl, e9, bd11_s, if_neg c0, if_neg c1, if_neg c2, if_neg c3, if_pos c4, l1.1, show (1 : Int32) = nI 1 from rfl, hml, bd1_s]
                  congr 4
              · by_cases c5 : x3 = 5
                · obtain ⟨rc3, c_reached'', c_order'', c_merged'', c_least'', c_greatest'', c_role'', c_head'', c_tail'', c_rank'', c_kindFrom'', c_kindTo'', c_side'', c_across'', c_down'', c_count'', c_flats'', c_crowded'', c_kinds'', c_first'', c_second'', c_pairs'', c_pairsWith'', c_voted'', c_ways'', c_shcount'', c_numberOfWay'', c_list'', c_fcount'', c_regions'', c_left'', c_open'', c_frows'', c_fshift'', c_fdx'', c_fdy'', c_fleastPlace'', c_fpairs'', c_foffset'', c_fplacesFirst'', c_fplaces'', e73, r73, hS3⟩ := c_reach2 hC hS'
                  have hsh := (hS3.2.2.2.2.1 r73).1
                  refine ⟨nI (pwL (prL w h g st) s), rc3, om2, _, _, _, _, _, _, _, _, _, _, _, _, _, _, _, _, _, _, _, _, _, _, _, _, _, _, _, _, _, _, _, _, _, _, _, _, _, _, _, _, _, _, _, _, _, _, _, _, _, _, ?_, ?_, hS3, hM2⟩
                  · unfold f_X7_square
                    rw [e7, bd40_s, i1, bd1_s, if_neg (by decide), wi_eq, w0, bd1_s, if_pos rfl, if_neg c0, if_neg c1, if_neg c2, if_neg c3, if_neg c4, if_pos c5, e73, bd40_s, exy, rd_ok (by omega) (by omega), hsh.2.2.2.1 s hs]
                  · unfold f_X8_square
                    rw [e8, bd7_s, if_neg n9, w0, bd1_s, if_pos rfl, e9, bd11_s, if_neg c0, if_neg c1, if_neg c2, if_neg c3, if_neg c4, if_pos c5, l2.2.1]
                    obtain ⟨q, e, rfl⟩ := m_sq158 (s := s) (kk := fun (x5_33 : Int32) (x6_34 : Int32) => some (x5_33, nI om2, m_squares'', m_square'', m_dark'', m_light'', m_like'', m_isCrowded'', nI (prL w h g st).length, m_first'', m_second'', m_votes'')) (P := fun q => q = (nI (pwL (prL w h g st) s), nI om2, m_squares'', m_square'', m_dark'', m_light'', m_like'', m_isCrowded'', nI (prL w h g st).length, m_first'', m_second'', m_votes'')) h21 (by omega) (prL_b hD.o hD.w hD.h) l2.2.2.1 l2.2.2.2.1 (prL w h g st).length 0 FU (by omega) (by unfold FU; omega) (fun z => rt_some rfl)
                    exact e
                · refine b7 (-2) ?_ ?_
                  · unfold f_X7_square
                    rw [e7, bd40_s, i1, bd1_s, if_neg (by decide), wi_eq, w0, bd1_s, if_pos rfl, if_neg c0, if_neg c1, if_neg c2, if_neg c3, if_neg c4, if_neg c5]
                  · unfold f_X8_square
                    rw [e8, bd7_s, if_neg n9, w0, bd1_s, if_pos rfl, e9, bd11_s, if_neg c0, if_neg c1, if_neg c2, if_neg c3, if_neg c4, if_neg c5]
  · have hn : ∀ a b, ¬ InP (qA w st) (qA h st) x1 x2 a b := fun a b hI => c ⟨a, b, hI⟩
    have hv := v2 hn
    subst hv
    refine ⟨-1, rc', om', _, _, _, _, _, _, _, _, _, _, _, _, _, _, _, _, _, _, _, _, _, _, _, _, _, _, _, _, _, _, _, _, _, _, _, _, _, _, _, _, _, _, _, _, _, _, _, _, _, _, ?_, ?_, hS', hM'⟩
    · unfold f_X7_square
      rw [e7, bd40_s, q7, q8, c_has5, has_f (by omega) (by omega) hn, bd1_s, if_pos rfl]
    · unfold f_X8_square
      rw [e8, bd7_s, if_pos rfl]
