/-! finding -/
theorem j_finding {w h rc om : Nat} {g st : Nat → Nat} {c_greys c_settings m_grey m_setting : Nat → Int32} {c_reached : Int32} {c_order : Nat → Int32} {c_merged : Nat → Int32} {c_least : Nat → Int32} {c_greatest : Nat → Int32} {c_role : Nat → Int32} {c_head : Nat → Int64} {c_tail : Nat → Int64} {c_rank : Nat → Int32} {c_kindFrom : Nat → Int32} {c_kindTo : Nat → Int32} {c_side : Int32} {c_across : Int32} {c_down : Int32} {c_count : Int32} {c_flats : Int32} {c_crowded : Int32} {c_kinds : Int32} {c_first : Nat → Int32} {c_second : Nat → Int32} {c_pairs : Int32} {c_pairsWith : Nat → Int32} {c_voted : Nat → Int32} {c_ways : Nat → Int32} {c_shcount : Int32} {c_numberOfWay : Nat → Int32} {c_list : Nat → Nat} {c_fcount : Int32} {c_regions : Nat → Int32} {c_left : Nat → Nat → Int32} {c_open : Nat → Int32} {c_frows : Nat → Nat → Int32} {c_fshift : Nat → Int32} {c_fdx : Nat → Int32} {c_fdy : Nat → Int32} {c_fleastPlace : Nat → Int32} {c_fpairs : Nat → Int32} {c_foffset : Nat → Int32} {c_fplacesFirst : Nat → Int32} {c_fplaces : Nat → Int32} {m_squares : Int32} {m_square : Nat → Int32} {m_dark : Nat → Int32} {m_light : Nat → Int32} {m_like : Nat → Int32} {m_isCrowded : Nat → Int32} {m_pairs : Int32} {m_first : Nat → Int32} {m_second : Nat → Int32} {m_votes : Nat → Int32} {m_shifts : Int32} {m_shiftX : Nat → Int32} {m_shiftY : Nat → Int32} {m_regionAt : Nat → Int32} {m_regions : Int32} {m_regionShift : Nat → Int32} {m_regionPairs : Nat → Int32} {m_regionFirst : Nat → Int32} {m_findings : Int32} {m_regionOf : Nat → Int32} {m_offset : Nat → Int32} {m_begun : Nat → Int32} {m_held : Nat → Int32} {m_isIn : Nat → Int32} {m_numbered : Nat → Int32} (hC : Cor w h g st c_greys c_settings) (hD : Cor w h g st m_grey m_setting) (hS : CSv w h g st rc c_reached c_order c_merged c_least c_greatest c_role c_head c_tail c_rank c_kindFrom c_kindTo c_side c_across c_down c_count c_flats c_crowded c_kinds c_first c_second c_pairs c_pairsWith c_voted c_ways c_shcount c_numberOfWay c_list c_fcount c_regions c_left c_open c_frows c_fshift c_fdx c_fdy c_fleastPlace c_fpairs c_foffset c_fplacesFirst c_fplaces) (hM : MAll w h g st om m_squares m_square m_dark m_light m_like m_isCrowded m_pairs m_first m_second m_votes m_shifts m_shiftX m_shiftY m_regionAt m_regions m_regionShift m_regionPairs m_regionFirst m_findings m_regionOf m_offset m_begun m_held m_isIn m_numbered) {m_left : Int32} {m_right : Int32} {m_top : Int32} {m_low : Int32} {m_missed : Int32} (x1 x2 : Int32) : ∃ (r : Int32) (rc' om' : Nat) (c_reached' : Int32) (c_order' : Nat → Int32) (c_merged' : Nat → Int32) (c_least' : Nat → Int32) (c_greatest' : Nat → Int32) (c_role' : Nat → Int32) (c_head' : Nat → Int64) (c_tail' : Nat → Int64) (c_rank' : Nat → Int32) (c_kindFrom' : Nat → Int32) (c_kindTo' : Nat → Int32) (c_side' : Int32) (c_across' : Int32) (c_down' : Int32) (c_count' : Int32) (c_flats' : Int32) (c_crowded' : Int32) (c_kinds' : Int32) (c_first' : Nat → Int32) (c_second' : Nat → Int32) (c_pairs' : Int32) (c_pairsWith' : Nat → Int32) (c_voted' : Nat → Int32) (c_ways' : Nat → Int32) (c_shcount' : Int32) (c_numberOfWay' : Nat → Int32) (c_list' : Nat → Nat) (c_fcount' : Int32) (c_regions' : Nat → Int32) (c_left' : Nat → Nat → Int32) (c_open' : Nat → Int32) (c_frows' : Nat → Nat → Int32) (c_fshift' : Nat → Int32) (c_fdx' : Nat → Int32) (c_fdy' : Nat → Int32) (c_fleastPlace' : Nat → Int32) (c_fpairs' : Nat → Int32) (c_foffset' : Nat → Int32) (c_fplacesFirst' : Nat → Int32) (c_fplaces' : Nat → Int32) (m_squares' : Int32) (m_square' : Nat → Int32) (m_dark' : Nat → Int32) (m_light' : Nat → Int32) (m_like' : Nat → Int32) (m_isCrowded' : Nat → Int32) (m_pairs' : Int32) (m_first' : Nat → Int32) (m_second' : Nat → Int32) (m_votes' : Nat → Int32) (m_shifts' : Int32) (m_shiftX' : Nat → Int32) (m_shiftY' : Nat → Int32) (m_regionAt' : Nat → Int32) (m_regions' : Int32) (m_regionShift' : Nat → Int32) (m_regionPairs' : Nat → Int32) (m_regionFirst' : Nat → Int32) (m_findings' : Int32) (m_regionOf' : Nat → Int32) (m_offset' : Nat → Int32) (m_begun' : Nat → Int32) (m_held' : Nat → Int32) (m_isIn' : Nat → Int32) (m_numbered' : Nat → Int32) (m_left' : Int32) (m_right' : Int32) (m_top' : Int32) (m_low' : Int32) (m_missed' : Int32), f_X7_finding FU c_greys (nI w) (nI h) c_settings c_reached c_order c_merged c_least c_greatest c_role c_head c_tail c_rank c_kindFrom c_kindTo c_side c_across c_down c_count c_flats c_crowded c_kinds c_first c_second c_pairs c_pairsWith c_voted c_ways c_shcount c_numberOfWay c_list c_fcount c_regions c_left c_open c_frows c_fshift c_fdx c_fdy c_fleastPlace c_fpairs c_foffset c_fplacesFirst c_fplaces x1 x2 = some (r, c_reached', c_order', c_merged', c_least', c_greatest', c_role', c_head', c_tail', c_rank', c_kindFrom', c_kindTo', c_side', c_across', c_down', c_count', c_flats', c_crowded', c_kinds', c_first', c_second', c_pairs', c_pairsWith', c_voted', c_ways', c_shcount', c_numberOfWay', c_list', c_fcount', c_regions', c_left', c_open', c_frows', c_fshift', c_fdx', c_fdy', c_fleastPlace', c_fpairs', c_foffset', c_fplacesFirst', c_fplaces') ∧ f_X8_finding FU (nI om) (nI w) (nI h) m_grey m_setting m_squares m_square m_dark m_light m_like m_isCrowded m_pairs m_first m_second m_votes m_shifts m_shiftX m_shiftY m_regionAt m_regions m_regionShift m_regionPairs m_regionFirst m_findings m_regionOf m_offset m_begun m_held m_isIn m_numbered m_left m_right m_top m_low m_missed x1 x2 = some (r, nI om', m_squares', m_square', m_dark', m_light', m_like', m_isCrowded', m_pairs', m_first', m_second', m_votes', m_shifts', m_shiftX', m_shiftY', m_regionAt', m_regions', m_regionShift', m_regionPairs', m_regionFirst', m_findings', m_regionOf', m_offset', m_begun', m_held', m_isIn', m_numbered', m_left', m_right', m_top', m_low', m_missed') ∧ CSv w h g st rc' c_reached' c_order' c_merged' c_least' c_greatest' c_role' c_head' c_tail' c_rank' c_kindFrom' c_kindTo' c_side' c_across' c_down' c_count' c_flats' c_crowded' c_kinds' c_first' c_second' c_pairs' c_pairsWith' c_voted' c_ways' c_shcount' c_numberOfWay' c_list' c_fcount' c_regions' c_left' c_open' c_frows' c_fshift' c_fdx' c_fdy' c_fleastPlace' c_fpairs' c_foffset' c_fplacesFirst' c_fplaces' ∧ MAll w h g st om' m_squares' m_square' m_dark' m_light' m_like' m_isCrowded' m_pairs' m_first' m_second' m_votes' m_shifts' m_shiftX' m_shiftY' m_regionAt' m_regions' m_regionShift' m_regionPairs' m_regionFirst' m_findings' m_regionOf' m_offset' m_begun' m_held' m_isIn' m_numbered' := by
  obtain ⟨hs, hf⟩ := fdc hC.1
  obtain ⟨rc', c_reached', c_order', c_merged', c_least', c_greatest', c_role', c_head', c_tail', c_rank', c_kindFrom', c_kindTo', c_side', c_across', c_down', c_count', c_flats', c_crowded', c_kinds', c_first', c_second', c_pairs', c_pairsWith', c_voted', c_ways', c_shcount', c_numberOfWay', c_list', c_fcount', c_regions', c_left', c_open', c_frows', c_fshift', c_fdx', c_fdy', c_fleastPlace', c_fpairs', c_foffset', c_fplacesFirst', c_fplaces', e7, r7, hS'⟩ := c_reach3 hC hS
  obtain ⟨om', m_squares', m_square', m_dark', m_light', m_like', m_isCrowded', m_pairs', m_first', m_second', m_votes', m_shifts', m_shiftX', m_shiftY', m_regionAt', m_regions', m_regionShift', m_regionPairs', m_regionFirst', m_findings', m_regionOf', m_offset', m_begun', m_held', m_isIn', m_numbered', e8, r8, hM'⟩ := ma5 hD hf hM
  obtain ⟨_, q1, q2, q3⟩ := hS'.2.2.2.2.2 r7
  obtain ⟨_, n1, n2, n3⟩ := hM'.2.2.2.2.2 r8
  have l4 := hM'.2.2.2.2.1 (by omega)
  obtain ⟨_, l31, l32⟩ := (hM'.2.2.2.1 (by omega)).can
  have h24 := hf.n24
  have h1024 := zRL_1024 hs
  have hlp := hS'.2.2.1
  by_cases c : ∃ i, i < zFn w h g st ∧ x1 = nI i
  · obtain ⟨k, hk, ek⟩ := c
    obtain ⟨i, hi, ei, eT⟩ := n3 k hk
    have hr := hf.f hk
    obtain ⟨g1, ⟨f1, f2, f3, f4, f5⟩, g3, g4, g5⟩ := q2 k hk
    have hF := n2 i hi
    rw [eT] at hF
    obtain ⟨m1, m2, m3, m4, m5⟩ := hF
    generalize zTf w h g st k = r at *
    have hlt := hlp.1 k (by omega)
    have hm : MF w h g st m_shiftX' m_shiftY' m_regionShift' m_regionOf' i r := ⟨by omega, hr, hs, l32, l4.2.1, m1⟩
    have hin : ∀ q, q < 256 → zGr w h g st r q → q % 16 < w ∧ q / 16 < h ∧ cpI w h (zv w h g st r) q := fun q _ hq => zGr_in hC.o hC.w hC.h hr hq
    have hne := zGr_ne hC.o hr
    have hme := m_measures (a1 := m_left) (a2 := m_right) (a3 := m_top) (a4 := m_low) (a5 := m_missed) hD.w hD.h hD.w1 hD.h1 hD.2.1 hD.g hm m2 m5 (fun q hq hz => (hin q hq hz).2.2)
    have w7 : f_X7_isWithin FU x1 0 (c_fcount' - 1) = some 1 := by rw [q1, wi_eq]; exact wi_cn (by omega) hk ek
    have w8 : f_X8_within FU x1 0 (m_findings' - 1) = some 1 := by rw [n1]; exact wi_cn (by omega) hk ek
    have b7 : ∀ (v : Int32), f_X7_finding FU c_greys (nI w) (nI h) c_settings c_reached c_order c_merged c_least c_greatest c_role c_head c_tail c_rank c_kindFrom c_kindTo c_side c_across c_down c_count c_flats c_crowded c_kinds c_first c_second c_pairs c_pairsWith c_voted c_ways c_shcount c_numberOfWay c_list c_fcount c_regions c_left c_open c_frows c_fshift c_fdx c_fdy c_fleastPlace c_fpairs c_foffset c_fplacesFirst c_fplaces x1 x2 = some (v, c_reached', c_order', c_merged', c_least', c_greatest', c_role', c_head', c_tail', c_rank', c_kindFrom', c_kindTo', c_side', c_across', c_down', c_count', c_flats', c_crowded', c_kinds', c_first', c_second', c_pairs', c_pairsWith', c_voted', c_ways', c_shcount', c_numberOfWay', c_list', c_fcount', c_regions', c_left', c_open', c_frows', c_fshift', c_fdx', c_fdy', c_fleastPlace', c_fpairs', c_foffset', c_fplacesFirst', c_fplaces') → f_X8_finding FU (nI om) (nI w) (nI h) m_grey m_setting m_squares m_square m_dark m_light m_like m_isCrowded m_pairs m_first m_second m_votes m_shifts m_shiftX m_shiftY m_regionAt m_regions m_regionShift m_regionPairs m_regionFirst m_findings m_regionOf m_offset m_begun m_held m_isIn m_numbered m_left m_right m_top m_low m_missed x1 x2 = some (v, nI om', m_squares', m_square', m_dark', m_light', m_like', m_isCrowded', m_pairs', m_first', m_second', m_votes', m_shifts', m_shiftX', m_shiftY', m_regionAt', m_regions', m_regionShift', m_regionPairs', m_regionFirst', m_findings', m_regionOf', m_offset', m_begun', m_held', m_isIn', m_numbered', nI (rnL (zGr w h g st r) pX 256), nI (rnG (zGr w h g st r) pX 256) - 1, nI (rnL (zGr w h g st r) pY 256), nI (rnG (zGr w h g st r) pY 256) - 1, nI (fb_sm (msS (zGr w h g st r) (mi g (zv w h g st r) (zOf w h g st r))) 256)) → ∃ (r : Int32) (rc' om' : Nat) (c_reached' : Int32) (c_order' : Nat → Int32) (c_merged' : Nat → Int32) (c_least' : Nat → Int32) (c_greatest' : Nat → Int32) (c_role' : Nat → Int32) (c_head' : Nat → Int64) (c_tail' : Nat → Int64) (c_rank' : Nat → Int32) (c_kindFrom' : Nat → Int32) (c_kindTo' : Nat → Int32) (c_side' : Int32) (c_across' : Int32) (c_down' : Int32) (c_count' : Int32) (c_flats' : Int32) (c_crowded' : Int32) (c_kinds' : Int32) (c_first' : Nat → Int32) (c_second' : Nat → Int32) (c_pairs' : Int32) (c_pairsWith' : Nat → Int32) (c_voted' : Nat → Int32) (c_ways' : Nat → Int32) (c_shcount' : Int32) (c_numberOfWay' : Nat → Int32) (c_list' : Nat → Nat) (c_fcount' : Int32) (c_regions' : Nat → Int32) (c_left' : Nat → Nat → Int32) (c_open' : Nat → Int32) (c_frows' : Nat → Nat → Int32) (c_fshift' : Nat → Int32) (c_fdx' : Nat → Int32) (c_fdy' : Nat → Int32) (c_fleastPlace' : Nat → Int32) (c_fpairs' : Nat → Int32) (c_foffset' : Nat → Int32) (c_fplacesFirst' : Nat → Int32) (c_fplaces' : Nat → Int32) (m_squares' : Int32) (m_square' : Nat → Int32) (m_dark' : Nat → Int32) (m_light' : Nat → Int32) (m_like' : Nat → Int32) (m_isCrowded' : Nat → Int32) (m_pairs' : Int32) (m_first' : Nat → Int32) (m_second' : Nat → Int32) (m_votes' : Nat → Int32) (m_shifts' : Int32) (m_shiftX' : Nat → Int32) (m_shiftY' : Nat → Int32) (m_regionAt' : Nat → Int32) (m_regions' : Int32) (m_regionShift' : Nat → Int32) (m_regionPairs' : Nat → Int32) (m_regionFirst' : Nat → Int32) (m_findings' : Int32) (m_regionOf' : Nat → Int32) (m_offset' : Nat → Int32) (m_begun' : Nat → Int32) (m_held' : Nat → Int32) (m_isIn' : Nat → Int32) (m_numbered' : Nat → Int32) (m_left' : Int32) (m_right' : Int32) (m_top' : Int32) (m_low' : Int32) (m_missed' : Int32), f_X7_finding FU c_greys (nI w) (nI h) c_settings c_reached c_order c_merged c_least c_greatest c_role c_head c_tail c_rank c_kindFrom c_kindTo c_side c_across c_down c_count c_flats c_crowded c_kinds c_first c_second c_pairs c_pairsWith c_voted c_ways c_shcount c_numberOfWay c_list c_fcount c_regions c_left c_open c_frows c_fshift c_fdx c_fdy c_fleastPlace c_fpairs c_foffset c_fplacesFirst c_fplaces x1 x2 = some (r, c_reached', c_order', c_merged', c_least', c_greatest', c_role', c_head', c_tail', c_rank', c_kindFrom', c_kindTo', c_side', c_across', c_down', c_count', c_flats', c_crowded', c_kinds', c_first', c_second', c_pairs', c_pairsWith', c_voted', c_ways', c_shcount', c_numberOfWay', c_list', c_fcount', c_regions', c_left', c_open', c_frows', c_fshift', c_fdx', c_fdy', c_fleastPlace', c_fpairs', c_foffset', c_fplacesFirst', c_fplaces') ∧ f_X8_finding FU (nI om) (nI w) (nI h) m_grey m_setting m_squares m_square m_dark m_light m_like m_isCrowded m_pairs m_first m_second m_votes m_shifts m_shiftX m_shiftY m_regionAt m_regions m_regionShift m_regionPairs m_regionFirst m_findings m_regionOf m_offset m_begun m_held m_isIn m_numbered m_left m_right m_top m_low m_missed x1 x2 = some (r, nI om', m_squares', m_square', m_dark', m_light', m_like', m_isCrowded', m_pairs', m_first', m_second', m_votes', m_shifts', m_shiftX', m_shiftY', m_regionAt', m_regions', m_regionShift', m_regionPairs', m_regionFirst', m_findings', m_regionOf', m_offset', m_begun', m_held', m_isIn', m_numbered', m_left', m_right', m_top', m_low', m_missed') ∧ CSv w h g st rc' c_reached' c_order' c_merged' c_least' c_greatest' c_role' c_head' c_tail' c_rank' c_kindFrom' c_kindTo' c_side' c_across' c_down' c_count' c_flats' c_crowded' c_kinds' c_first' c_second' c_pairs' c_pairsWith' c_voted' c_ways' c_shcount' c_numberOfWay' c_list' c_fcount' c_regions' c_left' c_open' c_frows' c_fshift' c_fdx' c_fdy' c_fleastPlace' c_fpairs' c_foffset' c_fplacesFirst' c_fplaces' ∧ MAll w h g st om' m_squares' m_square' m_dark' m_light' m_like' m_isCrowded' m_pairs' m_first' m_second' m_votes' m_shifts' m_shiftX' m_shiftY' m_regionAt' m_regions' m_regionShift' m_regionPairs' m_regionFirst' m_findings' m_regionOf' m_offset' m_begun' m_held' m_isIn' m_numbered' := by
      intro v z7 z8
      exact ⟨v, rc', om', _, _, _, _, _, _, _, _, _, _, _, _, _, _, _, _, _, _, _, _, _, _, _, _, _, _, _, _, _, _, _, _, _, _, _, _, _, _, _, _, _, _, _, _, _, _, _, _, _, _, _, _, _, _, _, _, _, _, _, _, _, _, _, _, _, _, _, _, _, _, z7, z8, hS', hM'⟩
    by_cases c0 : x2 = 0
    · refine b7 (nI (zE2 w h g st r).1) ?_ ?_
      · unfold f_X7_finding
        rw [e7, bd40_s, w7, bd1_s, if_neg (by decide), ek, rdn_ok (by omega) (by omega), lt25_ok hlt, if_pos c0, f1]
      · unfold f_X8_finding
        rw [e8, bd26_s, w8, bd1_s, if_neg (by decide), ek, rd_ok (by omega) (by omega), ei, hme, bd5_s, if_pos c0, m_shiftOf hm, bd1_s]
    · by_cases c1 : x2 = 1
      · have epr : m_regionPairs' r = nI (zSz w h g st r) := l4.2.2.2.1 r hr
        refine b7 (nI (zSz w h g st r)) ?_ ?_
        · unfold f_X7_finding
          rw [e7, bd40_s, w7, bd1_s, if_neg (by decide), ek, rdn_ok (by omega) (by omega), lt25_ok hlt, if_neg c0, if_pos c1, f5]
        · unfold f_X8_finding
          rw [e8, bd26_s, w8, bd1_s, if_neg (by decide), ek, rd_ok (by omega) (by omega), ei, hme, bd5_s, if_neg c0, if_pos c1, rd_ok (by omega) (by omega), m1, rd_ok (by omega) (by omega), epr]
      · by_cases c2 : x2 = 2
        · refine b7 (nI (cnt (zWd w h g st r))) ?_ ?_
          · unfold f_X7_finding
            rw [e7, bd40_s, w7, bd1_s, if_neg (by decide), ek, rdn_ok (by omega) (by omega), lt25_ok hlt, if_neg c0, if_neg c1, if_pos c2, g4]
          · unfold f_X8_finding
            rw [e8, bd26_s, w8, bd1_s, if_neg (by decide), ek, rd_ok (by omega) (by omega), ei, hme, bd5_s, if_neg c0, if_neg c1, if_pos c2, rd_ok (by omega) (by omega), m3]
        · by_cases c3 : x2 = 3
          · refine b7 (nI (zHd w h g st r)) ?_ ?_
            · unfold f_X7_finding
              rw [e7, bd40_s, w7, bd1_s, if_neg (by decide), ek, rdn_ok (by omega) (by omega), lt25_ok hlt, if_neg c0, if_neg c1, if_neg c2, if_pos c3, g5]
            · unfold f_X8_finding
              rw [e8, bd26_s, w8, bd1_s, if_neg (by decide), ek, rd_ok (by omega) (by omega), ei, hme, bd5_s, if_neg c0, if_neg c1, if_neg c2, if_pos c3, rd_ok (by omega) (by omega), m4]
          · by_cases c4 : x2 = 4
            · obtain ⟨v, ev, x, rfl, hx⟩ := c_leastColumn g1 hne
              have := lst_one hx (rnL_l (fun p _ => by unfold pX; omega) hne)
              subst this
              refine b7 (nI (rnL (zGr w h g st r) pX 256)) ?_ ?_
              · unfold f_X7_finding
                rw [e7, bd40_s, w7, bd1_s, if_neg (by decide), ek, rdn_ok (by omega) (by omega), lt25_ok hlt, if_neg c0, if_neg c1, if_neg c2, if_neg c3, if_pos c4, ev, bd1_s]
              · unfold f_X8_finding
                rw [e8, bd26_s, w8, bd1_s, if_neg (by decide), ek, rd_ok (by omega) (by omega), ei, hme, bd5_s, if_neg c0, if_neg c1, if_neg c2, if_neg c3, if_pos c4]
            · by_cases c5 : x2 = 5
              · obtain ⟨v, ev, x, rfl, hx⟩ := c_greatestColumn g1 hne
                obtain ⟨hg1, hg2⟩ := rnG_g (A := zGr w h g st r) (f := pX) hne
                have := gst_one hx hg1
                refine b7 (nI (rnG (zGr w h g st r) pX 256) - 1) ?_ ?_
                · unfold f_X7_finding
                  rw [e7, bd40_s, w7, bd1_s, if_neg (by decide), ek, rdn_ok (by omega) (by omega), lt25_ok hlt, if_neg c0, if_neg c1, if_neg c2, if_neg c3, if_neg c4, if_pos c5, ev, bd1_s, this, nI_1s hg2]
                · unfold f_X8_finding
                  rw [e8, bd26_s, w8, bd1_s, if_neg (by decide), ek, rd_ok (by omega) (by omega), ei, hme, bd5_s, if_neg c0, if_neg c1, if_neg c2, if_neg c3, if_neg c4, if_pos c5]
              · by_cases c6 : x2 = 6
                · obtain ⟨v, ev, x, rfl, hx⟩ := c_leastRow g1 hne
                  have := lst_one hx (rnL_l (fun p _ => by unfold pY; omega) hne)
                  subst this
                  refine b7 (nI (rnL (zGr w h g st r) pY 256)) ?_ ?_
                  · unfold f_X7_finding
                    rw [e7, bd40_s, w7, bd1_s, if_neg (by decide), ek, rdn_ok (by omega) (by omega), lt25_ok hlt, if_neg c0, if_neg c1, if_neg c2, if_neg c3, if_neg c4, if_neg c5, if_pos c6, ev, bd1_s]
                  · unfold f_X8_finding
                    rw [e8, bd26_s, w8, bd1_s, if_neg (by decide), ek, rd_ok (by omega) (by omega), ei, hme, bd5_s, if_neg c0, if_neg c1, if_neg c2, if_neg c3, if_neg c4, if_neg c5, if_pos c6]
                · by_cases c7 : x2 = 7
                  · obtain ⟨v, ev, x, rfl, hx⟩ := c_greatestRow g1 hne
                    obtain ⟨hg1, hg2⟩ := rnG_g (A := zGr w h g st r) (f := pY) hne
                    have := gst_one hx hg1
                    refine b7 (nI (rnG (zGr w h g st r) pY 256) - 1) ?_ ?_
                    · unfold f_X7_finding
                      rw [e7, bd40_s, w7, bd1_s, if_neg (by decide), ek, rdn_ok (by omega) (by omega), lt25_ok hlt, if_neg c0, if_neg c1, if_neg c2, if_neg c3, if_neg c4, if_neg c5, if_neg c6, if_pos c7, ev, bd1_s, this, nI_1s hg2]
                    · unfold f_X8_finding
                      rw [e8, bd26_s, w8, bd1_s, if_neg (by decide), ek, rd_ok (by omega) (by omega), ei, hme, bd5_s, if_neg c0, if_neg c1, if_neg c2, if_neg c3, if_neg c4, if_neg c5, if_neg c6, if_pos c7]
                  · by_cases c8 : x2 = 8
                    · have eo : c_foffset' (c_list' k) = m_offset' i := by rw [i_eq, g3, m2]
                      refine b7 (m_offset' i + 100) ?_ ?_
                      · unfold f_X7_finding
                        rw [e7, bd40_s, w7, bd1_s, if_neg (by decide), ek, rdn_ok (by omega) (by omega), lt25_ok hlt, if_neg c0, if_neg c1, if_neg c2, if_neg c3, if_neg c4, if_neg c5, if_neg c6, if_neg c7, if_pos c8, eo]
                      · unfold f_X8_finding
                        rw [e8, bd26_s, w8, bd1_s, if_neg (by decide), ek, rd_ok (by omega) (by omega), ei, hme, bd5_s, if_neg c0, if_neg c1, if_neg c2, if_neg c3, if_neg c4, if_neg c5, if_neg c6, if_neg c7, if_pos c8, rd_ok (by omega) (by omega)]
                    · by_cases c9 : x2 = 9
                      · have hmi := c_misses hC.w hC.h (zv_496 hs hr) hC.2.1 hC.g f2 f3 g3 (zOf_99 _ _ _ _ _) g1 hin
                        refine b7 (nI (fb_sm (msS (zGr w h g st r) (mi g (zv w h g st r) (zOf w h g st r))) 256)) ?_ ?_
                        · unfold f_X7_finding
                          rw [e7, bd40_s, w7, bd1_s, if_neg (by decide), ek, rdn_ok (by omega) (by omega), lt25_ok hlt, if_neg c0, if_neg c1, if_neg c2, if_neg c3, if_neg c4, if_neg c5, if_neg c6, if_neg c7, if_neg c8, if_pos c9, hmi, bd1_s]
                        · unfold f_X8_finding
                          rw [e8, bd26_s, w8, bd1_s, if_neg (by decide), ek, rd_ok (by omega) (by omega), ei, hme, bd5_s, if_neg c0, if_neg c1, if_neg c2, if_neg c3, if_neg c4, if_neg c5, if_neg c6, if_neg c7, if_neg c8, if_pos c9]
                      · refine b7 (-2) ?_ ?_
                        · unfold f_X7_finding
                          rw [e7, bd40_s, w7, bd1_s, if_neg (by decide), ek, rdn_ok (by omega) (by omega), lt25_ok hlt, if_neg c0, if_neg c1, if_neg c2, if_neg c3, if_neg c4, if_neg c5, if_neg c6, if_neg c7, if_neg c8, if_neg c9]
                        · unfold f_X8_finding
                          rw [e8, bd26_s, w8, bd1_s, if_neg (by decide), ek, rd_ok (by omega) (by omega), ei, hme, bd5_s, if_neg c0, if_neg c1, if_neg c2, if_neg c3, if_neg c4, if_neg c5, if_neg c6, if_neg c7, if_neg c8, if_neg c9]
  · have hn : ∀ i, i < zFn w h g st → x1 ≠ nI i := fun i hi z => c ⟨i, hi, z⟩
    refine ⟨-1, rc', om', _, _, _, _, _, _, _, _, _, _, _, _, _, _, _, _, _, _, _, _, _, _, _, _, _, _, _, _, _, _, _, _, _, _, _, _, _, _, _, _, _, _, _, _, _, _, _, _, _, _, _, _, _, _, _, _, _, _, _, _, _, _, _, _, _, m_left, m_right, m_top, m_low, m_missed, ?_, ?_, hS', hM'⟩
    · unfold f_X7_finding
      rw [e7, bd40_s, q1, wi_eq, wi_cf (by omega) hn, bd1_s, if_pos rfl]
    · unfold f_X8_finding
      rw [e8, bd26_s, n1, wi_cf (by omega) hn, bd1_s, if_pos rfl]
