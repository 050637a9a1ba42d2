set_option maxHeartbeats 1000000 in
set_option maxRecDepth 100000 in
theorem c_X8_isFindingAhead (l : Launch) (G : va_G) (kc : Nat → ClassId) (o : Nat) (ad : Nat → Nat) {c_worked : Int32} {c_width : Int32} {c_height : Int32} {c_grey : (Nat → Int32)} {c_setting : (Nat → Int32)} {c_leastOf : (Nat → Int32)} {c_mostOf : (Nat → Int32)} {c_lifted : (Nat → Int32)} {c_squares : Int32} {c_square : (Nat → Int32)} {c_dark : (Nat → Int32)} {c_light : (Nat → Int32)} {c_like : (Nat → Int32)} {c_isCrowded : (Nat → Int32)} {c_pairs : Int32} {c_first : (Nat → Int32)} {c_second : (Nat → Int32)} {c_votes : (Nat → Int32)} {c_shifts : Int32} {c_shiftX : (Nat → Int32)} {c_shiftY : (Nat → Int32)} {c_regionAt : (Nat → Int32)} {c_regions : Int32} {c_regionShift : (Nat → Int32)} {c_regionPairs : (Nat → Int32)} {c_regionFirst : (Nat → Int32)} {c_findings : Int32} {c_regionOf : (Nat → Int32)} {c_offset : (Nat → Int32)} {c_begun : (Nat → Int32)} {c_held : (Nat → Int32)} {c_isIn : (Nat → Int32)} {c_numbered : (Nat → Int32)} {c_left : Int32} {c_right : Int32} {c_top : Int32} {c_low : Int32} {c_missed : Int32} (x1 : Int32) (x2 : Int32) {r : Int32} {FU : Nat} (h : f_X8_isFindingAhead FU c_regionShift c_regionFirst c_regionOf c_held x1 x2 = some r) : CTi l G kc yX8_isFindingAhead cX8_isFindingAhead 3 (some .boolean) (rmq 1 21) [.ref o, .int x1, .int x2] (mW o ad kc c_worked c_width c_height c_grey c_setting c_leastOf c_mostOf c_lifted c_squares c_square c_dark c_light c_like c_isCrowded c_pairs c_first c_second c_votes c_shifts c_shiftX c_shiftY c_regionAt c_regions c_regionShift c_regionPairs c_regionFirst c_findings c_regionOf c_offset c_begun c_held c_isIn c_numbered c_left c_right c_top c_low c_missed) (mW o ad kc c_worked c_width c_height c_grey c_setting c_leastOf c_mostOf c_lifted c_squares c_square c_dark c_light c_like c_isCrowded c_pairs c_first c_second c_votes c_shifts c_shiftX c_shiftY c_regionAt c_regions c_regionShift c_regionPairs c_regionFirst c_findings c_regionOf c_offset c_begun c_held c_isIn c_numbered c_left c_right c_top c_low c_missed) r := by
  refine CTi.mk (by decide) (Nat.le_of_ble_eq_true rfl) ?_
  intro p e s m args below meth c A ls Q hQ S hr hlocks hN hA hK hl hP hD hS
  have hx := S.1
  have hb := S.2.1
  have hl : lv_has ls 3 [(0, .ref o), (1, .int x1), (2, .int x2)] := hl
  unfold f_X8_isFindingAhead at h
  refine lv_aload_n hx hb dX8_isFindingAhead_0 rfl (lv_at hl 0 rfl) ?_
  refine r_get S gf_X8_84 hK hP 0 rfl rfl dX8_isFindingAhead_1 ?_
  refine lv_iload_n hx hb dX8_isFindingAhead_4 rfl (lv_at hl 1 rfl) ?_
  refine r_iald hx hb hK hP 23 rfl dX8_isFindingAhead_5 h (fun y_1 h => ?_)
  refine lv_aload_n hx hb dX8_isFindingAhead_6 rfl (lv_at hl 0 rfl) ?_
  refine r_get S gf_X8_84 hK hP 0 rfl rfl dX8_isFindingAhead_7 ?_
  refine lv_iload_n hx hb dX8_isFindingAhead_10 rfl (lv_at hl 2 rfl) ?_
  refine r_iald hx hb hK hP 23 rfl dX8_isFindingAhead_11 h (fun y_2 h => ?_)
  refine lv_icmp_eq (tgt := 36) hx hb dX8_isFindingAhead_12 (by decide) (fun q_17 => ?_) (fun q_17 => ?_)
  · have h := it_t q_17 h
    refine lv_aload_n hx hb dX8_isFindingAhead_36 rfl (lv_at hl 0 rfl) ?_
    refine lv_iload_n hx hb dX8_isFindingAhead_37 rfl (lv_at hl 1 rfl) ?_
    obtain ⟨r_3, hq, h⟩ := bd1_e h
    refine cs_Vi (rest := []) (ci := 7) S hN cb_X8_shiftOf ml_X8_205 ⟨Nat.le_of_ble_eq_true rfl, Nat.le_of_ble_eq_true rfl⟩ (c_X8_shiftOf l G kc o ad x1 hq) hK hP hD hS hA 0 rfl rfl rfl rfl rfl (Nat.le_of_ble_eq_true rfl) hl.1 dX8_isFindingAhead_38 (fun H locs hP hD hS => ?_)
    refine lv_aload_n hx hb dX8_isFindingAhead_41 rfl (lv_at hl 0 rfl) ?_
    refine lv_iload_n hx hb dX8_isFindingAhead_42 rfl (lv_at hl 2 rfl) ?_
    obtain ⟨r_4, hq, h⟩ := bd1_e h
    refine cs_Vi (rest := [.int r_3]) (ci := 7) S hN cb_X8_shiftOf ml_X8_205 ⟨Nat.le_of_ble_eq_true rfl, Nat.le_of_ble_eq_true rfl⟩ (c_X8_shiftOf l G kc o ad x2 hq) hK hP hD hS hA 0 rfl rfl rfl rfl rfl (Nat.le_of_ble_eq_true rfl) hl.1 dX8_isFindingAhead_43 (fun H locs hP hD hS => ?_)
    refine lv_icmp_eq (tgt := 68) hx hb dX8_isFindingAhead_46 (by decide) (fun q_13 => ?_) (fun q_13 => ?_)
    · have h := it_t q_13 h
      refine lv_aload_n hx hb dX8_isFindingAhead_68 rfl (lv_at hl 0 rfl) ?_
      refine r_get S gf_X8_72 hK hP 0 rfl rfl dX8_isFindingAhead_69 ?_
      refine lv_aload_n hx hb dX8_isFindingAhead_72 rfl (lv_at hl 0 rfl) ?_
      refine r_get S gf_X8_75 hK hP 0 rfl rfl dX8_isFindingAhead_73 ?_
      refine lv_iload_n hx hb dX8_isFindingAhead_76 rfl (lv_at hl 1 rfl) ?_
      refine r_iald hx hb hK hP 20 rfl dX8_isFindingAhead_77 h (fun y_5 h => ?_)
      refine r_iald hx hb hK hP 19 rfl dX8_isFindingAhead_78 h (fun y_6 h => ?_)
      refine lv_aload_n hx hb dX8_isFindingAhead_79 rfl (lv_at hl 0 rfl) ?_
      refine r_get S gf_X8_72 hK hP 0 rfl rfl dX8_isFindingAhead_80 ?_
      refine lv_aload_n hx hb dX8_isFindingAhead_83 rfl (lv_at hl 0 rfl) ?_
      refine r_get S gf_X8_75 hK hP 0 rfl rfl dX8_isFindingAhead_84 ?_
      refine lv_iload_n hx hb dX8_isFindingAhead_87 rfl (lv_at hl 2 rfl) ?_
      refine r_iald hx hb hK hP 20 rfl dX8_isFindingAhead_88 h (fun y_7 h => ?_)
      refine r_iald hx hb hK hP 19 rfl dX8_isFindingAhead_89 h (fun y_8 h => ?_)
      refine lv_icmp_ge (tgt := 97) hx hb dX8_isFindingAhead_90 (by decide) (fun q_9 => ?_) (fun q_9 => ?_)
      · have h := it_t q_9 h
        refine lv_iconst (v := 0) hx hb dX8_isFindingAhead_97 (by decide) ?_
        cases h
        exact ret_i hx hb hr rfl hQ hlocks hK hP hD hS dX8_isFindingAhead_98
      · have h := it_f q_9 h
        refine lv_iconst (v := 1) hx hb dX8_isFindingAhead_93 (by decide) ?_
        refine lv_goto (tgt := 98) hx hb dX8_isFindingAhead_94 (by decide) ?_
        cases h
        exact ret_i hx hb hr rfl hQ hlocks hK hP hD hS dX8_isFindingAhead_98
    · have h := it_f q_13 h
      refine lv_aload_n hx hb dX8_isFindingAhead_49 rfl (lv_at hl 0 rfl) ?_
      refine lv_iload_n hx hb dX8_isFindingAhead_50 rfl (lv_at hl 1 rfl) ?_
      obtain ⟨r_10, hq, h⟩ := bd1_e h
      refine cs_Vi (rest := []) (ci := 7) S hN cb_X8_shiftOf ml_X8_205 ⟨Nat.le_of_ble_eq_true rfl, Nat.le_of_ble_eq_true rfl⟩ (c_X8_shiftOf l G kc o ad x1 hq) hK hP hD hS hA 0 rfl rfl rfl rfl rfl (Nat.le_of_ble_eq_true rfl) hl.1 dX8_isFindingAhead_51 (fun H locs hP hD hS => ?_)
      refine lv_aload_n hx hb dX8_isFindingAhead_54 rfl (lv_at hl 0 rfl) ?_
      refine lv_iload_n hx hb dX8_isFindingAhead_55 rfl (lv_at hl 2 rfl) ?_
      obtain ⟨r_11, hq, h⟩ := bd1_e h
      refine cs_Vi (rest := [.int r_10]) (ci := 7) S hN cb_X8_shiftOf ml_X8_205 ⟨Nat.le_of_ble_eq_true rfl, Nat.le_of_ble_eq_true rfl⟩ (c_X8_shiftOf l G kc o ad x2 hq) hK hP hD hS hA 0 rfl rfl rfl rfl rfl (Nat.le_of_ble_eq_true rfl) hl.1 dX8_isFindingAhead_56 (fun H locs hP hD hS => ?_)
      refine lv_icmp_ge (tgt := 66) hx hb dX8_isFindingAhead_59 (by decide) (fun q_12 => ?_) (fun q_12 => ?_)
      · have h := it_t q_12 h
        refine lv_iconst (v := 0) hx hb dX8_isFindingAhead_66 (by decide) ?_
        cases h
        exact ret_i hx hb hr rfl hQ hlocks hK hP hD hS dX8_isFindingAhead_67
      · have h := it_f q_12 h
        refine lv_iconst (v := 1) hx hb dX8_isFindingAhead_62 (by decide) ?_
        refine lv_goto (tgt := 67) hx hb dX8_isFindingAhead_63 (by decide) ?_
        cases h
        exact ret_i hx hb hr rfl hQ hlocks hK hP hD hS dX8_isFindingAhead_67
  · have h := it_f q_17 h
    refine lv_aload_n hx hb dX8_isFindingAhead_15 rfl (lv_at hl 0 rfl) ?_
    refine r_get S gf_X8_84 hK hP 0 rfl rfl dX8_isFindingAhead_16 ?_
    refine lv_iload_n hx hb dX8_isFindingAhead_19 rfl (lv_at hl 1 rfl) ?_
    refine r_iald hx hb hK hP 23 rfl dX8_isFindingAhead_20 h (fun y_14 h => ?_)
    refine lv_aload_n hx hb dX8_isFindingAhead_21 rfl (lv_at hl 0 rfl) ?_
    refine r_get S gf_X8_84 hK hP 0 rfl rfl dX8_isFindingAhead_22 ?_
    refine lv_iload_n hx hb dX8_isFindingAhead_25 rfl (lv_at hl 2 rfl) ?_
    refine r_iald hx hb hK hP 23 rfl dX8_isFindingAhead_26 h (fun y_15 h => ?_)
    refine lv_icmp_le (tgt := 34) hx hb dX8_isFindingAhead_27 (by decide) (fun q_16 => ?_) (fun q_16 => ?_)
    · have h := it_t q_16 h
      refine lv_iconst (v := 0) hx hb dX8_isFindingAhead_34 (by decide) ?_
      cases h
      exact ret_i hx hb hr rfl hQ hlocks hK hP hD hS dX8_isFindingAhead_35
    · have h := it_f q_16 h
      refine lv_iconst (v := 1) hx hb dX8_isFindingAhead_30 (by decide) ?_
      refine lv_goto (tgt := 35) hx hb dX8_isFindingAhead_31 (by decide) ?_
      cases h
      exact ret_i hx hb hr rfl hQ hlocks hK hP hD hS dX8_isFindingAhead_35
set_option maxHeartbeats 1000000 in
set_option maxRecDepth 100000 in
theorem c_X8_findFindings (l : Launch) (G : va_G) (kc : Nat → ClassId) (o : Nat) (ad : Nat → Nat) {c_worked : Int32} {c_width : Int32} {c_height : Int32} {c_grey : (Nat → Int32)} {c_setting : (Nat → Int32)} {c_leastOf : (Nat → Int32)} {c_mostOf : (Nat → Int32)} {c_lifted : (Nat → Int32)} {c_squares : Int32} {c_square : (Nat → Int32)} {c_dark : (Nat → Int32)} {c_light : (Nat → Int32)} {c_like : (Nat → Int32)} {c_isCrowded : (Nat → Int32)} {c_pairs : Int32} {c_first : (Nat → Int32)} {c_second : (Nat → Int32)} {c_votes : (Nat → Int32)} {c_shifts : Int32} {c_shiftX : (Nat → Int32)} {c_shiftY : (Nat → Int32)} {c_regionAt : (Nat → Int32)} {c_regions : Int32} {c_regionShift : (Nat → Int32)} {c_regionPairs : (Nat → Int32)} {c_regionFirst : (Nat → Int32)} {c_findings : Int32} {c_regionOf : (Nat → Int32)} {c_offset : (Nat → Int32)} {c_begun : (Nat → Int32)} {c_held : (Nat → Int32)} {c_isIn : (Nat → Int32)} {c_numbered : (Nat → Int32)} {c_left : Int32} {c_right : Int32} {c_top : Int32} {c_low : Int32} {c_missed : Int32}  {c_worked' : Int32} {c_squares' : Int32} {c_square' : (Nat → Int32)} {c_dark' : (Nat → Int32)} {c_light' : (Nat → Int32)} {c_like' : (Nat → Int32)} {c_isCrowded' : (Nat → Int32)} {c_pairs' : Int32} {c_first' : (Nat → Int32)} {c_second' : (Nat → Int32)} {c_votes' : (Nat → Int32)} {c_shifts' : Int32} {c_shiftX' : (Nat → Int32)} {c_shiftY' : (Nat → Int32)} {c_regionAt' : (Nat → Int32)} {c_regions' : Int32} {c_regionShift' : (Nat → Int32)} {c_regionPairs' : (Nat → Int32)} {c_regionFirst' : (Nat → Int32)} {c_findings' : Int32} {c_regionOf' : (Nat → Int32)} {c_offset' : (Nat → Int32)} {c_begun' : (Nat → Int32)} {c_held' : (Nat → Int32)} {c_isIn' : (Nat → Int32)} {c_numbered' : (Nat → Int32)} {FU : Nat} (h : f_X8_findFindings FU c_worked c_width c_height c_grey c_setting c_squares c_square c_dark c_light c_like c_isCrowded c_pairs c_first c_second c_votes c_shifts c_shiftX c_shiftY c_regionAt c_regions c_regionShift c_regionPairs c_regionFirst c_findings c_regionOf c_offset c_begun c_held c_isIn c_numbered = some (c_worked', c_squares', c_square', c_dark', c_light', c_like', c_isCrowded', c_pairs', c_first', c_second', c_votes', c_shifts', c_shiftX', c_shiftY', c_regionAt', c_regions', c_regionShift', c_regionPairs', c_regionFirst', c_findings', c_regionOf', c_offset', c_begun', c_held', c_isIn', c_numbered')) : CTv l G kc yX8_findFindings cX8_findFindings 5 none (rmq 7 162) [.ref o] (mW o ad kc c_worked c_width c_height c_grey c_setting c_leastOf c_mostOf c_lifted c_squares c_square c_dark c_light c_like c_isCrowded c_pairs c_first c_second c_votes c_shifts c_shiftX c_shiftY c_regionAt c_regions c_regionShift c_regionPairs c_regionFirst c_findings c_regionOf c_offset c_begun c_held c_isIn c_numbered c_left c_right c_top c_low c_missed) (mW o ad kc (c_worked') c_width c_height c_grey c_setting c_leastOf c_mostOf c_lifted (c_squares') (c_square') (c_dark') (c_light') (c_like') (c_isCrowded') (c_pairs') (c_first') (c_second') (c_votes') (c_shifts') (c_shiftX') (c_shiftY') (c_regionAt') (c_regions') (c_regionShift') (c_regionPairs') (c_regionFirst') (c_findings') (c_regionOf') (c_offset') (c_begun') (c_held') (c_isIn') (c_numbered') c_left c_right c_top c_low c_missed) := by
  refine CTv.mk (by decide) (Nat.le_of_ble_eq_true rfl) ?_
  intro p e s m args below meth c A ls Q hQ S hr hlocks hN hA hK hl hP hD hS
  have hx := S.1
  have hb := S.2.1
  have hl : lv_has ls 5 [(0, .ref o)] := hl
  unfold f_X8_findFindings at h
  refine lv_aload_n hx hb dX8_findFindings_0 rfl (lv_at hl 0 rfl) ?_
  refine r_get S gf_X8_93 hK hP 0 rfl rfl dX8_findFindings_1 ?_
  refine lv_iconst (v := 4) hx hb dX8_findFindings_4 (by decide) ?_
  refine lv_icmp_le (tgt := 9) hx hb dX8_findFindings_5 (by decide) (fun q_58 => ?_) (fun q_58 => ?_)
  · have h := it_t q_58 h
    refine lv_aload_n hx hb dX8_findFindings_9 rfl (lv_at hl 0 rfl) ?_
    obtain ⟨c_worked_1, c_squares_2, c_square_3, c_dark_4, c_light_5, c_like_6, c_isCrowded_7, c_pairs_8, c_first_9, c_second_10, c_votes_11, c_shifts_12, c_shiftX_13, c_shiftY_14, c_regionAt_15, c_regions_16, c_regionShift_17, c_regionPairs_18, c_regionFirst_19, hq, h⟩ := bd19_e h
    refine cs_Vv (rest := []) (ci := 7) S hN cb_X8_findRegions ml_X8_196 ⟨Nat.le_of_ble_eq_true rfl, Nat.le_of_ble_eq_true rfl⟩ (c_X8_findRegions l G kc o ad  hq) hK hP hD hS hA 0 rfl rfl rfl rfl rfl (Nat.le_of_ble_eq_true rfl) hl.1 dX8_findFindings_10 (fun H locs hP hD hS => ?_)
    refine lv_aload_n hx hb dX8_findFindings_13 rfl (lv_at hl 0 rfl) ?_
    refine lv_iconst (v := 5) hx hb dX8_findFindings_14 (by decide) ?_
    refine r_put S pf_X8_93 hK hP hD hS 0 rfl (Nat.le_of_ble_eq_true rfl) dX8_findFindings_15 (fun H locs hP hD hS => ?_)
    have hP : VP G (mW o ad kc 5 c_width c_height c_grey c_setting c_leastOf c_mostOf c_lifted c_squares_2 c_square_3 c_dark_4 c_light_5 c_like_6 c_isCrowded_7 c_pairs_8 c_first_9 c_second_10 c_votes_11 c_shifts_12 c_shiftX_13 c_shiftY_14 c_regionAt_15 c_regions_16 c_regionShift_17 c_regionPairs_18 c_regionFirst_19 c_findings c_regionOf c_offset c_begun c_held c_isIn c_numbered c_left c_right c_top c_low c_missed) H := hP
    have hD : va_D A (mW o ad kc 5 c_width c_height c_grey c_setting c_leastOf c_mostOf c_lifted c_squares_2 c_square_3 c_dark_4 c_light_5 c_like_6 c_isCrowded_7 c_pairs_8 c_first_9 c_second_10 c_votes_11 c_shifts_12 c_shiftX_13 c_shiftY_14 c_regionAt_15 c_regions_16 c_regionShift_17 c_regionPairs_18 c_regionFirst_19 c_findings c_regionOf c_offset c_begun c_held c_isIn c_numbered c_left c_right c_top c_low c_missed) := hD
    refine lv_aload_n hx hb dX8_findFindings_18 rfl (lv_at hl 0 rfl) ?_
    refine lv_iconst (v := 0) hx hb dX8_findFindings_19 (by decide) ?_
    refine r_put S pf_X8_199 hK hP hD hS 0 rfl (Nat.le_of_ble_eq_true rfl) dX8_findFindings_20 (fun H locs hP hD hS => ?_)
    have hP : VP G (mW o ad kc 5 c_width c_height c_grey c_setting c_leastOf c_mostOf c_lifted c_squares_2 c_square_3 c_dark_4 c_light_5 c_like_6 c_isCrowded_7 c_pairs_8 c_first_9 c_second_10 c_votes_11 c_shifts_12 c_shiftX_13 c_shiftY_14 c_regionAt_15 c_regions_16 c_regionShift_17 c_regionPairs_18 c_regionFirst_19 0 c_regionOf c_offset c_begun c_held c_isIn c_numbered c_left c_right c_top c_low c_missed) H := hP
    have hD : va_D A (mW o ad kc 5 c_width c_height c_grey c_setting c_leastOf c_mostOf c_lifted c_squares_2 c_square_3 c_dark_4 c_light_5 c_like_6 c_isCrowded_7 c_pairs_8 c_first_9 c_second_10 c_votes_11 c_shifts_12 c_shiftX_13 c_shiftY_14 c_regionAt_15 c_regions_16 c_regionShift_17 c_regionPairs_18 c_regionFirst_19 0 c_regionOf c_offset c_begun c_held c_isIn c_numbered c_left c_right c_top c_low c_missed) := hD
    refine lv_aload_n hx hb dX8_findFindings_23 rfl (lv_at hl 0 rfl) ?_
    obtain ⟨r_20, hq, h⟩ := bd1_e h
    refine cs_Vi (rest := []) (ci := 7) S hN cb_X8_nextRegion ml_X8_226 ⟨Nat.le_of_ble_eq_true rfl, Nat.le_of_ble_eq_true rfl⟩ (c_X8_nextRegion l G kc o ad  hq) hK hP hD hS hA 0 rfl rfl rfl rfl rfl (Nat.le_of_ble_eq_true rfl) hl.1 dX8_findFindings_24 (fun H locs hP hD hS => ?_)
    refine lv_istore_n (lv' := [(1, .int r_20), (0, .ref o)]) hx hb dX8_findFindings_27 rfl hl (by decide) rfl (fun ls hl => ?_)
    refine jn_w (t := fun k => f_X8_findFindings_L28 FU c_width c_height c_grey c_setting c_squares_2 c_square_3 c_dark_4 c_shiftX_13 c_shiftY_14 c_regionAt_15 c_regions_16 c_regionShift_17 c_regionPairs_18 c_regionFirst_19 k FU r_20 0 c_regionOf c_offset c_begun c_held c_isIn) (fun (k : Int32 → Int32 → (Nat → Int32) → (Nat → Int32) → (Nat → Int32) → (Nat → Int32) → (Nat → Int32) → Option (Int32 × Int32 × (Nat → Int32) × (Nat → Int32) × (Nat → Int32) × (Nat → Int32) × (Nat → Int32) × Int32 × (Nat → Int32) × (Nat → Int32) × (Nat → Int32) × Int32 × (Nat → Int32) × (Nat → Int32) × (Nat → Int32) × Int32 × (Nat → Int32) × (Nat → Int32) × (Nat → Int32) × Int32 × (Nat → Int32) × (Nat → Int32) × (Nat → Int32) × (Nat → Int32) × (Nat → Int32) × (Nat → Int32))) => ∀ (x1_21 : Int32) (c_findings_22 : Int32) (c_regionOf_23 : (Nat → Int32)) (c_offset_24 : (Nat → Int32)) (c_begun_25 : (Nat → Int32)) (c_held_26 : (Nat → Int32)) (c_isIn_27 : (Nat → Int32)) (H : Heap) (locs : List Loc) (ls : Array Slot), VP G (mW o ad kc 5 c_width c_height c_grey c_setting c_leastOf c_mostOf c_lifted c_squares_2 c_square_3 c_dark_4 c_light_5 c_like_6 c_isCrowded_7 c_pairs_8 c_first_9 c_second_10 c_votes_11 c_shifts_12 c_shiftX_13 c_shiftY_14 c_regionAt_15 c_regions_16 c_regionShift_17 c_regionPairs_18 c_regionFirst_19 c_findings_22 c_regionOf_23 c_offset_24 c_begun_25 c_held_26 c_isIn_27 c_numbered c_left c_right c_top c_low c_missed) H → va_D A (mW o ad kc 5 c_width c_height c_grey c_setting c_leastOf c_mostOf c_lifted c_squares_2 c_square_3 c_dark_4 c_light_5 c_like_6 c_isCrowded_7 c_pairs_8 c_first_9 c_second_10 c_votes_11 c_shifts_12 c_shiftX_13 c_shiftY_14 c_regionAt_15 c_regions_16 c_regionShift_17 c_regionPairs_18 c_regionFirst_19 c_findings_22 c_regionOf_23 c_offset_24 c_begun_25 c_held_26 c_isIn_27 c_numbered c_left c_right c_top c_low c_missed) → va_S A s.heap H locs → lv_has ls 5 [(0, .ref o)] → k x1_21 c_findings_22 c_regionOf_23 c_offset_24 c_begun_25 c_held_26 c_isIn_27 = some (c_worked', c_squares', c_square', c_dark', c_light', c_like', c_isCrowded', c_pairs', c_first', c_second', c_votes', c_shifts', c_shiftX', c_shiftY', c_regionAt', c_regions', c_regionShift', c_regionPairs', c_regionFirst', c_findings', c_regionOf', c_offset', c_begun', c_held', c_isIn', c_numbered') → WW p l e (rmq 7 162) s m args below meth c Q H locs 87 ls []) h ?_ ?_
    · intro x1_21 c_findings_22 c_regionOf_23 c_offset_24 c_begun_25 c_held_26 c_isIn_27 H locs ls hP hD hS hl h
      refine lv_iconst (v := 0) hx hb dX8_findFindings_87 (by decide) ?_
      refine lv_istore_n (lv' := [(2, .int 0), (0, .ref o)]) hx hb dX8_findFindings_88 rfl hl (by decide) rfl (fun ls hl => ?_)
      refine jn_w (t := fun k => f_X8_findFindings_L89 FU c_regionShift_17 c_regionFirst_19 c_findings_22 c_regionOf_23 c_held_26 k FU 0 c_numbered) (fun (k : Int32 → (Nat → Int32) → Option (Int32 × Int32 × (Nat → Int32) × (Nat → Int32) × (Nat → Int32) × (Nat → Int32) × (Nat → Int32) × Int32 × (Nat → Int32) × (Nat → Int32) × (Nat → Int32) × Int32 × (Nat → Int32) × (Nat → Int32) × (Nat → Int32) × Int32 × (Nat → Int32) × (Nat → Int32) × (Nat → Int32) × Int32 × (Nat → Int32) × (Nat → Int32) × (Nat → Int32) × (Nat → Int32) × (Nat → Int32) × (Nat → Int32))) => ∀ (x2_31 : Int32) (c_numbered_32 : (Nat → Int32)) (H : Heap) (locs : List Loc) (ls : Array Slot), VP G (mW o ad kc 5 c_width c_height c_grey c_setting c_leastOf c_mostOf c_lifted c_squares_2 c_square_3 c_dark_4 c_light_5 c_like_6 c_isCrowded_7 c_pairs_8 c_first_9 c_second_10 c_votes_11 c_shifts_12 c_shiftX_13 c_shiftY_14 c_regionAt_15 c_regions_16 c_regionShift_17 c_regionPairs_18 c_regionFirst_19 c_findings_22 c_regionOf_23 c_offset_24 c_begun_25 c_held_26 c_isIn_27 c_numbered_32 c_left c_right c_top c_low c_missed) H → va_D A (mW o ad kc 5 c_width c_height c_grey c_setting c_leastOf c_mostOf c_lifted c_squares_2 c_square_3 c_dark_4 c_light_5 c_like_6 c_isCrowded_7 c_pairs_8 c_first_9 c_second_10 c_votes_11 c_shifts_12 c_shiftX_13 c_shiftY_14 c_regionAt_15 c_regions_16 c_regionShift_17 c_regionPairs_18 c_regionFirst_19 c_findings_22 c_regionOf_23 c_offset_24 c_begun_25 c_held_26 c_isIn_27 c_numbered_32 c_left c_right c_top c_low c_missed) → va_S A s.heap H locs → lv_has ls 5 [] → k x2_31 c_numbered_32 = some (c_worked', c_squares', c_square', c_dark', c_light', c_like', c_isCrowded', c_pairs', c_first', c_second', c_votes', c_shifts', c_shiftX', c_shiftY', c_regionAt', c_regions', c_regionShift', c_regionPairs', c_regionFirst', c_findings', c_regionOf', c_offset', c_begun', c_held', c_isIn', c_numbered') → WW p l e (rmq 7 162) s m args below meth c Q H locs 148 ls []) h ?_ ?_
      · intro x2_31 c_numbered_32 H locs ls hP hD hS hl h
        cases h
        exact ret_v hx hb hr hQ hlocks hK hP hD hS dX8_findFindings_148
      · intro k_33 K_34 h
        have L_35 : ∀ (n : Nat) (x2_31 : Int32) (c_numbered_32 : (Nat → Int32)) (H : Heap) (locs : List Loc) (ls : Array Slot), VP G (mW o ad kc 5 c_width c_height c_grey c_setting c_leastOf c_mostOf c_lifted c_squares_2 c_square_3 c_dark_4 c_light_5 c_like_6 c_isCrowded_7 c_pairs_8 c_first_9 c_second_10 c_votes_11 c_shifts_12 c_shiftX_13 c_shiftY_14 c_regionAt_15 c_regions_16 c_regionShift_17 c_regionPairs_18 c_regionFirst_19 c_findings_22 c_regionOf_23 c_offset_24 c_begun_25 c_held_26 c_isIn_27 c_numbered_32 c_left c_right c_top c_low c_missed) H → va_D A (mW o ad kc 5 c_width c_height c_grey c_setting c_leastOf c_mostOf c_lifted c_squares_2 c_square_3 c_dark_4 c_light_5 c_like_6 c_isCrowded_7 c_pairs_8 c_first_9 c_second_10 c_votes_11 c_shifts_12 c_shiftX_13 c_shiftY_14 c_regionAt_15 c_regions_16 c_regionShift_17 c_regionPairs_18 c_regionFirst_19 c_findings_22 c_regionOf_23 c_offset_24 c_begun_25 c_held_26 c_isIn_27 c_numbered_32 c_left c_right c_top c_low c_missed) → va_S A s.heap H locs → lv_has ls 5 [(0, .ref o), (2, .int x2_31)] → f_X8_findFindings_L89 FU c_regionShift_17 c_regionFirst_19 c_findings_22 c_regionOf_23 c_held_26 k_33 n x2_31 c_numbered_32 = some (c_worked', c_squares', c_square', c_dark', c_light', c_like', c_isCrowded', c_pairs', c_first', c_second', c_votes', c_shifts', c_shiftX', c_shiftY', c_regionAt', c_regions', c_regionShift', c_regionPairs', c_regionFirst', c_findings', c_regionOf', c_offset', c_begun', c_held', c_isIn', c_numbered') → WW p l e (rmq 7 162) s m args below meth c Q H locs 89 ls [] := by
          intro n
          induction n with
          | zero => intro x2_31 c_numbered_32 H locs ls hP hD hS hl h; rw [f_X8_findFindings_L89] at h; cases h
          | succ n ih =>
            intro x2_31 c_numbered_32 H locs ls hP hD hS hl h
            rw [f_X8_findFindings_L89] at h
            refine lv_iload_n hx hb dX8_findFindings_89 rfl (lv_at hl 1 rfl) ?_
            refine lv_aload_n hx hb dX8_findFindings_90 rfl (lv_at hl 0 rfl) ?_
            refine r_get S gf_X8_199 hK hP 0 rfl rfl dX8_findFindings_91 ?_
            refine lv_icmp_ge (tgt := 148) hx hb dX8_findFindings_94 (by decide) (fun q_48 => ?_) (fun q_48 => ?_)
            · have h := it_t q_48 h
              exact K_34 x2_31 c_numbered_32 _ _ _ hP hD hS (lv_sub hl [] rfl) h
            · have h := it_f q_48 h
              refine lv_iconst (v := 0) hx hb dX8_findFindings_97 (by decide) ?_
              refine lv_istore_n (lv' := [(3, .int 0), (0, .ref o), (2, .int x2_31)]) hx hb dX8_findFindings_98 rfl hl (by decide) rfl (fun ls hl => ?_)
              refine lv_iconst (v := 0) hx hb dX8_findFindings_99 (by decide) ?_
              refine lv_istore (lv' := [(4, .int 0), (3, .int 0), (0, .ref o), (2, .int x2_31)]) hx hb dX8_findFindings_100 hl (by decide) rfl (fun ls hl => ?_)
              refine jn_w (t := fun k => f_X8_findFindings_L102 FU x2_31 c_regionShift_17 c_regionFirst_19 c_findings_22 c_regionOf_23 c_held_26 k FU 0 0) (fun (k : Int32 → Int32 → Option (Int32 × Int32 × (Nat → Int32) × (Nat → Int32) × (Nat → Int32) × (Nat → Int32) × (Nat → Int32) × Int32 × (Nat → Int32) × (Nat → Int32) × (Nat → Int32) × Int32 × (Nat → Int32) × (Nat → Int32) × (Nat → Int32) × Int32 × (Nat → Int32) × (Nat → Int32) × (Nat → Int32) × Int32 × (Nat → Int32) × (Nat → Int32) × (Nat → Int32) × (Nat → Int32) × (Nat → Int32) × (Nat → Int32))) => ∀ (x3_36 : Int32) (x4_37 : Int32) (H : Heap) (locs : List Loc) (ls : Array Slot), VP G (mW o ad kc 5 c_width c_height c_grey c_setting c_leastOf c_mostOf c_lifted c_squares_2 c_square_3 c_dark_4 c_light_5 c_like_6 c_isCrowded_7 c_pairs_8 c_first_9 c_second_10 c_votes_11 c_shifts_12 c_shiftX_13 c_shiftY_14 c_regionAt_15 c_regions_16 c_regionShift_17 c_regionPairs_18 c_regionFirst_19 c_findings_22 c_regionOf_23 c_offset_24 c_begun_25 c_held_26 c_isIn_27 c_numbered_32 c_left c_right c_top c_low c_missed) H → va_D A (mW o ad kc 5 c_width c_height c_grey c_setting c_leastOf c_mostOf c_lifted c_squares_2 c_square_3 c_dark_4 c_light_5 c_like_6 c_isCrowded_7 c_pairs_8 c_first_9 c_second_10 c_votes_11 c_shifts_12 c_shiftX_13 c_shiftY_14 c_regionAt_15 c_regions_16 c_regionShift_17 c_regionPairs_18 c_regionFirst_19 c_findings_22 c_regionOf_23 c_offset_24 c_begun_25 c_held_26 c_isIn_27 c_numbered_32 c_left c_right c_top c_low c_missed) → va_S A s.heap H locs → lv_has ls 5 [(0, .ref o), (2, .int x2_31), (3, .int x3_36)] → k x3_36 x4_37 = some (c_worked', c_squares', c_square', c_dark', c_light', c_like', c_isCrowded', c_pairs', c_first', c_second', c_votes', c_shifts', c_shiftX', c_shiftY', c_regionAt', c_regions', c_regionShift', c_regionPairs', c_regionFirst', c_findings', c_regionOf', c_offset', c_begun', c_held', c_isIn', c_numbered') → WW p l e (rmq 7 162) s m args below meth c Q H locs 135 ls []) h ?_ ?_
              · intro x3_36 x4_37 H locs ls hP hD hS hl h
                refine lv_aload_n hx hb dX8_findFindings_135 rfl (lv_at hl 0 rfl) ?_
                refine r_get S gf_X8_90 hK hP 0 rfl rfl dX8_findFindings_136 ?_
                refine lv_iload_n hx hb dX8_findFindings_139 rfl (lv_at hl 2 rfl) ?_
                refine lv_iload_n hx hb dX8_findFindings_140 rfl (lv_at hl 1 rfl) ?_
                refine r_iast hx hb hK hP hD hS 25 rfl dX8_findFindings_141 h (fun c_numbered_41 H locs hP hD hS h => ?_)
                have hP : VP G (mW o ad kc 5 c_width c_height c_grey c_setting c_leastOf c_mostOf c_lifted c_squares_2 c_square_3 c_dark_4 c_light_5 c_like_6 c_isCrowded_7 c_pairs_8 c_first_9 c_second_10 c_votes_11 c_shifts_12 c_shiftX_13 c_shiftY_14 c_regionAt_15 c_regions_16 c_regionShift_17 c_regionPairs_18 c_regionFirst_19 c_findings_22 c_regionOf_23 c_offset_24 c_begun_25 c_held_26 c_isIn_27 c_numbered_41 c_left c_right c_top c_low c_missed) H := hP
                have hD : va_D A (mW o ad kc 5 c_width c_height c_grey c_setting c_leastOf c_mostOf c_lifted c_squares_2 c_square_3 c_dark_4 c_light_5 c_like_6 c_isCrowded_7 c_pairs_8 c_first_9 c_second_10 c_votes_11 c_shifts_12 c_shiftX_13 c_shiftY_14 c_regionAt_15 c_regions_16 c_regionShift_17 c_regionPairs_18 c_regionFirst_19 c_findings_22 c_regionOf_23 c_offset_24 c_begun_25 c_held_26 c_isIn_27 c_numbered_41 c_left c_right c_top c_low c_missed) := hD
                refine lv_iinc (v := (x2_31 + 1)) (lv' := [(2, .int (x2_31 + 1)), (0, .ref o), (3, .int x3_36)]) hx hb dX8_findFindings_142 hl (k := 1) rfl rfl (by decide) rfl (fun ls hl => ?_)
                refine lv_goto (tgt := 89) hx hb dX8_findFindings_145 (by decide) ?_
                exact ih (x2_31 + 1) c_numbered_41 _ _ _ hP hD hS (lv_sub hl [1, 0] rfl) h
              · intro k_38 K_39 h
                have L_40 : ∀ (n : Nat) (x3_36 : Int32) (x4_37 : Int32) (H : Heap) (locs : List Loc) (ls : Array Slot), VP G (mW o ad kc 5 c_width c_height c_grey c_setting c_leastOf c_mostOf c_lifted c_squares_2 c_square_3 c_dark_4 c_light_5 c_like_6 c_isCrowded_7 c_pairs_8 c_first_9 c_second_10 c_votes_11 c_shifts_12 c_shiftX_13 c_shiftY_14 c_regionAt_15 c_regions_16 c_regionShift_17 c_regionPairs_18 c_regionFirst_19 c_findings_22 c_regionOf_23 c_offset_24 c_begun_25 c_held_26 c_isIn_27 c_numbered_32 c_left c_right c_top c_low c_missed) H → va_D A (mW o ad kc 5 c_width c_height c_grey c_setting c_leastOf c_mostOf c_lifted c_squares_2 c_square_3 c_dark_4 c_light_5 c_like_6 c_isCrowded_7 c_pairs_8 c_first_9 c_second_10 c_votes_11 c_shifts_12 c_shiftX_13 c_shiftY_14 c_regionAt_15 c_regions_16 c_regionShift_17 c_regionPairs_18 c_regionFirst_19 c_findings_22 c_regionOf_23 c_offset_24 c_begun_25 c_held_26 c_isIn_27 c_numbered_32 c_left c_right c_top c_low c_missed) → va_S A s.heap H locs → lv_has ls 5 [(0, .ref o), (2, .int x2_31), (3, .int x3_36), (4, .int x4_37)] → f_X8_findFindings_L102 FU x2_31 c_regionShift_17 c_regionFirst_19 c_findings_22 c_regionOf_23 c_held_26 k_38 n x3_36 x4_37 = some (c_worked', c_squares', c_square', c_dark', c_light', c_like', c_isCrowded', c_pairs', c_first', c_second', c_votes', c_shifts', c_shiftX', c_shiftY', c_regionAt', c_regions', c_regionShift', c_regionPairs', c_regionFirst', c_findings', c_regionOf', c_offset', c_begun', c_held', c_isIn', c_numbered') → WW p l e (rmq 7 162) s m args below meth c Q H locs 102 ls [] := by
                  intro n
                  induction n with
                  | zero => intro x3_36 x4_37 H locs ls hP hD hS hl h; rw [f_X8_findFindings_L102] at h; cases h
                  | succ n ih =>
                    intro x3_36 x4_37 H locs ls hP hD hS hl h
                    rw [f_X8_findFindings_L102] at h
                    refine lv_iload hx hb dX8_findFindings_102 (lv_at hl 3 rfl) ?_
                    refine lv_aload_n hx hb dX8_findFindings_104 rfl (lv_at hl 0 rfl) ?_
                    refine r_get S gf_X8_199 hK hP 0 rfl rfl dX8_findFindings_105 ?_
                    refine lv_icmp_ge (tgt := 135) hx hb dX8_findFindings_108 (by decide) (fun q_47 => ?_) (fun q_47 => ?_)
                    · have h := it_t q_47 h
                      exact K_39 x3_36 x4_37 _ _ _ hP hD hS (lv_sub hl [0, 1, 2] rfl) h
                    · have h := it_f q_47 h
                      refine lv_iload_n hx hb dX8_findFindings_111 rfl (lv_at hl 2 rfl) ?_
                      refine lv_aload_n hx hb dX8_findFindings_112 rfl (lv_at hl 0 rfl) ?_
                      refine lv_iload hx hb dX8_findFindings_113 (lv_at hl 3 rfl) ?_
                      refine lv_iload_n hx hb dX8_findFindings_115 rfl (lv_at hl 1 rfl) ?_
                      obtain ⟨r_42, hq, h⟩ := bd1_e h
                      refine cs_Vi (rest := [.int x3_36]) (ci := 7) S hN cb_X8_isFindingAhead ml_X8_236 ⟨Nat.le_of_ble_eq_true rfl, Nat.le_of_ble_eq_true rfl⟩ (c_X8_isFindingAhead l G kc o ad x4_37 x2_31 hq) hK hP hD hS hA 0 rfl rfl rfl rfl rfl (Nat.le_of_ble_eq_true rfl) hl.1 dX8_findFindings_116 (fun H locs hP hD hS => ?_)
                      refine jn_w (fun (k : Int32 → Option (Int32 × Int32 × (Nat → Int32) × (Nat → Int32) × (Nat → Int32) × (Nat → Int32) × (Nat → Int32) × Int32 × (Nat → Int32) × (Nat → Int32) × (Nat → Int32) × Int32 × (Nat → Int32) × (Nat → Int32) × (Nat → Int32) × Int32 × (Nat → Int32) × (Nat → Int32) × (Nat → Int32) × Int32 × (Nat → Int32) × (Nat → Int32) × (Nat → Int32) × (Nat → Int32) × (Nat → Int32) × (Nat → Int32))) => ∀ (t_43 : Int32) (H : Heap) (locs : List Loc) (ls : Array Slot), VP G (mW o ad kc 5 c_width c_height c_grey c_setting c_leastOf c_mostOf c_lifted c_squares_2 c_square_3 c_dark_4 c_light_5 c_like_6 c_isCrowded_7 c_pairs_8 c_first_9 c_second_10 c_votes_11 c_shifts_12 c_shiftX_13 c_shiftY_14 c_regionAt_15 c_regions_16 c_regionShift_17 c_regionPairs_18 c_regionFirst_19 c_findings_22 c_regionOf_23 c_offset_24 c_begun_25 c_held_26 c_isIn_27 c_numbered_32 c_left c_right c_top c_low c_missed) H → va_D A (mW o ad kc 5 c_width c_height c_grey c_setting c_leastOf c_mostOf c_lifted c_squares_2 c_square_3 c_dark_4 c_light_5 c_like_6 c_isCrowded_7 c_pairs_8 c_first_9 c_second_10 c_votes_11 c_shifts_12 c_shiftX_13 c_shiftY_14 c_regionAt_15 c_regions_16 c_regionShift_17 c_regionPairs_18 c_regionFirst_19 c_findings_22 c_regionOf_23 c_offset_24 c_begun_25 c_held_26 c_isIn_27 c_numbered_32 c_left c_right c_top c_low c_missed) → va_S A s.heap H locs → lv_has ls 5 [(0, .ref o), (2, .int x2_31), (4, .int x4_37)] → k t_43 = some (c_worked', c_squares', c_square', c_dark', c_light', c_like', c_isCrowded', c_pairs', c_first', c_second', c_votes', c_shifts', c_shiftX', c_shiftY', c_regionAt', c_regions', c_regionShift', c_regionPairs', c_regionFirst', c_findings', c_regionOf', c_offset', c_begun', c_held', c_isIn', c_numbered') → WW p l e (rmq 7 162) s m args below meth c Q H locs 127 ls [.int t_43, .int x3_36]) h ?_ ?_
                      · intro t_43 H locs ls hP hD hS hl h
                        refine lv_iadd hx hb dX8_findFindings_127 ?_
                        refine lv_istore_n (lv' := [(3, .int (x3_36 + t_43)), (0, .ref o), (2, .int x2_31), (4, .int x4_37)]) hx hb dX8_findFindings_128 rfl hl (by decide) rfl (fun ls hl => ?_)
                        refine lv_iinc (v := (x4_37 + 1)) (lv' := [(4, .int (x4_37 + 1)), (3, .int (x3_36 + t_43)), (0, .ref o), (2, .int x2_31)]) hx hb dX8_findFindings_129 hl (k := 3) rfl rfl (by decide) rfl (fun ls hl => ?_)
                        refine lv_goto (tgt := 102) hx hb dX8_findFindings_132 (by decide) ?_
                        exact ih (x3_36 + t_43) (x4_37 + 1) _ _ _ hP hD hS (lv_sub hl [2, 3, 1, 0] rfl) h
                      · intro j_44 J_45 h
                        refine lv_if_eq (tgt := 126) hx hb dX8_findFindings_119 (by decide) (fun q_46 => ?_) (fun q_46 => ?_)
                        · have h := it_t q_46 h
                          refine lv_iconst (v := 0) hx hb dX8_findFindings_126 (by decide) ?_
                          exact J_45 0 _ _ _ hP hD hS (lv_sub hl [0, 1, 3] rfl) h
                        · have h := it_f q_46 h
                          refine lv_iconst (v := 1) hx hb dX8_findFindings_122 (by decide) ?_
                          refine lv_goto (tgt := 127) hx hb dX8_findFindings_123 (by decide) ?_
                          exact J_45 1 _ _ _ hP hD hS (lv_sub hl [0, 1, 3] rfl) h
                exact L_40 FU 0 0 _ _ _ hP hD hS (lv_sub hl [2, 3, 1, 0] rfl) h
        exact L_35 FU 0 c_numbered _ _ _ hP hD hS (lv_sub hl [1, 0] rfl) h
    · intro k_28 K_29 h
      have L_30 : ∀ (n : Nat) (x1_21 : Int32) (c_findings_22 : Int32) (c_regionOf_23 : (Nat → Int32)) (c_offset_24 : (Nat → Int32)) (c_begun_25 : (Nat → Int32)) (c_held_26 : (Nat → Int32)) (c_isIn_27 : (Nat → Int32)) (H : Heap) (locs : List Loc) (ls : Array Slot), VP G (mW o ad kc 5 c_width c_height c_grey c_setting c_leastOf c_mostOf c_lifted c_squares_2 c_square_3 c_dark_4 c_light_5 c_like_6 c_isCrowded_7 c_pairs_8 c_first_9 c_second_10 c_votes_11 c_shifts_12 c_shiftX_13 c_shiftY_14 c_regionAt_15 c_regions_16 c_regionShift_17 c_regionPairs_18 c_regionFirst_19 c_findings_22 c_regionOf_23 c_offset_24 c_begun_25 c_held_26 c_isIn_27 c_numbered c_left c_right c_top c_low c_missed) H → va_D A (mW o ad kc 5 c_width c_height c_grey c_setting c_leastOf c_mostOf c_lifted c_squares_2 c_square_3 c_dark_4 c_light_5 c_like_6 c_isCrowded_7 c_pairs_8 c_first_9 c_second_10 c_votes_11 c_shifts_12 c_shiftX_13 c_shiftY_14 c_regionAt_15 c_regions_16 c_regionShift_17 c_regionPairs_18 c_regionFirst_19 c_findings_22 c_regionOf_23 c_offset_24 c_begun_25 c_held_26 c_isIn_27 c_numbered c_left c_right c_top c_low c_missed) → va_S A s.heap H locs → lv_has ls 5 [(0, .ref o), (1, .int x1_21)] → f_X8_findFindings_L28 FU c_width c_height c_grey c_setting c_squares_2 c_square_3 c_dark_4 c_shiftX_13 c_shiftY_14 c_regionAt_15 c_regions_16 c_regionShift_17 c_regionPairs_18 c_regionFirst_19 k_28 n x1_21 c_findings_22 c_regionOf_23 c_offset_24 c_begun_25 c_held_26 c_isIn_27 = some (c_worked', c_squares', c_square', c_dark', c_light', c_like', c_isCrowded', c_pairs', c_first', c_second', c_votes', c_shifts', c_shiftX', c_shiftY', c_regionAt', c_regions', c_regionShift', c_regionPairs', c_regionFirst', c_findings', c_regionOf', c_offset', c_begun', c_held', c_isIn', c_numbered') → WW p l e (rmq 7 162) s m args below meth c Q H locs 28 ls [] := by
        intro n
        induction n with
        | zero => intro x1_21 c_findings_22 c_regionOf_23 c_offset_24 c_begun_25 c_held_26 c_isIn_27 H locs ls hP hD hS hl h; rw [f_X8_findFindings_L28] at h; cases h
        | succ n ih =>
          intro x1_21 c_findings_22 c_regionOf_23 c_offset_24 c_begun_25 c_held_26 c_isIn_27 H locs ls hP hD hS hl h
          rw [f_X8_findFindings_L28] at h
          refine lv_iload_n hx hb dX8_findFindings_28 rfl (lv_at hl 1 rfl) ?_
          refine lv_bipush (v := (-9)) hx hb dX8_findFindings_29 (by decide) ?_
          refine lv_icmp_eq (tgt := 87) hx hb dX8_findFindings_31 (by decide) (fun q_57 => ?_) (fun q_57 => ?_)
          · have h := it_t q_57 h
            exact K_29 x1_21 c_findings_22 c_regionOf_23 c_offset_24 c_begun_25 c_held_26 c_isIn_27 _ _ _ hP hD hS (lv_sub hl [0] rfl) h
          · have h := it_f q_57 h
            refine lv_aload_n hx hb dX8_findFindings_34 rfl (lv_at hl 0 rfl) ?_
            refine r_get S gf_X8_199 hK hP 0 rfl rfl dX8_findFindings_35 ?_
            refine lv_bipush (v := 24) hx hb dX8_findFindings_38 (by decide) ?_
            refine lv_icmp_ge (tgt := 87) hx hb dX8_findFindings_40 (by decide) (fun q_56 => ?_) (fun q_56 => ?_)
            · have h := it_t q_56 h
              exact K_29 x1_21 c_findings_22 c_regionOf_23 c_offset_24 c_begun_25 c_held_26 c_isIn_27 _ _ _ hP hD hS (lv_sub hl [0] rfl) h
            · have h := it_f q_56 h
              refine lv_aload_n hx hb dX8_findFindings_43 rfl (lv_at hl 0 rfl) ?_
              refine r_get S gf_X8_75 hK hP 0 rfl rfl dX8_findFindings_44 ?_
              refine lv_aload_n hx hb dX8_findFindings_47 rfl (lv_at hl 0 rfl) ?_
              refine r_get S gf_X8_199 hK hP 0 rfl rfl dX8_findFindings_48 ?_
              refine lv_iload_n hx hb dX8_findFindings_51 rfl (lv_at hl 1 rfl) ?_
              refine r_iast hx hb hK hP hD hS 20 rfl dX8_findFindings_52 h (fun c_regionOf_49 H locs hP hD hS h => ?_)
              have hP : VP G (mW o ad kc 5 c_width c_height c_grey c_setting c_leastOf c_mostOf c_lifted c_squares_2 c_square_3 c_dark_4 c_light_5 c_like_6 c_isCrowded_7 c_pairs_8 c_first_9 c_second_10 c_votes_11 c_shifts_12 c_shiftX_13 c_shiftY_14 c_regionAt_15 c_regions_16 c_regionShift_17 c_regionPairs_18 c_regionFirst_19 c_findings_22 c_regionOf_49 c_offset_24 c_begun_25 c_held_26 c_isIn_27 c_numbered c_left c_right c_top c_low c_missed) H := hP
              have hD : va_D A (mW o ad kc 5 c_width c_height c_grey c_setting c_leastOf c_mostOf c_lifted c_squares_2 c_square_3 c_dark_4 c_light_5 c_like_6 c_isCrowded_7 c_pairs_8 c_first_9 c_second_10 c_votes_11 c_shifts_12 c_shiftX_13 c_shiftY_14 c_regionAt_15 c_regions_16 c_regionShift_17 c_regionPairs_18 c_regionFirst_19 c_findings_22 c_regionOf_49 c_offset_24 c_begun_25 c_held_26 c_isIn_27 c_numbered c_left c_right c_top c_low c_missed) := hD
              refine lv_aload_n hx hb dX8_findFindings_53 rfl (lv_at hl 0 rfl) ?_
              refine lv_aload_n hx hb dX8_findFindings_54 rfl (lv_at hl 0 rfl) ?_
              refine r_get S gf_X8_199 hK hP 0 rfl rfl dX8_findFindings_55 ?_
              obtain ⟨c_offset_50, c_begun_51, c_isIn_52, hq, h⟩ := bd3_e h
              refine cs_Vv (rest := []) (ci := 7) S hN cb_X8_beginsFinding ml_X8_229 ⟨Nat.le_of_ble_eq_true rfl, Nat.le_of_ble_eq_true rfl⟩ (c_X8_beginsFinding l G kc o ad c_findings_22 hq) hK hP hD hS hA 0 rfl rfl rfl rfl rfl (Nat.le_of_ble_eq_true rfl) hl.1 dX8_findFindings_58 (fun H locs hP hD hS => ?_)
              refine lv_aload_n hx hb dX8_findFindings_61 rfl (lv_at hl 0 rfl) ?_
              refine lv_aload_n hx hb dX8_findFindings_62 rfl (lv_at hl 0 rfl) ?_
              refine r_get S gf_X8_199 hK hP 0 rfl rfl dX8_findFindings_63 ?_
              obtain ⟨c_held_53, c_isIn_54, hq, h⟩ := bd2_e h
              refine cs_Vv (rest := []) (ci := 7) S hN cb_X8_grows ml_X8_233 ⟨Nat.le_of_ble_eq_true rfl, Nat.le_of_ble_eq_true rfl⟩ (c_X8_grows l G kc o ad c_findings_22 hq) hK hP hD hS hA 0 rfl rfl rfl rfl rfl (Nat.le_of_ble_eq_true rfl) hl.1 dX8_findFindings_66 (fun H locs hP hD hS => ?_)
              refine lv_aload_n hx hb dX8_findFindings_69 rfl (lv_at hl 0 rfl) ?_
              refine lv_dup hx hb dX8_findFindings_70 rfl ?_
              refine r_get S gf_X8_199 hK hP 0 rfl rfl dX8_findFindings_71 ?_
              refine lv_iconst (v := 1) hx hb dX8_findFindings_74 (by decide) ?_
              refine lv_iadd hx hb dX8_findFindings_75 ?_
              refine r_put S pf_X8_199 hK hP hD hS 0 rfl (Nat.le_of_ble_eq_true rfl) dX8_findFindings_76 (fun H locs hP hD hS => ?_)
              have hP : VP G (mW o ad kc 5 c_width c_height c_grey c_setting c_leastOf c_mostOf c_lifted c_squares_2 c_square_3 c_dark_4 c_light_5 c_like_6 c_isCrowded_7 c_pairs_8 c_first_9 c_second_10 c_votes_11 c_shifts_12 c_shiftX_13 c_shiftY_14 c_regionAt_15 c_regions_16 c_regionShift_17 c_regionPairs_18 c_regionFirst_19 (c_findings_22 + 1) c_regionOf_49 c_offset_50 c_begun_51 c_held_53 c_isIn_54 c_numbered c_left c_right c_top c_low c_missed) H := hP
              have hD : va_D A (mW o ad kc 5 c_width c_height c_grey c_setting c_leastOf c_mostOf c_lifted c_squares_2 c_square_3 c_dark_4 c_light_5 c_like_6 c_isCrowded_7 c_pairs_8 c_first_9 c_second_10 c_votes_11 c_shifts_12 c_shiftX_13 c_shiftY_14 c_regionAt_15 c_regions_16 c_regionShift_17 c_regionPairs_18 c_regionFirst_19 (c_findings_22 + 1) c_regionOf_49 c_offset_50 c_begun_51 c_held_53 c_isIn_54 c_numbered c_left c_right c_top c_low c_missed) := hD
              refine lv_aload_n hx hb dX8_findFindings_79 rfl (lv_at hl 0 rfl) ?_
              obtain ⟨r_55, hq, h⟩ := bd1_e h
              refine cs_Vi (rest := []) (ci := 7) S hN cb_X8_nextRegion ml_X8_226 ⟨Nat.le_of_ble_eq_true rfl, Nat.le_of_ble_eq_true rfl⟩ (c_X8_nextRegion l G kc o ad  hq) hK hP hD hS hA 0 rfl rfl rfl rfl rfl (Nat.le_of_ble_eq_true rfl) hl.1 dX8_findFindings_80 (fun H locs hP hD hS => ?_)
              refine lv_istore_n (lv' := [(1, .int r_55), (0, .ref o)]) hx hb dX8_findFindings_83 rfl hl (by decide) rfl (fun ls hl => ?_)
              refine lv_goto (tgt := 28) hx hb dX8_findFindings_84 (by decide) ?_
              exact ih r_55 (c_findings_22 + 1) c_regionOf_49 c_offset_50 c_begun_51 c_held_53 c_isIn_54 _ _ _ hP hD hS (lv_sub hl [1, 0] rfl) h
      exact L_30 FU r_20 0 c_regionOf c_offset c_begun c_held c_isIn _ _ _ hP hD hS (lv_sub hl [1, 0] rfl) h
  · have h := it_f q_58 h
    cases h
    exact ret_v hx hb hr hQ hlocks hK hP hD hS dX8_findFindings_8
set_option maxHeartbeats 1000000 in
set_option maxRecDepth 100000 in
theorem c_X8_measures (l : Launch) (G : va_G) (kc : Nat → ClassId) (o : Nat) (ad : Nat → Nat) {c_worked : Int32} {c_width : Int32} {c_height : Int32} {c_grey : (Nat → Int32)} {c_setting : (Nat → Int32)} {c_leastOf : (Nat → Int32)} {c_mostOf : (Nat → Int32)} {c_lifted : (Nat → Int32)} {c_squares : Int32} {c_square : (Nat → Int32)} {c_dark : (Nat → Int32)} {c_light : (Nat → Int32)} {c_like : (Nat → Int32)} {c_isCrowded : (Nat → Int32)} {c_pairs : Int32} {c_first : (Nat → Int32)} {c_second : (Nat → Int32)} {c_votes : (Nat → Int32)} {c_shifts : Int32} {c_shiftX : (Nat → Int32)} {c_shiftY : (Nat → Int32)} {c_regionAt : (Nat → Int32)} {c_regions : Int32} {c_regionShift : (Nat → Int32)} {c_regionPairs : (Nat → Int32)} {c_regionFirst : (Nat → Int32)} {c_findings : Int32} {c_regionOf : (Nat → Int32)} {c_offset : (Nat → Int32)} {c_begun : (Nat → Int32)} {c_held : (Nat → Int32)} {c_isIn : (Nat → Int32)} {c_numbered : (Nat → Int32)} {c_left : Int32} {c_right : Int32} {c_top : Int32} {c_low : Int32} {c_missed : Int32} (x1 : Int32) {c_left' : Int32} {c_right' : Int32} {c_top' : Int32} {c_low' : Int32} {c_missed' : Int32} {FU : Nat} (h : f_X8_measures FU c_width c_height c_grey c_shiftX c_shiftY c_regionShift c_regionOf c_offset c_isIn c_left c_right c_top c_low c_missed x1 = some (c_left', c_right', c_top', c_low', c_missed')) : CTv l G kc yX8_measures cX8_measures 3 none (rmq 4 90) [.ref o, .int x1] (mW o ad kc c_worked c_width c_height c_grey c_setting c_leastOf c_mostOf c_lifted c_squares c_square c_dark c_light c_like c_isCrowded c_pairs c_first c_second c_votes c_shifts c_shiftX c_shiftY c_regionAt c_regions c_regionShift c_regionPairs c_regionFirst c_findings c_regionOf c_offset c_begun c_held c_isIn c_numbered c_left c_right c_top c_low c_missed) (mW o ad kc c_worked c_width c_height c_grey c_setting c_leastOf c_mostOf c_lifted c_squares c_square c_dark c_light c_like c_isCrowded c_pairs c_first c_second c_votes c_shifts c_shiftX c_shiftY c_regionAt c_regions c_regionShift c_regionPairs c_regionFirst c_findings c_regionOf c_offset c_begun c_held c_isIn c_numbered (c_left') (c_right') (c_top') (c_low') (c_missed')) := by
  refine CTv.mk (by decide) (Nat.le_of_ble_eq_true rfl) ?_
  intro p e s m args below meth c A ls Q hQ S hr hlocks hN hA hK hl hP hD hS
  have hx := S.1
  have hb := S.2.1
  have hl : lv_has ls 3 [(0, .ref o), (1, .int x1)] := hl
  unfold f_X8_measures at h
  refine lv_aload_n hx hb dX8_measures_0 rfl (lv_at hl 0 rfl) ?_
  refine lv_bipush (v := 16) hx hb dX8_measures_1 (by decide) ?_
  refine r_put S pf_X8_239 hK hP hD hS 0 rfl (Nat.le_of_ble_eq_true rfl) dX8_measures_3 (fun H locs hP hD hS => ?_)
  have hP : VP G (mW o ad kc c_worked c_width c_height c_grey c_setting c_leastOf c_mostOf c_lifted c_squares c_square c_dark c_light c_like c_isCrowded c_pairs c_first c_second c_votes c_shifts c_shiftX c_shiftY c_regionAt c_regions c_regionShift c_regionPairs c_regionFirst c_findings c_regionOf c_offset c_begun c_held c_isIn c_numbered 16 c_right c_top c_low c_missed) H := hP
  have hD : va_D A (mW o ad kc c_worked c_width c_height c_grey c_setting c_leastOf c_mostOf c_lifted c_squares c_square c_dark c_light c_like c_isCrowded c_pairs c_first c_second c_votes c_shifts c_shiftX c_shiftY c_regionAt c_regions c_regionShift c_regionPairs c_regionFirst c_findings c_regionOf c_offset c_begun c_held c_isIn c_numbered 16 c_right c_top c_low c_missed) := hD
  refine lv_aload_n hx hb dX8_measures_6 rfl (lv_at hl 0 rfl) ?_
  refine lv_iconst (v := (-1)) hx hb dX8_measures_7 (by decide) ?_
  refine r_put S pf_X8_242 hK hP hD hS 0 rfl (Nat.le_of_ble_eq_true rfl) dX8_measures_8 (fun H locs hP hD hS => ?_)
  have hP : VP G (mW o ad kc c_worked c_width c_height c_grey c_setting c_leastOf c_mostOf c_lifted c_squares c_square c_dark c_light c_like c_isCrowded c_pairs c_first c_second c_votes c_shifts c_shiftX c_shiftY c_regionAt c_regions c_regionShift c_regionPairs c_regionFirst c_findings c_regionOf c_offset c_begun c_held c_isIn c_numbered 16 (-1) c_top c_low c_missed) H := hP
  have hD : va_D A (mW o ad kc c_worked c_width c_height c_grey c_setting c_leastOf c_mostOf c_lifted c_squares c_square c_dark c_light c_like c_isCrowded c_pairs c_first c_second c_votes c_shifts c_shiftX c_shiftY c_regionAt c_regions c_regionShift c_regionPairs c_regionFirst c_findings c_regionOf c_offset c_begun c_held c_isIn c_numbered 16 (-1) c_top c_low c_missed) := hD
  refine lv_aload_n hx hb dX8_measures_11 rfl (lv_at hl 0 rfl) ?_
  refine lv_bipush (v := 16) hx hb dX8_measures_12 (by decide) ?_
  refine r_put S pf_X8_245 hK hP hD hS 0 rfl (Nat.le_of_ble_eq_true rfl) dX8_measures_14 (fun H locs hP hD hS => ?_)
  have hP : VP G (mW o ad kc c_worked c_width c_height c_grey c_setting c_leastOf c_mostOf c_lifted c_squares c_square c_dark c_light c_like c_isCrowded c_pairs c_first c_second c_votes c_shifts c_shiftX c_shiftY c_regionAt c_regions c_regionShift c_regionPairs c_regionFirst c_findings c_regionOf c_offset c_begun c_held c_isIn c_numbered 16 (-1) 16 c_low c_missed) H := hP
  have hD : va_D A (mW o ad kc c_worked c_width c_height c_grey c_setting c_leastOf c_mostOf c_lifted c_squares c_square c_dark c_light c_like c_isCrowded c_pairs c_first c_second c_votes c_shifts c_shiftX c_shiftY c_regionAt c_regions c_regionShift c_regionPairs c_regionFirst c_findings c_regionOf c_offset c_begun c_held c_isIn c_numbered 16 (-1) 16 c_low c_missed) := hD
  refine lv_aload_n hx hb dX8_measures_17 rfl (lv_at hl 0 rfl) ?_
  refine lv_iconst (v := (-1)) hx hb dX8_measures_18 (by decide) ?_
  refine r_put S pf_X8_248 hK hP hD hS 0 rfl (Nat.le_of_ble_eq_true rfl) dX8_measures_19 (fun H locs hP hD hS => ?_)
  have hP : VP G (mW o ad kc c_worked c_width c_height c_grey c_setting c_leastOf c_mostOf c_lifted c_squares c_square c_dark c_light c_like c_isCrowded c_pairs c_first c_second c_votes c_shifts c_shiftX c_shiftY c_regionAt c_regions c_regionShift c_regionPairs c_regionFirst c_findings c_regionOf c_offset c_begun c_held c_isIn c_numbered 16 (-1) 16 (-1) c_missed) H := hP
  have hD : va_D A (mW o ad kc c_worked c_width c_height c_grey c_setting c_leastOf c_mostOf c_lifted c_squares c_square c_dark c_light c_like c_isCrowded c_pairs c_first c_second c_votes c_shifts c_shiftX c_shiftY c_regionAt c_regions c_regionShift c_regionPairs c_regionFirst c_findings c_regionOf c_offset c_begun c_held c_isIn c_numbered 16 (-1) 16 (-1) c_missed) := hD
  refine lv_aload_n hx hb dX8_measures_22 rfl (lv_at hl 0 rfl) ?_
  refine lv_iconst (v := 0) hx hb dX8_measures_23 (by decide) ?_
  refine r_put S pf_X8_251 hK hP hD hS 0 rfl (Nat.le_of_ble_eq_true rfl) dX8_measures_24 (fun H locs hP hD hS => ?_)
  have hP : VP G (mW o ad kc c_worked c_width c_height c_grey c_setting c_leastOf c_mostOf c_lifted c_squares c_square c_dark c_light c_like c_isCrowded c_pairs c_first c_second c_votes c_shifts c_shiftX c_shiftY c_regionAt c_regions c_regionShift c_regionPairs c_regionFirst c_findings c_regionOf c_offset c_begun c_held c_isIn c_numbered 16 (-1) 16 (-1) 0) H := hP
  have hD : va_D A (mW o ad kc c_worked c_width c_height c_grey c_setting c_leastOf c_mostOf c_lifted c_squares c_square c_dark c_light c_like c_isCrowded c_pairs c_first c_second c_votes c_shifts c_shiftX c_shiftY c_regionAt c_regions c_regionShift c_regionPairs c_regionFirst c_findings c_regionOf c_offset c_begun c_held c_isIn c_numbered 16 (-1) 16 (-1) 0) := hD
  refine lv_iconst (v := 0) hx hb dX8_measures_27 (by decide) ?_
  refine lv_istore_n (lv' := [(2, .int 0), (0, .ref o), (1, .int x1)]) hx hb dX8_measures_28 rfl hl (by decide) rfl (fun ls hl => ?_)
  refine jn_w (t := fun k => f_X8_measures_L29 FU x1 c_width c_height c_grey c_shiftX c_shiftY c_regionShift c_regionOf c_offset c_isIn k FU 0 16 (-1) 16 (-1) 0) (fun (k : Int32 → Int32 → Int32 → Int32 → Int32 → Int32 → Option (Int32 × Int32 × Int32 × Int32 × Int32)) => ∀ (x2_1 : Int32) (c_left_2 : Int32) (c_right_3 : Int32) (c_top_4 : Int32) (c_low_5 : Int32) (c_missed_6 : Int32) (H : Heap) (locs : List Loc) (ls : Array Slot), VP G (mW o ad kc c_worked c_width c_height c_grey c_setting c_leastOf c_mostOf c_lifted c_squares c_square c_dark c_light c_like c_isCrowded c_pairs c_first c_second c_votes c_shifts c_shiftX c_shiftY c_regionAt c_regions c_regionShift c_regionPairs c_regionFirst c_findings c_regionOf c_offset c_begun c_held c_isIn c_numbered c_left_2 c_right_3 c_top_4 c_low_5 c_missed_6) H → va_D A (mW o ad kc c_worked c_width c_height c_grey c_setting c_leastOf c_mostOf c_lifted c_squares c_square c_dark c_light c_like c_isCrowded c_pairs c_first c_second c_votes c_shifts c_shiftX c_shiftY c_regionAt c_regions c_regionShift c_regionPairs c_regionFirst c_findings c_regionOf c_offset c_begun c_held c_isIn c_numbered c_left_2 c_right_3 c_top_4 c_low_5 c_missed_6) → va_S A s.heap H locs → lv_has ls 3 [] → k x2_1 c_left_2 c_right_3 c_top_4 c_low_5 c_missed_6 = some (c_left', c_right', c_top', c_low', c_missed') → WW p l e (rmq 4 90) s m args below meth c Q H locs 176 ls []) h ?_ ?_
  · intro x2_1 c_left_2 c_right_3 c_top_4 c_low_5 c_missed_6 H locs ls hP hD hS hl h
    cases h
    exact ret_v hx hb hr hQ hlocks hK hP hD hS dX8_measures_176
  · intro k_7 K_8 h
    have L_9 : ∀ (n : Nat) (x2_1 : Int32) (c_left_2 : Int32) (c_right_3 : Int32) (c_top_4 : Int32) (c_low_5 : Int32) (c_missed_6 : Int32) (H : Heap) (locs : List Loc) (ls : Array Slot), VP G (mW o ad kc c_worked c_width c_height c_grey c_setting c_leastOf c_mostOf c_lifted c_squares c_square c_dark c_light c_like c_isCrowded c_pairs c_first c_second c_votes c_shifts c_shiftX c_shiftY c_regionAt c_regions c_regionShift c_regionPairs c_regionFirst c_findings c_regionOf c_offset c_begun c_held c_isIn c_numbered c_left_2 c_right_3 c_top_4 c_low_5 c_missed_6) H → va_D A (mW o ad kc c_worked c_width c_height c_grey c_setting c_leastOf c_mostOf c_lifted c_squares c_square c_dark c_light c_like c_isCrowded c_pairs c_first c_second c_votes c_shifts c_shiftX c_shiftY c_regionAt c_regions c_regionShift c_regionPairs c_regionFirst c_findings c_regionOf c_offset c_begun c_held c_isIn c_numbered c_left_2 c_right_3 c_top_4 c_low_5 c_missed_6) → va_S A s.heap H locs → lv_has ls 3 [(0, .ref o), (1, .int x1), (2, .int x2_1)] → f_X8_measures_L29 FU x1 c_width c_height c_grey c_shiftX c_shiftY c_regionShift c_regionOf c_offset c_isIn k_7 n x2_1 c_left_2 c_right_3 c_top_4 c_low_5 c_missed_6 = some (c_left', c_right', c_top', c_low', c_missed') → WW p l e (rmq 4 90) s m args below meth c Q H locs 29 ls [] := by
      intro n
      induction n with
      | zero => intro x2_1 c_left_2 c_right_3 c_top_4 c_low_5 c_missed_6 H locs ls hP hD hS hl h; rw [f_X8_measures_L29] at h; cases h
      | succ n ih =>
        intro x2_1 c_left_2 c_right_3 c_top_4 c_low_5 c_missed_6 H locs ls hP hD hS hl h
        rw [f_X8_measures_L29] at h
        refine lv_iload_n hx hb dX8_measures_29 rfl (lv_at hl 2 rfl) ?_
        refine lv_sipush (v := 256) hx hb dX8_measures_30 (by decide) ?_
        refine lv_icmp_ge (tgt := 176) hx hb dX8_measures_33 (by decide) (fun q_29 => ?_) (fun q_29 => ?_)
        · have h := it_t q_29 h
          exact K_8 x2_1 c_left_2 c_right_3 c_top_4 c_low_5 c_missed_6 _ _ _ hP hD hS (lv_sub hl [] rfl) h
        · have h := it_f q_29 h
          refine lv_aload_n hx hb dX8_measures_36 rfl (lv_at hl 0 rfl) ?_
          refine r_get S gf_X8_87 hK hP 0 rfl rfl dX8_measures_37 ?_
          refine lv_sipush (v := 256) hx hb dX8_measures_40 (by decide) ?_
          refine lv_iload_n hx hb dX8_measures_43 rfl (lv_at hl 1 rfl) ?_
          refine lv_imul hx hb dX8_measures_44 ?_
          refine lv_iload_n hx hb dX8_measures_45 rfl (lv_at hl 2 rfl) ?_
          refine lv_iadd hx hb dX8_measures_46 ?_
          refine r_zald hx hb hK hP 24 rfl dX8_measures_47 h (fun y_10 h => ?_)
          refine lv_if_eq (tgt := 170) hx hb dX8_measures_48 (by decide) (fun q_28 => ?_) (fun q_28 => ?_)
          · have h := it_t q_28 h
            refine lv_iinc (v := (x2_1 + 1)) (lv' := [(2, .int (x2_1 + 1)), (0, .ref o), (1, .int x1)]) hx hb dX8_measures_170 hl (k := 2) rfl rfl (by decide) rfl (fun ls hl => ?_)
            refine lv_goto (tgt := 29) hx hb dX8_measures_173 (by decide) ?_
            exact ih (x2_1 + 1) c_left_2 c_right_3 c_top_4 c_low_5 c_missed_6 _ _ _ hP hD hS (lv_sub hl [1, 2, 0] rfl) h
          · have h := it_f q_28 h
            refine lv_aload_n hx hb dX8_measures_51 rfl (lv_at hl 0 rfl) ?_
            refine lv_iload_n hx hb dX8_measures_52 rfl (lv_at hl 2 rfl) ?_
            refine lv_bipush (v := 16) hx hb dX8_measures_53 (by decide) ?_
            refine lv_irem hx hb dX8_measures_55 (by decide) ?_
            refine lv_aload_n hx hb dX8_measures_56 rfl (lv_at hl 0 rfl) ?_
            refine r_get S gf_X8_239 hK hP 0 rfl rfl dX8_measures_57 ?_
            refine jn_w (fun (k : Int32 → Option (Int32 × Int32 × Int32 × Int32 × Int32)) => ∀ (t_11 : Int32) (H : Heap) (locs : List Loc) (ls : Array Slot), VP G (mW o ad kc c_worked c_width c_height c_grey c_setting c_leastOf c_mostOf c_lifted c_squares c_square c_dark c_light c_like c_isCrowded c_pairs c_first c_second c_votes c_shifts c_shiftX c_shiftY c_regionAt c_regions c_regionShift c_regionPairs c_regionFirst c_findings c_regionOf c_offset c_begun c_held c_isIn c_numbered c_left_2 c_right_3 c_top_4 c_low_5 c_missed_6) H → va_D A (mW o ad kc c_worked c_width c_height c_grey c_setting c_leastOf c_mostOf c_lifted c_squares c_square c_dark c_light c_like c_isCrowded c_pairs c_first c_second c_votes c_shifts c_shiftX c_shiftY c_regionAt c_regions c_regionShift c_regionPairs c_regionFirst c_findings c_regionOf c_offset c_begun c_held c_isIn c_numbered c_left_2 c_right_3 c_top_4 c_low_5 c_missed_6) → va_S A s.heap H locs → lv_has ls 3 [(0, .ref o), (1, .int x1), (2, .int x2_1)] → k t_11 = some (c_left', c_right', c_top', c_low', c_missed') → WW p l e (rmq 4 90) s m args below meth c Q H locs 74 ls [.int t_11, .ref o]) h ?_ ?_
            · intro t_11 H locs ls hP hD hS hl h
              refine r_put S pf_X8_239 hK hP hD hS 0 rfl (Nat.le_of_ble_eq_true rfl) dX8_measures_74 (fun H locs hP hD hS => ?_)
              have hP : VP G (mW o ad kc c_worked c_width c_height c_grey c_setting c_leastOf c_mostOf c_lifted c_squares c_square c_dark c_light c_like c_isCrowded c_pairs c_first c_second c_votes c_shifts c_shiftX c_shiftY c_regionAt c_regions c_regionShift c_regionPairs c_regionFirst c_findings c_regionOf c_offset c_begun c_held c_isIn c_numbered t_11 c_right_3 c_top_4 c_low_5 c_missed_6) H := hP
              have hD : va_D A (mW o ad kc c_worked c_width c_height c_grey c_setting c_leastOf c_mostOf c_lifted c_squares c_square c_dark c_light c_like c_isCrowded c_pairs c_first c_second c_votes c_shifts c_shiftX c_shiftY c_regionAt c_regions c_regionShift c_regionPairs c_regionFirst c_findings c_regionOf c_offset c_begun c_held c_isIn c_numbered t_11 c_right_3 c_top_4 c_low_5 c_missed_6) := hD
              refine lv_aload_n hx hb dX8_measures_77 rfl (lv_at hl 0 rfl) ?_
              refine lv_iload_n hx hb dX8_measures_78 rfl (lv_at hl 2 rfl) ?_
              refine lv_bipush (v := 16) hx hb dX8_measures_79 (by decide) ?_
              refine lv_irem hx hb dX8_measures_81 (by decide) ?_
              refine lv_aload_n hx hb dX8_measures_82 rfl (lv_at hl 0 rfl) ?_
              refine r_get S gf_X8_242 hK hP 0 rfl rfl dX8_measures_83 ?_
              refine jn_w (fun (k : Int32 → Option (Int32 × Int32 × Int32 × Int32 × Int32)) => ∀ (t_14 : Int32) (H : Heap) (locs : List Loc) (ls : Array Slot), VP G (mW o ad kc c_worked c_width c_height c_grey c_setting c_leastOf c_mostOf c_lifted c_squares c_square c_dark c_light c_like c_isCrowded c_pairs c_first c_second c_votes c_shifts c_shiftX c_shiftY c_regionAt c_regions c_regionShift c_regionPairs c_regionFirst c_findings c_regionOf c_offset c_begun c_held c_isIn c_numbered t_11 c_right_3 c_top_4 c_low_5 c_missed_6) H → va_D A (mW o ad kc c_worked c_width c_height c_grey c_setting c_leastOf c_mostOf c_lifted c_squares c_square c_dark c_light c_like c_isCrowded c_pairs c_first c_second c_votes c_shifts c_shiftX c_shiftY c_regionAt c_regions c_regionShift c_regionPairs c_regionFirst c_findings c_regionOf c_offset c_begun c_held c_isIn c_numbered t_11 c_right_3 c_top_4 c_low_5 c_missed_6) → va_S A s.heap H locs → lv_has ls 3 [(0, .ref o), (1, .int x1), (2, .int x2_1)] → k t_14 = some (c_left', c_right', c_top', c_low', c_missed') → WW p l e (rmq 4 90) s m args below meth c Q H locs 100 ls [.int t_14, .ref o]) h ?_ ?_
              · intro t_14 H locs ls hP hD hS hl h
                refine r_put S pf_X8_242 hK hP hD hS 0 rfl (Nat.le_of_ble_eq_true rfl) dX8_measures_100 (fun H locs hP hD hS => ?_)
                have hP : VP G (mW o ad kc c_worked c_width c_height c_grey c_setting c_leastOf c_mostOf c_lifted c_squares c_square c_dark c_light c_like c_isCrowded c_pairs c_first c_second c_votes c_shifts c_shiftX c_shiftY c_regionAt c_regions c_regionShift c_regionPairs c_regionFirst c_findings c_regionOf c_offset c_begun c_held c_isIn c_numbered t_11 t_14 c_top_4 c_low_5 c_missed_6) H := hP
                have hD : va_D A (mW o ad kc c_worked c_width c_height c_grey c_setting c_leastOf c_mostOf c_lifted c_squares c_square c_dark c_light c_like c_isCrowded c_pairs c_first c_second c_votes c_shifts c_shiftX c_shiftY c_regionAt c_regions c_regionShift c_regionPairs c_regionFirst c_findings c_regionOf c_offset c_begun c_held c_isIn c_numbered t_11 t_14 c_top_4 c_low_5 c_missed_6) := hD
                refine lv_aload_n hx hb dX8_measures_103 rfl (lv_at hl 0 rfl) ?_
                refine lv_iload_n hx hb dX8_measures_104 rfl (lv_at hl 2 rfl) ?_
                refine lv_bipush (v := 16) hx hb dX8_measures_105 (by decide) ?_
                refine lv_idiv hx hb dX8_measures_107 (by decide) ?_
                refine lv_aload_n hx hb dX8_measures_108 rfl (lv_at hl 0 rfl) ?_
                refine r_get S gf_X8_245 hK hP 0 rfl rfl dX8_measures_109 ?_
                refine jn_w (fun (k : Int32 → Option (Int32 × Int32 × Int32 × Int32 × Int32)) => ∀ (t_17 : Int32) (H : Heap) (locs : List Loc) (ls : Array Slot), VP G (mW o ad kc c_worked c_width c_height c_grey c_setting c_leastOf c_mostOf c_lifted c_squares c_square c_dark c_light c_like c_isCrowded c_pairs c_first c_second c_votes c_shifts c_shiftX c_shiftY c_regionAt c_regions c_regionShift c_regionPairs c_regionFirst c_findings c_regionOf c_offset c_begun c_held c_isIn c_numbered t_11 t_14 c_top_4 c_low_5 c_missed_6) H → va_D A (mW o ad kc c_worked c_width c_height c_grey c_setting c_leastOf c_mostOf c_lifted c_squares c_square c_dark c_light c_like c_isCrowded c_pairs c_first c_second c_votes c_shifts c_shiftX c_shiftY c_regionAt c_regions c_regionShift c_regionPairs c_regionFirst c_findings c_regionOf c_offset c_begun c_held c_isIn c_numbered t_11 t_14 c_top_4 c_low_5 c_missed_6) → va_S A s.heap H locs → lv_has ls 3 [(0, .ref o), (1, .int x1), (2, .int x2_1)] → k t_17 = some (c_left', c_right', c_top', c_low', c_missed') → WW p l e (rmq 4 90) s m args below meth c Q H locs 126 ls [.int t_17, .ref o]) h ?_ ?_
                · intro t_17 H locs ls hP hD hS hl h
                  refine r_put S pf_X8_245 hK hP hD hS 0 rfl (Nat.le_of_ble_eq_true rfl) dX8_measures_126 (fun H locs hP hD hS => ?_)
                  have hP : VP G (mW o ad kc c_worked c_width c_height c_grey c_setting c_leastOf c_mostOf c_lifted c_squares c_square c_dark c_light c_like c_isCrowded c_pairs c_first c_second c_votes c_shifts c_shiftX c_shiftY c_regionAt c_regions c_regionShift c_regionPairs c_regionFirst c_findings c_regionOf c_offset c_begun c_held c_isIn c_numbered t_11 t_14 t_17 c_low_5 c_missed_6) H := hP
                  have hD : va_D A (mW o ad kc c_worked c_width c_height c_grey c_setting c_leastOf c_mostOf c_lifted c_squares c_square c_dark c_light c_like c_isCrowded c_pairs c_first c_second c_votes c_shifts c_shiftX c_shiftY c_regionAt c_regions c_regionShift c_regionPairs c_regionFirst c_findings c_regionOf c_offset c_begun c_held c_isIn c_numbered t_11 t_14 t_17 c_low_5 c_missed_6) := hD
                  refine lv_aload_n hx hb dX8_measures_129 rfl (lv_at hl 0 rfl) ?_
                  refine lv_iload_n hx hb dX8_measures_130 rfl (lv_at hl 2 rfl) ?_
                  refine lv_bipush (v := 16) hx hb dX8_measures_131 (by decide) ?_
                  refine lv_idiv hx hb dX8_measures_133 (by decide) ?_
                  refine lv_aload_n hx hb dX8_measures_134 rfl (lv_at hl 0 rfl) ?_
                  refine r_get S gf_X8_248 hK hP 0 rfl rfl dX8_measures_135 ?_
                  refine jn_w (fun (k : Int32 → Option (Int32 × Int32 × Int32 × Int32 × Int32)) => ∀ (t_20 : Int32) (H : Heap) (locs : List Loc) (ls : Array Slot), VP G (mW o ad kc c_worked c_width c_height c_grey c_setting c_leastOf c_mostOf c_lifted c_squares c_square c_dark c_light c_like c_isCrowded c_pairs c_first c_second c_votes c_shifts c_shiftX c_shiftY c_regionAt c_regions c_regionShift c_regionPairs c_regionFirst c_findings c_regionOf c_offset c_begun c_held c_isIn c_numbered t_11 t_14 t_17 c_low_5 c_missed_6) H → va_D A (mW o ad kc c_worked c_width c_height c_grey c_setting c_leastOf c_mostOf c_lifted c_squares c_square c_dark c_light c_like c_isCrowded c_pairs c_first c_second c_votes c_shifts c_shiftX c_shiftY c_regionAt c_regions c_regionShift c_regionPairs c_regionFirst c_findings c_regionOf c_offset c_begun c_held c_isIn c_numbered t_11 t_14 t_17 c_low_5 c_missed_6) → va_S A s.heap H locs → lv_has ls 3 [(0, .ref o), (1, .int x1), (2, .int x2_1)] → k t_20 = some (c_left', c_right', c_top', c_low', c_missed') → WW p l e (rmq 4 90) s m args below meth c Q H locs 152 ls [.int t_20, .ref o]) h ?_ ?_
                  · intro t_20 H locs ls hP hD hS hl h
                    refine r_put S pf_X8_248 hK hP hD hS 0 rfl (Nat.le_of_ble_eq_true rfl) dX8_measures_152 (fun H locs hP hD hS => ?_)
                    have hP : VP G (mW o ad kc c_worked c_width c_height c_grey c_setting c_leastOf c_mostOf c_lifted c_squares c_square c_dark c_light c_like c_isCrowded c_pairs c_first c_second c_votes c_shifts c_shiftX c_shiftY c_regionAt c_regions c_regionShift c_regionPairs c_regionFirst c_findings c_regionOf c_offset c_begun c_held c_isIn c_numbered t_11 t_14 t_17 t_20 c_missed_6) H := hP
                    have hD : va_D A (mW o ad kc c_worked c_width c_height c_grey c_setting c_leastOf c_mostOf c_lifted c_squares c_square c_dark c_light c_like c_isCrowded c_pairs c_first c_second c_votes c_shifts c_shiftX c_shiftY c_regionAt c_regions c_regionShift c_regionPairs c_regionFirst c_findings c_regionOf c_offset c_begun c_held c_isIn c_numbered t_11 t_14 t_17 t_20 c_missed_6) := hD
                    refine lv_aload_n hx hb dX8_measures_155 rfl (lv_at hl 0 rfl) ?_
                    refine lv_dup hx hb dX8_measures_156 rfl ?_
                    refine r_get S gf_X8_251 hK hP 0 rfl rfl dX8_measures_157 ?_
                    refine lv_aload_n hx hb dX8_measures_160 rfl (lv_at hl 0 rfl) ?_
                    refine lv_iload_n hx hb dX8_measures_161 rfl (lv_at hl 1 rfl) ?_
                    refine lv_iload_n hx hb dX8_measures_162 rfl (lv_at hl 2 rfl) ?_
                    obtain ⟨r_23, hq, h⟩ := bd1_e h
                    refine cs_Vi (rest := [.int c_missed_6, .ref o]) (ci := 7) S hN cb_X8_missOf ml_X8_220 ⟨Nat.le_of_ble_eq_true rfl, Nat.le_of_ble_eq_true rfl⟩ (c_X8_missOf l G kc o ad x1 x2_1 hq) hK hP hD hS hA 0 rfl rfl rfl rfl rfl (Nat.le_of_ble_eq_true rfl) hl.1 dX8_measures_163 (fun H locs hP hD hS => ?_)
                    refine lv_iadd hx hb dX8_measures_166 ?_
                    refine r_put S pf_X8_251 hK hP hD hS 0 rfl (Nat.le_of_ble_eq_true rfl) dX8_measures_167 (fun H locs hP hD hS => ?_)
                    have hP : VP G (mW o ad kc c_worked c_width c_height c_grey c_setting c_leastOf c_mostOf c_lifted c_squares c_square c_dark c_light c_like c_isCrowded c_pairs c_first c_second c_votes c_shifts c_shiftX c_shiftY c_regionAt c_regions c_regionShift c_regionPairs c_regionFirst c_findings c_regionOf c_offset c_begun c_held c_isIn c_numbered t_11 t_14 t_17 t_20 (c_missed_6 + r_23)) H := hP
                    have hD : va_D A (mW o ad kc c_worked c_width c_height c_grey c_setting c_leastOf c_mostOf c_lifted c_squares c_square c_dark c_light c_like c_isCrowded c_pairs c_first c_second c_votes c_shifts c_shiftX c_shiftY c_regionAt c_regions c_regionShift c_regionPairs c_regionFirst c_findings c_regionOf c_offset c_begun c_held c_isIn c_numbered t_11 t_14 t_17 t_20 (c_missed_6 + r_23)) := hD
                    refine lv_iinc (v := (x2_1 + 1)) (lv' := [(2, .int (x2_1 + 1)), (0, .ref o), (1, .int x1)]) hx hb dX8_measures_170 hl (k := 2) rfl rfl (by decide) rfl (fun ls hl => ?_)
                    refine lv_goto (tgt := 29) hx hb dX8_measures_173 (by decide) ?_
                    exact ih (x2_1 + 1) t_11 t_14 t_17 t_20 (c_missed_6 + r_23) _ _ _ hP hD hS (lv_sub hl [1, 2, 0] rfl) h
                  · intro j_21 J_22 h
                    refine lv_icmp_le (tgt := 148) hx hb dX8_measures_138 (by decide) (fun q_24 => ?_) (fun q_24 => ?_)
                    · have h := it_t q_24 h
                      refine lv_aload_n hx hb dX8_measures_148 rfl (lv_at hl 0 rfl) ?_
                      refine r_get S gf_X8_248 hK hP 0 rfl rfl dX8_measures_149 ?_
                      exact J_22 c_low_5 _ _ _ hP hD hS (lv_sub hl [0, 1, 2] rfl) h
                    · have h := it_f q_24 h
                      refine lv_iload_n hx hb dX8_measures_141 rfl (lv_at hl 2 rfl) ?_
                      refine lv_bipush (v := 16) hx hb dX8_measures_142 (by decide) ?_
                      refine lv_idiv hx hb dX8_measures_144 (by decide) ?_
                      refine lv_goto (tgt := 152) hx hb dX8_measures_145 (by decide) ?_
                      exact J_22 (x2_1 / 16) _ _ _ hP hD hS (lv_sub hl [0, 1, 2] rfl) h
                · intro j_18 J_19 h
                  refine lv_icmp_ge (tgt := 122) hx hb dX8_measures_112 (by decide) (fun q_25 => ?_) (fun q_25 => ?_)
                  · have h := it_t q_25 h
                    refine lv_aload_n hx hb dX8_measures_122 rfl (lv_at hl 0 rfl) ?_
                    refine r_get S gf_X8_245 hK hP 0 rfl rfl dX8_measures_123 ?_
                    exact J_19 c_top_4 _ _ _ hP hD hS (lv_sub hl [0, 1, 2] rfl) h
                  · have h := it_f q_25 h
                    refine lv_iload_n hx hb dX8_measures_115 rfl (lv_at hl 2 rfl) ?_
                    refine lv_bipush (v := 16) hx hb dX8_measures_116 (by decide) ?_
                    refine lv_idiv hx hb dX8_measures_118 (by decide) ?_
                    refine lv_goto (tgt := 126) hx hb dX8_measures_119 (by decide) ?_
                    exact J_19 (x2_1 / 16) _ _ _ hP hD hS (lv_sub hl [0, 1, 2] rfl) h
              · intro j_15 J_16 h
                refine lv_icmp_le (tgt := 96) hx hb dX8_measures_86 (by decide) (fun q_26 => ?_) (fun q_26 => ?_)
                · have h := it_t q_26 h
                  refine lv_aload_n hx hb dX8_measures_96 rfl (lv_at hl 0 rfl) ?_
                  refine r_get S gf_X8_242 hK hP 0 rfl rfl dX8_measures_97 ?_
                  exact J_16 c_right_3 _ _ _ hP hD hS (lv_sub hl [0, 1, 2] rfl) h
                · have h := it_f q_26 h
                  refine lv_iload_n hx hb dX8_measures_89 rfl (lv_at hl 2 rfl) ?_
                  refine lv_bipush (v := 16) hx hb dX8_measures_90 (by decide) ?_
                  refine lv_irem hx hb dX8_measures_92 (by decide) ?_
                  refine lv_goto (tgt := 100) hx hb dX8_measures_93 (by decide) ?_
                  exact J_16 (x2_1 - x2_1 / 16 * 16) _ _ _ hP hD hS (lv_sub hl [0, 1, 2] rfl) h
            · intro j_12 J_13 h
              refine lv_icmp_ge (tgt := 70) hx hb dX8_measures_60 (by decide) (fun q_27 => ?_) (fun q_27 => ?_)
              · have h := it_t q_27 h
                refine lv_aload_n hx hb dX8_measures_70 rfl (lv_at hl 0 rfl) ?_
                refine r_get S gf_X8_239 hK hP 0 rfl rfl dX8_measures_71 ?_
                exact J_13 c_left_2 _ _ _ hP hD hS (lv_sub hl [0, 1, 2] rfl) h
              · have h := it_f q_27 h
                refine lv_iload_n hx hb dX8_measures_63 rfl (lv_at hl 2 rfl) ?_
                refine lv_bipush (v := 16) hx hb dX8_measures_64 (by decide) ?_
                refine lv_irem hx hb dX8_measures_66 (by decide) ?_
                refine lv_goto (tgt := 74) hx hb dX8_measures_67 (by decide) ?_
                exact J_13 (x2_1 - x2_1 / 16 * 16) _ _ _ hP hD hS (lv_sub hl [0, 1, 2] rfl) h
    exact L_9 FU 0 16 (-1) 16 (-1) 0 _ _ _ hP hD hS (lv_sub hl [1, 2, 0] rfl) h
set_option maxHeartbeats 1000000 in
set_option maxRecDepth 100000 in
theorem c_X8_finding (l : Launch) (G : va_G) (kc : Nat → ClassId) (o : Nat) (ad : Nat → Nat) {c_worked : Int32} {c_width : Int32} {c_height : Int32} {c_grey : (Nat → Int32)} {c_setting : (Nat → Int32)} {c_leastOf : (Nat → Int32)} {c_mostOf : (Nat → Int32)} {c_lifted : (Nat → Int32)} {c_squares : Int32} {c_square : (Nat → Int32)} {c_dark : (Nat → Int32)} {c_light : (Nat → Int32)} {c_like : (Nat → Int32)} {c_isCrowded : (Nat → Int32)} {c_pairs : Int32} {c_first : (Nat → Int32)} {c_second : (Nat → Int32)} {c_votes : (Nat → Int32)} {c_shifts : Int32} {c_shiftX : (Nat → Int32)} {c_shiftY : (Nat → Int32)} {c_regionAt : (Nat → Int32)} {c_regions : Int32} {c_regionShift : (Nat → Int32)} {c_regionPairs : (Nat → Int32)} {c_regionFirst : (Nat → Int32)} {c_findings : Int32} {c_regionOf : (Nat → Int32)} {c_offset : (Nat → Int32)} {c_begun : (Nat → Int32)} {c_held : (Nat → Int32)} {c_isIn : (Nat → Int32)} {c_numbered : (Nat → Int32)} {c_left : Int32} {c_right : Int32} {c_top : Int32} {c_low : Int32} {c_missed : Int32} (x1 : Int32) (x2 : Int32) {r : Int32} {c_worked' : Int32} {c_squares' : Int32} {c_square' : (Nat → Int32)} {c_dark' : (Nat → Int32)} {c_light' : (Nat → Int32)} {c_like' : (Nat → Int32)} {c_isCrowded' : (Nat → Int32)} {c_pairs' : Int32} {c_first' : (Nat → Int32)} {c_second' : (Nat → Int32)} {c_votes' : (Nat → Int32)} {c_shifts' : Int32} {c_shiftX' : (Nat → Int32)} {c_shiftY' : (Nat → Int32)} {c_regionAt' : (Nat → Int32)} {c_regions' : Int32} {c_regionShift' : (Nat → Int32)} {c_regionPairs' : (Nat → Int32)} {c_regionFirst' : (Nat → Int32)} {c_findings' : Int32} {c_regionOf' : (Nat → Int32)} {c_offset' : (Nat → Int32)} {c_begun' : (Nat → Int32)} {c_held' : (Nat → Int32)} {c_isIn' : (Nat → Int32)} {c_numbered' : (Nat → Int32)} {c_left' : Int32} {c_right' : Int32} {c_top' : Int32} {c_low' : Int32} {c_missed' : Int32} {FU : Nat} (h : f_X8_finding FU c_worked c_width c_height c_grey c_setting c_squares c_square c_dark c_light c_like c_isCrowded c_pairs c_first c_second c_votes c_shifts c_shiftX c_shiftY c_regionAt c_regions c_regionShift c_regionPairs c_regionFirst c_findings c_regionOf c_offset c_begun c_held c_isIn c_numbered c_left c_right c_top c_low c_missed x1 x2 = some (r, c_worked', c_squares', c_square', c_dark', c_light', c_like', c_isCrowded', c_pairs', c_first', c_second', c_votes', c_shifts', c_shiftX', c_shiftY', c_regionAt', c_regions', c_regionShift', c_regionPairs', c_regionFirst', c_findings', c_regionOf', c_offset', c_begun', c_held', c_isIn', c_numbered', c_left', c_right', c_top', c_low', c_missed')) : CTi l G kc yX8_finding cX8_finding 4 (some .int) (rmq 8 186) [.ref o, .int x1, .int x2] (mW o ad kc c_worked c_width c_height c_grey c_setting c_leastOf c_mostOf c_lifted c_squares c_square c_dark c_light c_like c_isCrowded c_pairs c_first c_second c_votes c_shifts c_shiftX c_shiftY c_regionAt c_regions c_regionShift c_regionPairs c_regionFirst c_findings c_regionOf c_offset c_begun c_held c_isIn c_numbered c_left c_right c_top c_low c_missed) (mW o ad kc (c_worked') c_width c_height c_grey c_setting c_leastOf c_mostOf c_lifted (c_squares') (c_square') (c_dark') (c_light') (c_like') (c_isCrowded') (c_pairs') (c_first') (c_second') (c_votes') (c_shifts') (c_shiftX') (c_shiftY') (c_regionAt') (c_regions') (c_regionShift') (c_regionPairs') (c_regionFirst') (c_findings') (c_regionOf') (c_offset') (c_begun') (c_held') (c_isIn') (c_numbered') (c_left') (c_right') (c_top') (c_low') (c_missed')) r := by
  refine CTi.mk (by decide) (Nat.le_of_ble_eq_true rfl) ?_
  intro p e s m args below meth c A ls Q hQ S hr hlocks hN hA hK hl hP hD hS
  have hx := S.1
  have hb := S.2.1
  have hl : lv_has ls 4 [(0, .ref o), (1, .int x1), (2, .int x2)] := hl
  unfold f_X8_finding at h
  refine lv_aload_n hx hb dX8_finding_0 rfl (lv_at hl 0 rfl) ?_
  obtain ⟨c_worked_1, c_squares_2, c_square_3, c_dark_4, c_light_5, c_like_6, c_isCrowded_7, c_pairs_8, c_first_9, c_second_10, c_votes_11, c_shifts_12, c_shiftX_13, c_shiftY_14, c_regionAt_15, c_regions_16, c_regionShift_17, c_regionPairs_18, c_regionFirst_19, c_findings_20, c_regionOf_21, c_offset_22, c_begun_23, c_held_24, c_isIn_25, c_numbered_26, hq, h⟩ := bd26_e h
  refine cs_Vv (rest := []) (ci := 7) S hN cb_X8_findFindings ml_X8_254 ⟨Nat.le_of_ble_eq_true rfl, Nat.le_of_ble_eq_true rfl⟩ (c_X8_findFindings l G kc o ad  hq) hK hP hD hS hA 0 rfl rfl rfl rfl rfl (Nat.le_of_ble_eq_true rfl) hl.1 dX8_finding_1 (fun H locs hP hD hS => ?_)
  refine lv_iload_n hx hb dX8_finding_4 rfl (lv_at hl 1 rfl) ?_
  refine lv_iconst (v := 0) hx hb dX8_finding_5 (by decide) ?_
  refine lv_aload_n hx hb dX8_finding_6 rfl (lv_at hl 0 rfl) ?_
  refine r_get S gf_X8_199 hK hP 0 rfl rfl dX8_finding_7 ?_
  refine lv_iconst (v := 1) hx hb dX8_finding_10 (by decide) ?_
  refine lv_isub hx hb dX8_finding_11 ?_
  obtain ⟨r_27, hq, h⟩ := bd1_e h
  refine cp_Si (rest := []) [] S hN cb_X8_within ml_X8_96 ⟨Nat.le_of_ble_eq_true rfl, Nat.le_of_ble_eq_true rfl⟩ (c_X8_within l G kc x1 0 (c_findings_20 - 1) hq) hK hP hD hS hA rfl rfl rfl rfl rfl (Nat.le_of_ble_eq_true rfl) hl.1 dX8_finding_12 (fun H locs hP hD hS => ?_)
  have hP : VP G (mW o ad kc c_worked_1 c_width c_height c_grey c_setting c_leastOf c_mostOf c_lifted c_squares_2 c_square_3 c_dark_4 c_light_5 c_like_6 c_isCrowded_7 c_pairs_8 c_first_9 c_second_10 c_votes_11 c_shifts_12 c_shiftX_13 c_shiftY_14 c_regionAt_15 c_regions_16 c_regionShift_17 c_regionPairs_18 c_regionFirst_19 c_findings_20 c_regionOf_21 c_offset_22 c_begun_23 c_held_24 c_isIn_25 c_numbered_26 c_left c_right c_top c_low c_missed) H := hP
  have hD : va_D A (mW o ad kc c_worked_1 c_width c_height c_grey c_setting c_leastOf c_mostOf c_lifted c_squares_2 c_square_3 c_dark_4 c_light_5 c_like_6 c_isCrowded_7 c_pairs_8 c_first_9 c_second_10 c_votes_11 c_shifts_12 c_shiftX_13 c_shiftY_14 c_regionAt_15 c_regions_16 c_regionShift_17 c_regionPairs_18 c_regionFirst_19 c_findings_20 c_regionOf_21 c_offset_22 c_begun_23 c_held_24 c_isIn_25 c_numbered_26 c_left c_right c_top c_low c_missed) := hD
  refine lv_if_ne (tgt := 20) hx hb dX8_finding_15 (by decide) (fun q_50 => ?_) (fun q_50 => ?_)
  · have h := it_f q_50 h
    refine lv_aload_n hx hb dX8_finding_20 rfl (lv_at hl 0 rfl) ?_
    refine r_get S gf_X8_90 hK hP 0 rfl rfl dX8_finding_21 ?_
    refine lv_iload_n hx hb dX8_finding_24 rfl (lv_at hl 1 rfl) ?_
    refine r_iald hx hb hK hP 25 rfl dX8_finding_25 h (fun y_28 h => ?_)
    refine lv_istore_n (lv' := [(3, .int y_28), (0, .ref o), (1, .int x1), (2, .int x2)]) hx hb dX8_finding_26 rfl hl (by decide) rfl (fun ls hl => ?_)
    refine lv_aload_n hx hb dX8_finding_27 rfl (lv_at hl 1 rfl) ?_
    refine lv_iload_n hx hb dX8_finding_28 rfl (lv_at hl 0 rfl) ?_
    obtain ⟨c_left_29, c_right_30, c_top_31, c_low_32, c_missed_33, hq, h⟩ := bd5_e h
    refine cs_Vv (rest := []) (ci := 7) S hN cb_X8_measures ml_X8_257 ⟨Nat.le_of_ble_eq_true rfl, Nat.le_of_ble_eq_true rfl⟩ (c_X8_measures l G kc o ad y_28 hq) hK hP hD hS hA 0 rfl rfl rfl rfl rfl (Nat.le_of_ble_eq_true rfl) hl.1 dX8_finding_29 (fun H locs hP hD hS => ?_)
    refine lv_iload_n hx hb dX8_finding_32 rfl (lv_at hl 3 rfl) ?_
    by_cases q_34 : x2 = 0
    · have h := it_t q_34 h
      refine lv_tableIn (off := 55) (tgt := 88) hx hb dX8_finding_33 (by rw [q_34]; decide) (by rw [q_34]; decide) (by rw [q_34]; rfl) (by decide) ?_
      refine lv_aload_n hx hb dX8_finding_88 rfl (lv_at hl 1 rfl) ?_
      refine lv_iload_n hx hb dX8_finding_89 rfl (lv_at hl 0 rfl) ?_
      obtain ⟨r_35, hq, h⟩ := bd1_e h
      refine cs_Vi (rest := []) (ci := 7) S hN cb_X8_shiftOf ml_X8_205 ⟨Nat.le_of_ble_eq_true rfl, Nat.le_of_ble_eq_true rfl⟩ (c_X8_shiftOf l G kc o ad y_28 hq) hK hP hD hS hA 0 rfl rfl rfl rfl rfl (Nat.le_of_ble_eq_true rfl) hl.1 dX8_finding_90 (fun H locs hP hD hS => ?_)
      cases h
      exact ret_i hx hb hr rfl hQ hlocks hK hP hD hS dX8_finding_93
    · have h := it_f q_34 h
      by_cases q_36 : x2 = 1
      · have h := it_t q_36 h
        refine lv_tableIn (off := 61) (tgt := 94) hx hb dX8_finding_33 (by rw [q_36]; decide) (by rw [q_36]; decide) (by rw [q_36]; rfl) (by decide) ?_
        refine lv_aload_n hx hb dX8_finding_94 rfl (lv_at hl 1 rfl) ?_
        refine r_get S gf_X8_69 hK hP 0 rfl rfl dX8_finding_95 ?_
        refine lv_aload_n hx hb dX8_finding_98 rfl (lv_at hl 1 rfl) ?_
        refine r_get S gf_X8_75 hK hP 0 rfl rfl dX8_finding_99 ?_
        refine lv_iload_n hx hb dX8_finding_102 rfl (lv_at hl 0 rfl) ?_
        refine r_iald hx hb hK hP 20 rfl dX8_finding_103 h (fun y_37 h => ?_)
        refine r_iald hx hb hK hP 18 rfl dX8_finding_104 h (fun y_38 h => ?_)
        cases h
        exact ret_i hx hb hr rfl hQ hlocks hK hP hD hS dX8_finding_105
      · have h := it_f q_36 h
        by_cases q_39 : x2 = 2
        · have h := it_t q_39 h
          refine lv_tableIn (off := 73) (tgt := 106) hx hb dX8_finding_33 (by rw [q_39]; decide) (by rw [q_39]; decide) (by rw [q_39]; rfl) (by decide) ?_
          refine lv_aload_n hx hb dX8_finding_106 rfl (lv_at hl 1 rfl) ?_
          refine r_get S gf_X8_81 hK hP 0 rfl rfl dX8_finding_107 ?_
          refine lv_iload_n hx hb dX8_finding_110 rfl (lv_at hl 0 rfl) ?_
          refine r_iald hx hb hK hP 22 rfl dX8_finding_111 h (fun y_40 h => ?_)
          cases h
          exact ret_i hx hb hr rfl hQ hlocks hK hP hD hS dX8_finding_112
        · have h := it_f q_39 h
          by_cases q_41 : x2 = 3
          · have h := it_t q_41 h
            refine lv_tableIn (off := 80) (tgt := 113) hx hb dX8_finding_33 (by rw [q_41]; decide) (by rw [q_41]; decide) (by rw [q_41]; rfl) (by decide) ?_
            refine lv_aload_n hx hb dX8_finding_113 rfl (lv_at hl 1 rfl) ?_
            refine r_get S gf_X8_84 hK hP 0 rfl rfl dX8_finding_114 ?_
            refine lv_iload_n hx hb dX8_finding_117 rfl (lv_at hl 0 rfl) ?_
            refine r_iald hx hb hK hP 23 rfl dX8_finding_118 h (fun y_42 h => ?_)
            cases h
            exact ret_i hx hb hr rfl hQ hlocks hK hP hD hS dX8_finding_119
          · have h := it_f q_41 h
            by_cases q_43 : x2 = 4
            · have h := it_t q_43 h
              refine lv_tableIn (off := 87) (tgt := 120) hx hb dX8_finding_33 (by rw [q_43]; decide) (by rw [q_43]; decide) (by rw [q_43]; rfl) (by decide) ?_
              refine lv_aload_n hx hb dX8_finding_120 rfl (lv_at hl 1 rfl) ?_
              refine r_get S gf_X8_239 hK hP 0 rfl rfl dX8_finding_121 ?_
              cases h
              exact ret_i hx hb hr rfl hQ hlocks hK hP hD hS dX8_finding_124
            · have h := it_f q_43 h
              by_cases q_44 : x2 = 5
              · have h := it_t q_44 h
                refine lv_tableIn (off := 92) (tgt := 125) hx hb dX8_finding_33 (by rw [q_44]; decide) (by rw [q_44]; decide) (by rw [q_44]; rfl) (by decide) ?_
                refine lv_aload_n hx hb dX8_finding_125 rfl (lv_at hl 1 rfl) ?_
                refine r_get S gf_X8_242 hK hP 0 rfl rfl dX8_finding_126 ?_
                cases h
                exact ret_i hx hb hr rfl hQ hlocks hK hP hD hS dX8_finding_129
              · have h := it_f q_44 h
                by_cases q_45 : x2 = 6
                · have h := it_t q_45 h
                  refine lv_tableIn (off := 97) (tgt := 130) hx hb dX8_finding_33 (by rw [q_45]; decide) (by rw [q_45]; decide) (by rw [q_45]; rfl) (by decide) ?_
                  refine lv_aload_n hx hb dX8_finding_130 rfl (lv_at hl 1 rfl) ?_
                  refine r_get S gf_X8_245 hK hP 0 rfl rfl dX8_finding_131 ?_
                  cases h
                  exact ret_i hx hb hr rfl hQ hlocks hK hP hD hS dX8_finding_134
                · have h := it_f q_45 h
                  by_cases q_46 : x2 = 7
                  · have h := it_t q_46 h
                    refine lv_tableIn (off := 102) (tgt := 135) hx hb dX8_finding_33 (by rw [q_46]; decide) (by rw [q_46]; decide) (by rw [q_46]; rfl) (by decide) ?_
                    refine lv_aload_n hx hb dX8_finding_135 rfl (lv_at hl 1 rfl) ?_
                    refine r_get S gf_X8_248 hK hP 0 rfl rfl dX8_finding_136 ?_
                    cases h
                    exact ret_i hx hb hr rfl hQ hlocks hK hP hD hS dX8_finding_139
                  · have h := it_f q_46 h
                    by_cases q_47 : x2 = 8
                    · have h := it_t q_47 h
                      refine lv_tableIn (off := 107) (tgt := 140) hx hb dX8_finding_33 (by rw [q_47]; decide) (by rw [q_47]; decide) (by rw [q_47]; rfl) (by decide) ?_
                      refine lv_aload_n hx hb dX8_finding_140 rfl (lv_at hl 1 rfl) ?_
                      refine r_get S gf_X8_78 hK hP 0 rfl rfl dX8_finding_141 ?_
                      refine lv_iload_n hx hb dX8_finding_144 rfl (lv_at hl 0 rfl) ?_
                      refine r_iald hx hb hK hP 21 rfl dX8_finding_145 h (fun y_48 h => ?_)
                      refine lv_bipush (v := 100) hx hb dX8_finding_146 (by decide) ?_
                      refine lv_iadd hx hb dX8_finding_148 ?_
                      cases h
                      exact ret_i hx hb hr rfl hQ hlocks hK hP hD hS dX8_finding_149
                    · have h := it_f q_47 h
                      by_cases q_49 : x2 = 9
                      · have h := it_t q_49 h
                        refine lv_tableIn (off := 117) (tgt := 150) hx hb dX8_finding_33 (by rw [q_49]; decide) (by rw [q_49]; decide) (by rw [q_49]; rfl) (by decide) ?_
                        refine lv_aload_n hx hb dX8_finding_150 rfl (lv_at hl 1 rfl) ?_
                        refine r_get S gf_X8_251 hK hP 0 rfl rfl dX8_finding_151 ?_
                        cases h
                        exact ret_i hx hb hr rfl hQ hlocks hK hP hD hS dX8_finding_154
                      · have h := it_f q_49 h
                        have nq_34 := lv_neT (a := 0) q_34 (by decide)
                        have nq_36 := lv_neT (a := 1) q_36 (by decide)
                        have nq_39 := lv_neT (a := 2) q_39 (by decide)
                        have nq_41 := lv_neT (a := 3) q_41 (by decide)
                        have nq_43 := lv_neT (a := 4) q_43 (by decide)
                        have nq_44 := lv_neT (a := 5) q_44 (by decide)
                        have nq_45 := lv_neT (a := 6) q_45 (by decide)
                        have nq_46 := lv_neT (a := 7) q_46 (by decide)
                        have nq_47 := lv_neT (a := 8) q_47 (by decide)
                        have nq_49 := lv_neT (a := 9) q_49 (by decide)
                        refine lv_tableOut (tgt := 155) hx hb dX8_finding_33 (by omega) (by decide) ?_
                        refine lv_bipush (v := (-2)) hx hb dX8_finding_155 (by decide) ?_
                        cases h
                        exact ret_i hx hb hr rfl hQ hlocks hK hP hD hS dX8_finding_157
  · have h := it_t q_50 h
    refine lv_iconst (v := (-1)) hx hb dX8_finding_18 (by decide) ?_
    cases h
    exact ret_i hx hb hr rfl hQ hlocks hK hP hD hS dX8_finding_19
set_option maxHeartbeats 1000000 in
set_option maxRecDepth 100000 in
theorem c_X8_isCopy (l : Launch) (G : va_G) (kc : Nat → ClassId) (o : Nat) (ad : Nat → Nat) {c_worked : Int32} {c_width : Int32} {c_height : Int32} {c_grey : (Nat → Int32)} {c_setting : (Nat → Int32)} {c_leastOf : (Nat → Int32)} {c_mostOf : (Nat → Int32)} {c_lifted : (Nat → Int32)} {c_squares : Int32} {c_square : (Nat → Int32)} {c_dark : (Nat → Int32)} {c_light : (Nat → Int32)} {c_like : (Nat → Int32)} {c_isCrowded : (Nat → Int32)} {c_pairs : Int32} {c_first : (Nat → Int32)} {c_second : (Nat → Int32)} {c_votes : (Nat → Int32)} {c_shifts : Int32} {c_shiftX : (Nat → Int32)} {c_shiftY : (Nat → Int32)} {c_regionAt : (Nat → Int32)} {c_regions : Int32} {c_regionShift : (Nat → Int32)} {c_regionPairs : (Nat → Int32)} {c_regionFirst : (Nat → Int32)} {c_findings : Int32} {c_regionOf : (Nat → Int32)} {c_offset : (Nat → Int32)} {c_begun : (Nat → Int32)} {c_held : (Nat → Int32)} {c_isIn : (Nat → Int32)} {c_numbered : (Nat → Int32)} {c_left : Int32} {c_right : Int32} {c_top : Int32} {c_low : Int32} {c_missed : Int32} (x1 : Int32) (x2 : Int32) (x3 : Int32) {r : Int32} {FU : Nat} (h : f_X8_isCopy FU c_width c_height c_shiftX c_shiftY c_regionShift c_regionOf c_isIn x1 x2 x3 = some r) : CTi l G kc yX8_isCopy cX8_isCopy 6 (some .boolean) (rmq 3 68) [.ref o, .int x1, .int x2, .int x3] (mW o ad kc c_worked c_width c_height c_grey c_setting c_leastOf c_mostOf c_lifted c_squares c_square c_dark c_light c_like c_isCrowded c_pairs c_first c_second c_votes c_shifts c_shiftX c_shiftY c_regionAt c_regions c_regionShift c_regionPairs c_regionFirst c_findings c_regionOf c_offset c_begun c_held c_isIn c_numbered c_left c_right c_top c_low c_missed) (mW o ad kc c_worked c_width c_height c_grey c_setting c_leastOf c_mostOf c_lifted c_squares c_square c_dark c_light c_like c_isCrowded c_pairs c_first c_second c_votes c_shifts c_shiftX c_shiftY c_regionAt c_regions c_regionShift c_regionPairs c_regionFirst c_findings c_regionOf c_offset c_begun c_held c_isIn c_numbered c_left c_right c_top c_low c_missed) r := by
  refine CTi.mk (by decide) (Nat.le_of_ble_eq_true rfl) ?_
  intro p e s m args below meth c A ls Q hQ S hr hlocks hN hA hK hl hP hD hS
  have hx := S.1
  have hb := S.2.1
  have hl : lv_has ls 6 [(0, .ref o), (1, .int x1), (2, .int x2), (3, .int x3)] := hl
  unfold f_X8_isCopy at h
  refine lv_bipush (v := 16) hx hb dX8_isCopy_0 (by decide) ?_
  refine lv_iload_n hx hb dX8_isCopy_2 rfl (lv_at hl 3 rfl) ?_
  refine lv_imul hx hb dX8_isCopy_3 ?_
  refine lv_iload_n hx hb dX8_isCopy_4 rfl (lv_at hl 2 rfl) ?_
  refine lv_iadd hx hb dX8_isCopy_5 ?_
  refine lv_istore (lv' := [(4, .int ((16 * x3) + x2)), (0, .ref o), (1, .int x1), (2, .int x2), (3, .int x3)]) hx hb dX8_isCopy_6 hl (by decide) rfl (fun ls hl => ?_)
  refine lv_iconst (v := 0) hx hb dX8_isCopy_8 (by decide) ?_
  refine lv_istore (lv' := [(5, .int 0), (4, .int ((16 * x3) + x2)), (0, .ref o), (1, .int x1), (2, .int x2), (3, .int x3)]) hx hb dX8_isCopy_9 hl (by decide) rfl (fun ls hl => ?_)
  refine jn_w (t := fun k => f_X8_isCopy_L11 FU x1 ((16 * x3) + x2) c_width c_height c_shiftX c_shiftY c_regionShift c_regionOf c_isIn k FU 0) (fun (k : Int32 → Option (Int32)) => ∀ (x5_1 : Int32) (H : Heap) (locs : List Loc) (ls : Array Slot), VP G (mW o ad kc c_worked c_width c_height c_grey c_setting c_leastOf c_mostOf c_lifted c_squares c_square c_dark c_light c_like c_isCrowded c_pairs c_first c_second c_votes c_shifts c_shiftX c_shiftY c_regionAt c_regions c_regionShift c_regionPairs c_regionFirst c_findings c_regionOf c_offset c_begun c_held c_isIn c_numbered c_left c_right c_top c_low c_missed) H → va_D A (mW o ad kc c_worked c_width c_height c_grey c_setting c_leastOf c_mostOf c_lifted c_squares c_square c_dark c_light c_like c_isCrowded c_pairs c_first c_second c_votes c_shifts c_shiftX c_shiftY c_regionAt c_regions c_regionShift c_regionPairs c_regionFirst c_findings c_regionOf c_offset c_begun c_held c_isIn c_numbered c_left c_right c_top c_low c_missed) → va_S A s.heap H locs → lv_has ls 6 [] → k x5_1 = some r → WW p l e (rmq 3 68) s m args below meth c Q H locs 55 ls []) h ?_ ?_
  · intro x5_1 H locs ls hP hD hS hl h
    refine lv_iconst (v := 0) hx hb dX8_isCopy_55 (by decide) ?_
    cases h
    exact ret_i hx hb hr rfl hQ hlocks hK hP hD hS dX8_isCopy_56
  · intro k_2 K_3 h
    have L_4 : ∀ (n : Nat) (x5_1 : Int32) (H : Heap) (locs : List Loc) (ls : Array Slot), VP G (mW o ad kc c_worked c_width c_height c_grey c_setting c_leastOf c_mostOf c_lifted c_squares c_square c_dark c_light c_like c_isCrowded c_pairs c_first c_second c_votes c_shifts c_shiftX c_shiftY c_regionAt c_regions c_regionShift c_regionPairs c_regionFirst c_findings c_regionOf c_offset c_begun c_held c_isIn c_numbered c_left c_right c_top c_low c_missed) H → va_D A (mW o ad kc c_worked c_width c_height c_grey c_setting c_leastOf c_mostOf c_lifted c_squares c_square c_dark c_light c_like c_isCrowded c_pairs c_first c_second c_votes c_shifts c_shiftX c_shiftY c_regionAt c_regions c_regionShift c_regionPairs c_regionFirst c_findings c_regionOf c_offset c_begun c_held c_isIn c_numbered c_left c_right c_top c_low c_missed) → va_S A s.heap H locs → lv_has ls 6 [(0, .ref o), (1, .int x1), (4, .int ((16 * x3) + x2)), (5, .int x5_1)] → f_X8_isCopy_L11 FU x1 ((16 * x3) + x2) c_width c_height c_shiftX c_shiftY c_regionShift c_regionOf c_isIn k_2 n x5_1 = some r → WW p l e (rmq 3 68) s m args below meth c Q H locs 11 ls [] := by
      intro n
      induction n with
      | zero => intro x5_1 H locs ls hP hD hS hl h; rw [f_X8_isCopy_L11] at h; cases h
      | succ n ih =>
        intro x5_1 H locs ls hP hD hS hl h
        rw [f_X8_isCopy_L11] at h
        refine lv_iload hx hb dX8_isCopy_11 (lv_at hl 3 rfl) ?_
        refine lv_sipush (v := 256) hx hb dX8_isCopy_13 (by decide) ?_
        refine lv_icmp_ge (tgt := 55) hx hb dX8_isCopy_16 (by decide) (fun q_9 => ?_) (fun q_9 => ?_)
        · have h := it_t q_9 h
          exact K_3 x5_1 _ _ _ hP hD hS (lv_sub hl [] rfl) h
        · have h := it_f q_9 h
          refine lv_aload_n hx hb dX8_isCopy_19 rfl (lv_at hl 0 rfl) ?_
          refine r_get S gf_X8_87 hK hP 0 rfl rfl dX8_isCopy_20 ?_
          refine lv_sipush (v := 256) hx hb dX8_isCopy_23 (by decide) ?_
          refine lv_iload_n hx hb dX8_isCopy_26 rfl (lv_at hl 1 rfl) ?_
          refine lv_imul hx hb dX8_isCopy_27 ?_
          refine lv_iload hx hb dX8_isCopy_28 (lv_at hl 3 rfl) ?_
          refine lv_iadd hx hb dX8_isCopy_30 ?_
          refine r_zald hx hb hK hP 24 rfl dX8_isCopy_31 h (fun y_5 h => ?_)
          refine lv_if_eq (tgt := 49) hx hb dX8_isCopy_32 (by decide) (fun q_8 => ?_) (fun q_8 => ?_)
          · have h := it_t q_8 h
            refine lv_iinc (v := (x5_1 + 1)) (lv' := [(5, .int (x5_1 + 1)), (0, .ref o), (1, .int x1), (4, .int ((16 * x3) + x2))]) hx hb dX8_isCopy_49 hl (k := 3) rfl rfl (by decide) rfl (fun ls hl => ?_)
            refine lv_goto (tgt := 11) hx hb dX8_isCopy_52 (by decide) ?_
            exact ih (x5_1 + 1) _ _ _ hP hD hS (lv_sub hl [1, 2, 3, 0] rfl) h
          · have h := it_f q_8 h
            refine lv_aload_n hx hb dX8_isCopy_35 rfl (lv_at hl 0 rfl) ?_
            refine lv_iload_n hx hb dX8_isCopy_36 rfl (lv_at hl 1 rfl) ?_
            refine lv_iload hx hb dX8_isCopy_37 (lv_at hl 3 rfl) ?_
            obtain ⟨r_6, hq, h⟩ := bd1_e h
            refine cs_Vi (rest := []) (ci := 7) S hN cb_X8_copyOf ml_X8_208 ⟨Nat.le_of_ble_eq_true rfl, Nat.le_of_ble_eq_true rfl⟩ (c_X8_copyOf l G kc o ad x1 x5_1 hq) hK hP hD hS hA 0 rfl rfl rfl rfl rfl (Nat.le_of_ble_eq_true rfl) hl.1 dX8_isCopy_39 (fun H locs hP hD hS => ?_)
            refine lv_iload hx hb dX8_isCopy_42 (lv_at hl 2 rfl) ?_
            refine lv_icmp_ne (tgt := 49) hx hb dX8_isCopy_44 (by decide) (fun q_7 => ?_) (fun q_7 => ?_)
            · have h := it_f q_7 h
              refine lv_iinc (v := (x5_1 + 1)) (lv' := [(5, .int (x5_1 + 1)), (0, .ref o), (1, .int x1), (4, .int ((16 * x3) + x2))]) hx hb dX8_isCopy_49 hl (k := 3) rfl rfl (by decide) rfl (fun ls hl => ?_)
              refine lv_goto (tgt := 11) hx hb dX8_isCopy_52 (by decide) ?_
              exact ih (x5_1 + 1) _ _ _ hP hD hS (lv_sub hl [1, 2, 3, 0] rfl) h
            · have h := it_t q_7 h
              refine lv_iconst (v := 1) hx hb dX8_isCopy_47 (by decide) ?_
              cases h
              exact ret_i hx hb hr rfl hQ hlocks hK hP hD hS dX8_isCopy_48
    exact L_4 FU 0 _ _ _ hP hD hS (lv_sub hl [2, 3, 1, 0] rfl) h
set_option maxHeartbeats 1000000 in
set_option maxRecDepth 100000 in
theorem c_X8_holds (l : Launch) (G : va_G) (kc : Nat → ClassId) (o : Nat) (ad : Nat → Nat) {c_worked : Int32} {c_width : Int32} {c_height : Int32} {c_grey : (Nat → Int32)} {c_setting : (Nat → Int32)} {c_leastOf : (Nat → Int32)} {c_mostOf : (Nat → Int32)} {c_lifted : (Nat → Int32)} {c_squares : Int32} {c_square : (Nat → Int32)} {c_dark : (Nat → Int32)} {c_light : (Nat → Int32)} {c_like : (Nat → Int32)} {c_isCrowded : (Nat → Int32)} {c_pairs : Int32} {c_first : (Nat → Int32)} {c_second : (Nat → Int32)} {c_votes : (Nat → Int32)} {c_shifts : Int32} {c_shiftX : (Nat → Int32)} {c_shiftY : (Nat → Int32)} {c_regionAt : (Nat → Int32)} {c_regions : Int32} {c_regionShift : (Nat → Int32)} {c_regionPairs : (Nat → Int32)} {c_regionFirst : (Nat → Int32)} {c_findings : Int32} {c_regionOf : (Nat → Int32)} {c_offset : (Nat → Int32)} {c_begun : (Nat → Int32)} {c_held : (Nat → Int32)} {c_isIn : (Nat → Int32)} {c_numbered : (Nat → Int32)} {c_left : Int32} {c_right : Int32} {c_top : Int32} {c_low : Int32} {c_missed : Int32} (x1 : Int32) (x2 : Int32) (x3 : Int32) {r : Int32} {c_worked' : Int32} {c_squares' : Int32} {c_square' : (Nat → Int32)} {c_dark' : (Nat → Int32)} {c_light' : (Nat → Int32)} {c_like' : (Nat → Int32)} {c_isCrowded' : (Nat → Int32)} {c_pairs' : Int32} {c_first' : (Nat → Int32)} {c_second' : (Nat → Int32)} {c_votes' : (Nat → Int32)} {c_shifts' : Int32} {c_shiftX' : (Nat → Int32)} {c_shiftY' : (Nat → Int32)} {c_regionAt' : (Nat → Int32)} {c_regions' : Int32} {c_regionShift' : (Nat → Int32)} {c_regionPairs' : (Nat → Int32)} {c_regionFirst' : (Nat → Int32)} {c_findings' : Int32} {c_regionOf' : (Nat → Int32)} {c_offset' : (Nat → Int32)} {c_begun' : (Nat → Int32)} {c_held' : (Nat → Int32)} {c_isIn' : (Nat → Int32)} {c_numbered' : (Nat → Int32)} {FU : Nat} (h : f_X8_holds FU c_worked c_width c_height c_grey c_setting c_squares c_square c_dark c_light c_like c_isCrowded c_pairs c_first c_second c_votes c_shifts c_shiftX c_shiftY c_regionAt c_regions c_regionShift c_regionPairs c_regionFirst c_findings c_regionOf c_offset c_begun c_held c_isIn c_numbered x1 x2 x3 = some (r, c_worked', c_squares', c_square', c_dark', c_light', c_like', c_isCrowded', c_pairs', c_first', c_second', c_votes', c_shifts', c_shiftX', c_shiftY', c_regionAt', c_regions', c_regionShift', c_regionPairs', c_regionFirst', c_findings', c_regionOf', c_offset', c_begun', c_held', c_isIn', c_numbered')) : CTi l G kc yX8_holds cX8_holds 5 (some .int) (rmq 8 186) [.ref o, .int x1, .int x2, .int x3] (mW o ad kc c_worked c_width c_height c_grey c_setting c_leastOf c_mostOf c_lifted c_squares c_square c_dark c_light c_like c_isCrowded c_pairs c_first c_second c_votes c_shifts c_shiftX c_shiftY c_regionAt c_regions c_regionShift c_regionPairs c_regionFirst c_findings c_regionOf c_offset c_begun c_held c_isIn c_numbered c_left c_right c_top c_low c_missed) (mW o ad kc (c_worked') c_width c_height c_grey c_setting c_leastOf c_mostOf c_lifted (c_squares') (c_square') (c_dark') (c_light') (c_like') (c_isCrowded') (c_pairs') (c_first') (c_second') (c_votes') (c_shifts') (c_shiftX') (c_shiftY') (c_regionAt') (c_regions') (c_regionShift') (c_regionPairs') (c_regionFirst') (c_findings') (c_regionOf') (c_offset') (c_begun') (c_held') (c_isIn') (c_numbered') c_left c_right c_top c_low c_missed) r := by
  refine CTi.mk (by decide) (Nat.le_of_ble_eq_true rfl) ?_
  intro p e s m args below meth c A ls Q hQ S hr hlocks hN hA hK hl hP hD hS
  have hx := S.1
  have hb := S.2.1
  have hl : lv_has ls 5 [(0, .ref o), (1, .int x1), (2, .int x2), (3, .int x3)] := hl
  unfold f_X8_holds at h
  refine lv_aload_n hx hb dX8_holds_0 rfl (lv_at hl 0 rfl) ?_
  obtain ⟨c_worked_1, c_squares_2, c_square_3, c_dark_4, c_light_5, c_like_6, c_isCrowded_7, c_pairs_8, c_first_9, c_second_10, c_votes_11, c_shifts_12, c_shiftX_13, c_shiftY_14, c_regionAt_15, c_regions_16, c_regionShift_17, c_regionPairs_18, c_regionFirst_19, c_findings_20, c_regionOf_21, c_offset_22, c_begun_23, c_held_24, c_isIn_25, c_numbered_26, hq, h⟩ := bd26_e h
  refine cs_Vv (rest := []) (ci := 7) S hN cb_X8_findFindings ml_X8_254 ⟨Nat.le_of_ble_eq_true rfl, Nat.le_of_ble_eq_true rfl⟩ (c_X8_findFindings l G kc o ad  hq) hK hP hD hS hA 0 rfl rfl rfl rfl rfl (Nat.le_of_ble_eq_true rfl) hl.1 dX8_holds_1 (fun H locs hP hD hS => ?_)
  refine lv_iload_n hx hb dX8_holds_4 rfl (lv_at hl 1 rfl) ?_
  refine lv_iconst (v := 0) hx hb dX8_holds_5 (by decide) ?_
  refine lv_aload_n hx hb dX8_holds_6 rfl (lv_at hl 0 rfl) ?_
  refine r_get S gf_X8_199 hK hP 0 rfl rfl dX8_holds_7 ?_
  refine lv_iconst (v := 1) hx hb dX8_holds_10 (by decide) ?_
  refine lv_isub hx hb dX8_holds_11 ?_
  obtain ⟨r_27, hq, h⟩ := bd1_e h
  refine cp_Si (rest := []) [] S hN cb_X8_within ml_X8_96 ⟨Nat.le_of_ble_eq_true rfl, Nat.le_of_ble_eq_true rfl⟩ (c_X8_within l G kc x1 0 (c_findings_20 - 1) hq) hK hP hD hS hA rfl rfl rfl rfl rfl (Nat.le_of_ble_eq_true rfl) hl.1 dX8_holds_12 (fun H locs hP hD hS => ?_)
  have hP : VP G (mW o ad kc c_worked_1 c_width c_height c_grey c_setting c_leastOf c_mostOf c_lifted c_squares_2 c_square_3 c_dark_4 c_light_5 c_like_6 c_isCrowded_7 c_pairs_8 c_first_9 c_second_10 c_votes_11 c_shifts_12 c_shiftX_13 c_shiftY_14 c_regionAt_15 c_regions_16 c_regionShift_17 c_regionPairs_18 c_regionFirst_19 c_findings_20 c_regionOf_21 c_offset_22 c_begun_23 c_held_24 c_isIn_25 c_numbered_26 c_left c_right c_top c_low c_missed) H := hP
  have hD : va_D A (mW o ad kc c_worked_1 c_width c_height c_grey c_setting c_leastOf c_mostOf c_lifted c_squares_2 c_square_3 c_dark_4 c_light_5 c_like_6 c_isCrowded_7 c_pairs_8 c_first_9 c_second_10 c_votes_11 c_shifts_12 c_shiftX_13 c_shiftY_14 c_regionAt_15 c_regions_16 c_regionShift_17 c_regionPairs_18 c_regionFirst_19 c_findings_20 c_regionOf_21 c_offset_22 c_begun_23 c_held_24 c_isIn_25 c_numbered_26 c_left c_right c_top c_low c_missed) := hD
  refine lv_if_eq (tgt := 27) hx hb dX8_holds_15 (by decide) (fun q_41 => ?_) (fun q_41 => ?_)
  · have h := it_t q_41 h
    refine lv_iconst (v := (-1)) hx hb dX8_holds_27 (by decide) ?_
    cases h
    exact ret_i hx hb hr rfl hQ hlocks hK hP hD hS dX8_holds_28
  · have h := it_f q_41 h
    refine lv_aload_n hx hb dX8_holds_18 rfl (lv_at hl 0 rfl) ?_
    refine lv_iload_n hx hb dX8_holds_19 rfl (lv_at hl 2 rfl) ?_
    refine lv_iload_n hx hb dX8_holds_20 rfl (lv_at hl 3 rfl) ?_
    obtain ⟨r_28, hq, h⟩ := bd1_e h
    refine cs_Vi (rest := []) (ci := 7) S hN cb_X8_isPlace ml_X8_104 ⟨Nat.le_of_ble_eq_true rfl, Nat.le_of_ble_eq_true rfl⟩ (c_X8_isPlace l G kc o ad x2 x3 hq) hK hP hD hS hA 0 rfl rfl rfl rfl rfl (Nat.le_of_ble_eq_true rfl) hl.1 dX8_holds_21 (fun H locs hP hD hS => ?_)
    refine lv_if_ne (tgt := 29) hx hb dX8_holds_24 (by decide) (fun q_40 => ?_) (fun q_40 => ?_)
    · have h := it_f q_40 h
      refine lv_aload_n hx hb dX8_holds_29 rfl (lv_at hl 0 rfl) ?_
      refine r_get S gf_X8_90 hK hP 0 rfl rfl dX8_holds_30 ?_
      refine lv_iload_n hx hb dX8_holds_33 rfl (lv_at hl 1 rfl) ?_
      refine r_iald hx hb hK hP 25 rfl dX8_holds_34 h (fun y_29 h => ?_)
      refine lv_istore (lv' := [(4, .int y_29), (0, .ref o), (1, .int x1), (2, .int x2), (3, .int x3)]) hx hb dX8_holds_35 hl (by decide) rfl (fun ls hl => ?_)
      refine lv_aload_n hx hb dX8_holds_37 rfl (lv_at hl 1 rfl) ?_
      refine lv_iload hx hb dX8_holds_38 (lv_at hl 0 rfl) ?_
      refine lv_iload_n hx hb dX8_holds_40 rfl (lv_at hl 3 rfl) ?_
      refine lv_iload_n hx hb dX8_holds_41 rfl (lv_at hl 4 rfl) ?_
      obtain ⟨r_30, hq, h⟩ := bd1_e h
      refine cs_Vi (rest := []) (ci := 7) S hN cb_X8_isHeld ml_X8_217 ⟨Nat.le_of_ble_eq_true rfl, Nat.le_of_ble_eq_true rfl⟩ (c_X8_isHeld l G kc o ad y_29 x2 x3 hq) hK hP hD hS hA 0 rfl rfl rfl rfl rfl (Nat.le_of_ble_eq_true rfl) hl.1 dX8_holds_42 (fun H locs hP hD hS => ?_)
      refine jn_w (fun (k : Int32 → Option (Int32 × Int32 × Int32 × (Nat → Int32) × (Nat → Int32) × (Nat → Int32) × (Nat → Int32) × (Nat → Int32) × Int32 × (Nat → Int32) × (Nat → Int32) × (Nat → Int32) × Int32 × (Nat → Int32) × (Nat → Int32) × (Nat → Int32) × Int32 × (Nat → Int32) × (Nat → Int32) × (Nat → Int32) × Int32 × (Nat → Int32) × (Nat → Int32) × (Nat → Int32) × (Nat → Int32) × (Nat → Int32) × (Nat → Int32))) => ∀ (t_31 : Int32) (H : Heap) (locs : List Loc) (ls : Array Slot), VP G (mW o ad kc c_worked_1 c_width c_height c_grey c_setting c_leastOf c_mostOf c_lifted c_squares_2 c_square_3 c_dark_4 c_light_5 c_like_6 c_isCrowded_7 c_pairs_8 c_first_9 c_second_10 c_votes_11 c_shifts_12 c_shiftX_13 c_shiftY_14 c_regionAt_15 c_regions_16 c_regionShift_17 c_regionPairs_18 c_regionFirst_19 c_findings_20 c_regionOf_21 c_offset_22 c_begun_23 c_held_24 c_isIn_25 c_numbered_26 c_left c_right c_top c_low c_missed) H → va_D A (mW o ad kc c_worked_1 c_width c_height c_grey c_setting c_leastOf c_mostOf c_lifted c_squares_2 c_square_3 c_dark_4 c_light_5 c_like_6 c_isCrowded_7 c_pairs_8 c_first_9 c_second_10 c_votes_11 c_shifts_12 c_shiftX_13 c_shiftY_14 c_regionAt_15 c_regions_16 c_regionShift_17 c_regionPairs_18 c_regionFirst_19 c_findings_20 c_regionOf_21 c_offset_22 c_begun_23 c_held_24 c_isIn_25 c_numbered_26 c_left c_right c_top c_low c_missed) → va_S A s.heap H locs → lv_has ls 5 [(0, .ref o), (2, .int x2), (3, .int x3), (4, .int y_29)] → k t_31 = some (r, c_worked', c_squares', c_square', c_dark', c_light', c_like', c_isCrowded', c_pairs', c_first', c_second', c_votes', c_shifts', c_shiftX', c_shiftY', c_regionAt', c_regions', c_regionShift', c_regionPairs', c_regionFirst', c_findings', c_regionOf', c_offset', c_begun', c_held', c_isIn', c_numbered') → WW p l e (rmq 8 186) s m args below meth c Q H locs 53 ls [.int t_31]) h ?_ ?_
      · intro t_31 H locs ls hP hD hS hl h
        refine lv_aload_n hx hb dX8_holds_53 rfl (lv_at hl 0 rfl) ?_
        refine lv_iload hx hb dX8_holds_54 (lv_at hl 3 rfl) ?_
        refine lv_iload_n hx hb dX8_holds_56 rfl (lv_at hl 1 rfl) ?_
        refine lv_iload_n hx hb dX8_holds_57 rfl (lv_at hl 2 rfl) ?_
        obtain ⟨r_34, hq, h⟩ := bd1_e h
        refine cs_Vi (rest := [.int t_31]) (ci := 7) S hN cb_X8_isCopy ml_X8_260 ⟨Nat.le_of_ble_eq_true rfl, Nat.le_of_ble_eq_true rfl⟩ (c_X8_isCopy l G kc o ad y_29 x2 x3 hq) hK hP hD hS hA 0 rfl rfl rfl rfl rfl (Nat.le_of_ble_eq_true rfl) hl.1 dX8_holds_58 (fun H locs hP hD hS => ?_)
        refine jn_w (fun (k : Int32 → Option (Int32 × Int32 × Int32 × (Nat → Int32) × (Nat → Int32) × (Nat → Int32) × (Nat → Int32) × (Nat → Int32) × Int32 × (Nat → Int32) × (Nat → Int32) × (Nat → Int32) × Int32 × (Nat → Int32) × (Nat → Int32) × (Nat → Int32) × Int32 × (Nat → Int32) × (Nat → Int32) × (Nat → Int32) × Int32 × (Nat → Int32) × (Nat → Int32) × (Nat → Int32) × (Nat → Int32) × (Nat → Int32) × (Nat → Int32))) => ∀ (t_35 : Int32) (H : Heap) (locs : List Loc) (ls : Array Slot), VP G (mW o ad kc c_worked_1 c_width c_height c_grey c_setting c_leastOf c_mostOf c_lifted c_squares_2 c_square_3 c_dark_4 c_light_5 c_like_6 c_isCrowded_7 c_pairs_8 c_first_9 c_second_10 c_votes_11 c_shifts_12 c_shiftX_13 c_shiftY_14 c_regionAt_15 c_regions_16 c_regionShift_17 c_regionPairs_18 c_regionFirst_19 c_findings_20 c_regionOf_21 c_offset_22 c_begun_23 c_held_24 c_isIn_25 c_numbered_26 c_left c_right c_top c_low c_missed) H → va_D A (mW o ad kc c_worked_1 c_width c_height c_grey c_setting c_leastOf c_mostOf c_lifted c_squares_2 c_square_3 c_dark_4 c_light_5 c_like_6 c_isCrowded_7 c_pairs_8 c_first_9 c_second_10 c_votes_11 c_shifts_12 c_shiftX_13 c_shiftY_14 c_regionAt_15 c_regions_16 c_regionShift_17 c_regionPairs_18 c_regionFirst_19 c_findings_20 c_regionOf_21 c_offset_22 c_begun_23 c_held_24 c_isIn_25 c_numbered_26 c_left c_right c_top c_low c_missed) → va_S A s.heap H locs → lv_has ls 5 [] → k t_35 = some (r, c_worked', c_squares', c_square', c_dark', c_light', c_like', c_isCrowded', c_pairs', c_first', c_second', c_votes', c_shifts', c_shiftX', c_shiftY', c_regionAt', c_regions', c_regionShift', c_regionPairs', c_regionFirst', c_findings', c_regionOf', c_offset', c_begun', c_held', c_isIn', c_numbered') → WW p l e (rmq 8 186) s m args below meth c Q H locs 69 ls [.int t_35, .int t_31]) h ?_ ?_
        · intro t_35 H locs ls hP hD hS hl h
          refine lv_iadd hx hb dX8_holds_69 ?_
          cases h
          exact ret_i hx hb hr rfl hQ hlocks hK hP hD hS dX8_holds_70
        · intro j_36 J_37 h
          refine lv_if_eq (tgt := 68) hx hb dX8_holds_61 (by decide) (fun q_38 => ?_) (fun q_38 => ?_)
          · have h := it_t q_38 h
            refine lv_iconst (v := 0) hx hb dX8_holds_68 (by decide) ?_
            exact J_37 0 _ _ _ hP hD hS (lv_sub hl [] rfl) h
          · have h := it_f q_38 h
            refine lv_iconst (v := 2) hx hb dX8_holds_64 (by decide) ?_
            refine lv_goto (tgt := 69) hx hb dX8_holds_65 (by decide) ?_
            exact J_37 2 _ _ _ hP hD hS (lv_sub hl [] rfl) h
      · intro j_32 J_33 h
        refine lv_if_eq (tgt := 52) hx hb dX8_holds_45 (by decide) (fun q_39 => ?_) (fun q_39 => ?_)
        · have h := it_t q_39 h
          refine lv_iconst (v := 0) hx hb dX8_holds_52 (by decide) ?_
          exact J_33 0 _ _ _ hP hD hS (lv_sub hl [1, 3, 4, 0] rfl) h
        · have h := it_f q_39 h
          refine lv_iconst (v := 1) hx hb dX8_holds_48 (by decide) ?_
          refine lv_goto (tgt := 53) hx hb dX8_holds_49 (by decide) ?_
          exact J_33 1 _ _ _ hP hD hS (lv_sub hl [1, 3, 4, 0] rfl) h
    · have h := it_t q_40 h
      refine lv_iconst (v := (-1)) hx hb dX8_holds_27 (by decide) ?_
      cases h
      exact ret_i hx hb hr rfl hQ hlocks hK hP hD hS dX8_holds_28
set_option maxHeartbeats 1000000 in
set_option maxRecDepth 100000 in
theorem c_X8_isSeen (l : Launch) (G : va_G) (kc : Nat → ClassId) (o : Nat) (ad : Nat → Nat) {c_worked : Int32} {c_width : Int32} {c_height : Int32} {c_grey : (Nat → Int32)} {c_setting : (Nat → Int32)} {c_leastOf : (Nat → Int32)} {c_mostOf : (Nat → Int32)} {c_lifted : (Nat → Int32)} {c_squares : Int32} {c_square : (Nat → Int32)} {c_dark : (Nat → Int32)} {c_light : (Nat → Int32)} {c_like : (Nat → Int32)} {c_isCrowded : (Nat → Int32)} {c_pairs : Int32} {c_first : (Nat → Int32)} {c_second : (Nat → Int32)} {c_votes : (Nat → Int32)} {c_shifts : Int32} {c_shiftX : (Nat → Int32)} {c_shiftY : (Nat → Int32)} {c_regionAt : (Nat → Int32)} {c_regions : Int32} {c_regionShift : (Nat → Int32)} {c_regionPairs : (Nat → Int32)} {c_regionFirst : (Nat → Int32)} {c_findings : Int32} {c_regionOf : (Nat → Int32)} {c_offset : (Nat → Int32)} {c_begun : (Nat → Int32)} {c_held : (Nat → Int32)} {c_isIn : (Nat → Int32)} {c_numbered : (Nat → Int32)} {c_left : Int32} {c_right : Int32} {c_top : Int32} {c_low : Int32} {c_missed : Int32} (x1 : Int32) (x2 : Int32) (x3 : Int32) {r : Int32} {FU : Nat} (h : f_X8_isSeen FU c_width c_height c_shiftX c_shiftY c_regionShift c_findings c_regionOf c_isIn x1 x2 x3 = some r) : CTi l G kc yX8_isSeen cX8_isSeen 5 (some .boolean) (rmq 4 93) [.ref o, .int x1, .int x2, .int x3] (mW o ad kc c_worked c_width c_height c_grey c_setting c_leastOf c_mostOf c_lifted c_squares c_square c_dark c_light c_like c_isCrowded c_pairs c_first c_second c_votes c_shifts c_shiftX c_shiftY c_regionAt c_regions c_regionShift c_regionPairs c_regionFirst c_findings c_regionOf c_offset c_begun c_held c_isIn c_numbered c_left c_right c_top c_low c_missed) (mW o ad kc c_worked c_width c_height c_grey c_setting c_leastOf c_mostOf c_lifted c_squares c_square c_dark c_light c_like c_isCrowded c_pairs c_first c_second c_votes c_shifts c_shiftX c_shiftY c_regionAt c_regions c_regionShift c_regionPairs c_regionFirst c_findings c_regionOf c_offset c_begun c_held c_isIn c_numbered c_left c_right c_top c_low c_missed) r := by
  refine CTi.mk (by decide) (Nat.le_of_ble_eq_true rfl) ?_
  intro p e s m args below meth c A ls Q hQ S hr hlocks hN hA hK hl hP hD hS
  have hx := S.1
  have hb := S.2.1
  have hl : lv_has ls 5 [(0, .ref o), (1, .int x1), (2, .int x2), (3, .int x3)] := hl
  unfold f_X8_isSeen at h
  refine lv_iconst (v := 0) hx hb dX8_isSeen_0 (by decide) ?_
  refine lv_istore (lv' := [(4, .int 0), (0, .ref o), (1, .int x1), (2, .int x2), (3, .int x3)]) hx hb dX8_isSeen_1 hl (by decide) rfl (fun ls hl => ?_)
  refine jn_w (t := fun k => f_X8_isSeen_L3 FU x1 x2 x3 c_width c_height c_shiftX c_shiftY c_regionShift c_findings c_regionOf c_isIn k FU 0) (fun (k : Int32 → Option (Int32)) => ∀ (x4_1 : Int32) (H : Heap) (locs : List Loc) (ls : Array Slot), VP G (mW o ad kc c_worked c_width c_height c_grey c_setting c_leastOf c_mostOf c_lifted c_squares c_square c_dark c_light c_like c_isCrowded c_pairs c_first c_second c_votes c_shifts c_shiftX c_shiftY c_regionAt c_regions c_regionShift c_regionPairs c_regionFirst c_findings c_regionOf c_offset c_begun c_held c_isIn c_numbered c_left c_right c_top c_low c_missed) H → va_D A (mW o ad kc c_worked c_width c_height c_grey c_setting c_leastOf c_mostOf c_lifted c_squares c_square c_dark c_light c_like c_isCrowded c_pairs c_first c_second c_votes c_shifts c_shiftX c_shiftY c_regionAt c_regions c_regionShift c_regionPairs c_regionFirst c_findings c_regionOf c_offset c_begun c_held c_isIn c_numbered c_left c_right c_top c_low c_missed) → va_S A s.heap H locs → lv_has ls 5 [] → k x4_1 = some r → WW p l e (rmq 4 93) s m args below meth c Q H locs 51 ls []) h ?_ ?_
  · intro x4_1 H locs ls hP hD hS hl h
    refine lv_iconst (v := 0) hx hb dX8_isSeen_51 (by decide) ?_
    cases h
    exact ret_i hx hb hr rfl hQ hlocks hK hP hD hS dX8_isSeen_52
  · intro k_2 K_3 h
    have L_4 : ∀ (n : Nat) (x4_1 : Int32) (H : Heap) (locs : List Loc) (ls : Array Slot), VP G (mW o ad kc c_worked c_width c_height c_grey c_setting c_leastOf c_mostOf c_lifted c_squares c_square c_dark c_light c_like c_isCrowded c_pairs c_first c_second c_votes c_shifts c_shiftX c_shiftY c_regionAt c_regions c_regionShift c_regionPairs c_regionFirst c_findings c_regionOf c_offset c_begun c_held c_isIn c_numbered c_left c_right c_top c_low c_missed) H → va_D A (mW o ad kc c_worked c_width c_height c_grey c_setting c_leastOf c_mostOf c_lifted c_squares c_square c_dark c_light c_like c_isCrowded c_pairs c_first c_second c_votes c_shifts c_shiftX c_shiftY c_regionAt c_regions c_regionShift c_regionPairs c_regionFirst c_findings c_regionOf c_offset c_begun c_held c_isIn c_numbered c_left c_right c_top c_low c_missed) → va_S A s.heap H locs → lv_has ls 5 [(0, .ref o), (1, .int x1), (2, .int x2), (3, .int x3), (4, .int x4_1)] → f_X8_isSeen_L3 FU x1 x2 x3 c_width c_height c_shiftX c_shiftY c_regionShift c_findings c_regionOf c_isIn k_2 n x4_1 = some r → WW p l e (rmq 4 93) s m args below meth c Q H locs 3 ls [] := by
      intro n
      induction n with
      | zero => intro x4_1 H locs ls hP hD hS hl h; rw [f_X8_isSeen_L3] at h; cases h
      | succ n ih =>
        intro x4_1 H locs ls hP hD hS hl h
        rw [f_X8_isSeen_L3] at h
        refine lv_iload hx hb dX8_isSeen_3 (lv_at hl 4 rfl) ?_
        refine lv_aload_n hx hb dX8_isSeen_5 rfl (lv_at hl 0 rfl) ?_
        refine r_get S gf_X8_199 hK hP 0 rfl rfl dX8_isSeen_6 ?_
        refine lv_icmp_ge (tgt := 51) hx hb dX8_isSeen_9 (by decide) (fun q_13 => ?_) (fun q_13 => ?_)
        · have h := it_t q_13 h
          exact K_3 x4_1 _ _ _ hP hD hS (lv_sub hl [] rfl) h
        · have h := it_f q_13 h
          refine lv_iload_n hx hb dX8_isSeen_12 rfl (lv_at hl 3 rfl) ?_
          refine lv_iconst (v := 1) hx hb dX8_isSeen_13 (by decide) ?_
          refine jn_w (fun (k : Option (Int32)) => ∀ (H : Heap) (locs : List Loc) (ls : Array Slot), VP G (mW o ad kc c_worked c_width c_height c_grey c_setting c_leastOf c_mostOf c_lifted c_squares c_square c_dark c_light c_like c_isCrowded c_pairs c_first c_second c_votes c_shifts c_shiftX c_shiftY c_regionAt c_regions c_regionShift c_regionPairs c_regionFirst c_findings c_regionOf c_offset c_begun c_held c_isIn c_numbered c_left c_right c_top c_low c_missed) H → va_D A (mW o ad kc c_worked c_width c_height c_grey c_setting c_leastOf c_mostOf c_lifted c_squares c_square c_dark c_light c_like c_isCrowded c_pairs c_first c_second c_votes c_shifts c_shiftX c_shiftY c_regionAt c_regions c_regionShift c_regionPairs c_regionFirst c_findings c_regionOf c_offset c_begun c_held c_isIn c_numbered c_left c_right c_top c_low c_missed) → va_S A s.heap H locs → lv_has ls 5 [(0, .ref o), (1, .int x1), (2, .int x2), (3, .int x3), (4, .int x4_1)] → k  = some r → WW p l e (rmq 4 93) s m args below meth c Q H locs 28 ls []) h ?_ ?_
          · intro H locs ls hP hD hS hl h
            refine lv_iload_n hx hb dX8_isSeen_28 rfl (lv_at hl 3 rfl) ?_
            refine lv_if_eq (tgt := 45) hx hb dX8_isSeen_29 (by decide) (fun q_9 => ?_) (fun q_9 => ?_)
            · have h := it_t q_9 h
              refine lv_iinc (v := (x4_1 + 1)) (lv' := [(4, .int (x4_1 + 1)), (0, .ref o), (1, .int x1), (2, .int x2), (3, .int x3)]) hx hb dX8_isSeen_45 hl (k := 4) rfl rfl (by decide) rfl (fun ls hl => ?_)
              refine lv_goto (tgt := 3) hx hb dX8_isSeen_48 (by decide) ?_
              exact ih (x4_1 + 1) _ _ _ hP hD hS (lv_sub hl [1, 2, 3, 4, 0] rfl) h
            · have h := it_f q_9 h
              refine lv_aload_n hx hb dX8_isSeen_32 rfl (lv_at hl 0 rfl) ?_
              refine lv_iload hx hb dX8_isSeen_33 (lv_at hl 4 rfl) ?_
              refine lv_iload_n hx hb dX8_isSeen_35 rfl (lv_at hl 1 rfl) ?_
              refine lv_iload_n hx hb dX8_isSeen_36 rfl (lv_at hl 2 rfl) ?_
              obtain ⟨r_7, hq, h⟩ := bd1_e h
              refine cs_Vi (rest := []) (ci := 7) S hN cb_X8_isCopy ml_X8_260 ⟨Nat.le_of_ble_eq_true rfl, Nat.le_of_ble_eq_true rfl⟩ (c_X8_isCopy l G kc o ad x4_1 x1 x2 hq) hK hP hD hS hA 0 rfl rfl rfl rfl rfl (Nat.le_of_ble_eq_true rfl) hl.1 dX8_isSeen_37 (fun H locs hP hD hS => ?_)
              refine lv_if_eq (tgt := 45) hx hb dX8_isSeen_40 (by decide) (fun q_8 => ?_) (fun q_8 => ?_)
              · have h := it_t q_8 h
                refine lv_iinc (v := (x4_1 + 1)) (lv' := [(4, .int (x4_1 + 1)), (0, .ref o), (1, .int x1), (2, .int x2), (3, .int x3)]) hx hb dX8_isSeen_45 hl (k := 4) rfl rfl (by decide) rfl (fun ls hl => ?_)
                refine lv_goto (tgt := 3) hx hb dX8_isSeen_48 (by decide) ?_
                exact ih (x4_1 + 1) _ _ _ hP hD hS (lv_sub hl [1, 2, 3, 4, 0] rfl) h
              · have h := it_f q_8 h
                refine lv_iconst (v := 1) hx hb dX8_isSeen_43 (by decide) ?_
                cases h
                exact ret_i hx hb hr rfl hQ hlocks hK hP hD hS dX8_isSeen_44
          · intro j_5 J_6 h
            refine lv_icmp_eq (tgt := 28) hx hb dX8_isSeen_14 (by decide) (fun q_12 => ?_) (fun q_12 => ?_)
            · have h := it_t q_12 h
              exact J_6  _ _ _ hP hD hS (lv_sub hl [0, 1, 2, 3, 4] rfl) h
            · have h := it_f q_12 h
              refine lv_aload_n hx hb dX8_isSeen_17 rfl (lv_at hl 0 rfl) ?_
              refine lv_iload hx hb dX8_isSeen_18 (lv_at hl 4 rfl) ?_
              refine lv_iload_n hx hb dX8_isSeen_20 rfl (lv_at hl 1 rfl) ?_
              refine lv_iload_n hx hb dX8_isSeen_21 rfl (lv_at hl 2 rfl) ?_
              obtain ⟨r_10, hq, h⟩ := bd1_e h
              refine cs_Vi (rest := []) (ci := 7) S hN cb_X8_isHeld ml_X8_217 ⟨Nat.le_of_ble_eq_true rfl, Nat.le_of_ble_eq_true rfl⟩ (c_X8_isHeld l G kc o ad x4_1 x1 x2 hq) hK hP hD hS hA 0 rfl rfl rfl rfl rfl (Nat.le_of_ble_eq_true rfl) hl.1 dX8_isSeen_22 (fun H locs hP hD hS => ?_)
              refine lv_if_ne (tgt := 43) hx hb dX8_isSeen_25 (by decide) (fun q_11 => ?_) (fun q_11 => ?_)
              · have h := it_f q_11 h
                refine lv_iconst (v := 1) hx hb dX8_isSeen_43 (by decide) ?_
                cases h
                exact ret_i hx hb hr rfl hQ hlocks hK hP hD hS dX8_isSeen_44
              · have h := it_t q_11 h
                exact J_6  _ _ _ hP hD hS (lv_sub hl [0, 1, 2, 3, 4] rfl) h
    exact L_4 FU 0 _ _ _ hP hD hS (lv_sub hl [1, 2, 3, 4, 0] rfl) h
