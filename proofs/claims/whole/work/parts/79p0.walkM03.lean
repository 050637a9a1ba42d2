set_option maxHeartbeats 1000000 in
set_option maxRecDepth 100000 in
theorem c_X8_pair (l : Launch) (G : va_G) (kc : Nat → ClassId) (o : Nat) (ad : Nat → Nat) {c_worked : Int32} {c_width : Int32} {c_height : Int32} {c_grey : (Nat → Int32)} {c_setting : (Nat → Int32)} {c_leastOf : (Nat → Int32)} {c_mostOf : (Nat → Int32)} {c_lifted : (Nat → Int32)} {c_squares : Int32} {c_square : (Nat → Int32)} {c_dark : (Nat → Int32)} {c_light : (Nat → Int32)} {c_like : (Nat → Int32)} {c_isCrowded : (Nat → Int32)} {c_pairs : Int32} {c_first : (Nat → Int32)} {c_second : (Nat → Int32)} {c_votes : (Nat → Int32)} {c_shifts : Int32} {c_shiftX : (Nat → Int32)} {c_shiftY : (Nat → Int32)} {c_regionAt : (Nat → Int32)} {c_regions : Int32} {c_regionShift : (Nat → Int32)} {c_regionPairs : (Nat → Int32)} {c_regionFirst : (Nat → Int32)} {c_findings : Int32} {c_regionOf : (Nat → Int32)} {c_offset : (Nat → Int32)} {c_begun : (Nat → Int32)} {c_held : (Nat → Int32)} {c_isIn : (Nat → Int32)} {c_numbered : (Nat → Int32)} {c_left : Int32} {c_right : Int32} {c_top : Int32} {c_low : Int32} {c_missed : Int32} (x1 : Int32) (x2 : Int32) {r : Int32} {c_worked' : Int32} {c_squares' : Int32} {c_square' : (Nat → Int32)} {c_dark' : (Nat → Int32)} {c_light' : (Nat → Int32)} {c_like' : (Nat → Int32)} {c_isCrowded' : (Nat → Int32)} {c_pairs' : Int32} {c_first' : (Nat → Int32)} {c_second' : (Nat → Int32)} {c_votes' : (Nat → Int32)} {FU : Nat} (h : f_X8_pair FU c_worked c_width c_height c_grey c_setting c_squares c_square c_dark c_light c_like c_isCrowded c_pairs c_first c_second c_votes x1 x2 = some (r, c_worked', c_squares', c_square', c_dark', c_light', c_like', c_isCrowded', c_pairs', c_first', c_second', c_votes')) : CTi l G kc yX8_pair cX8_pair 3 (some .int) (rmq 5 115) [.ref o, .int x1, .int x2] (mW o ad kc c_worked c_width c_height c_grey c_setting c_leastOf c_mostOf c_lifted c_squares c_square c_dark c_light c_like c_isCrowded c_pairs c_first c_second c_votes c_shifts c_shiftX c_shiftY c_regionAt c_regions c_regionShift c_regionPairs c_regionFirst c_findings c_regionOf c_offset c_begun c_held c_isIn c_numbered c_left c_right c_top c_low c_missed) (mW o ad kc (c_worked') c_width c_height c_grey c_setting c_leastOf c_mostOf c_lifted (c_squares') (c_square') (c_dark') (c_light') (c_like') (c_isCrowded') (c_pairs') (c_first') (c_second') (c_votes') c_shifts c_shiftX c_shiftY c_regionAt c_regions c_regionShift c_regionPairs c_regionFirst c_findings c_regionOf c_offset c_begun c_held c_isIn c_numbered c_left c_right c_top c_low c_missed) r := by
  refine CTi.mk (by decide) (Nat.le_of_ble_eq_true rfl) ?_
  intro p e s m args below meth c A ls Q hQ S hr hlocks hN hA hK hl hP hD hS
  have hx := S.1
  have hb := S.2.1
  have hl : lv_has ls 3 [(0, .ref o), (1, .int x1), (2, .int x2)] := hl
  unfold f_X8_pair at h
  refine lv_aload_n hx hb dX8_pair_0 rfl (lv_at hl 0 rfl) ?_
  obtain ⟨c_worked_1, c_squares_2, c_square_3, c_dark_4, c_light_5, c_like_6, c_isCrowded_7, c_pairs_8, c_first_9, c_second_10, c_votes_11, hq, h⟩ := bd11_e h
  refine cs_Vv (rest := []) (ci := 7) S hN cb_X8_findPairs ml_X8_146 ⟨Nat.le_of_ble_eq_true rfl, Nat.le_of_ble_eq_true rfl⟩ (c_X8_findPairs l G kc o ad  hq) hK hP hD hS hA 0 rfl rfl rfl rfl rfl (Nat.le_of_ble_eq_true rfl) hl.1 dX8_pair_1 (fun H locs hP hD hS => ?_)
  refine lv_iload_n hx hb dX8_pair_4 rfl (lv_at hl 1 rfl) ?_
  refine lv_iconst (v := 0) hx hb dX8_pair_5 (by decide) ?_
  refine lv_aload_n hx hb dX8_pair_6 rfl (lv_at hl 0 rfl) ?_
  refine r_get S gf_X8_149 hK hP 0 rfl rfl dX8_pair_7 ?_
  refine lv_iconst (v := 1) hx hb dX8_pair_10 (by decide) ?_
  refine lv_isub hx hb dX8_pair_11 ?_
  obtain ⟨r_12, hq, h⟩ := bd1_e h
  refine cp_Si (rest := []) [] S hN cb_X8_within ml_X8_96 ⟨Nat.le_of_ble_eq_true rfl, Nat.le_of_ble_eq_true rfl⟩ (c_X8_within l G kc x1 0 (c_pairs_8 - 1) hq) hK hP hD hS hA rfl rfl rfl rfl rfl (Nat.le_of_ble_eq_true rfl) hl.1 dX8_pair_12 (fun H locs hP hD hS => ?_)
  have hP : VP G (mW o ad kc c_worked_1 c_width c_height c_grey c_setting c_leastOf c_mostOf c_lifted c_squares_2 c_square_3 c_dark_4 c_light_5 c_like_6 c_isCrowded_7 c_pairs_8 c_first_9 c_second_10 c_votes_11 c_shifts c_shiftX c_shiftY c_regionAt c_regions c_regionShift c_regionPairs c_regionFirst c_findings c_regionOf c_offset c_begun c_held c_isIn c_numbered c_left c_right c_top c_low c_missed) H := hP
  have hD : va_D A (mW o ad kc c_worked_1 c_width c_height c_grey c_setting c_leastOf c_mostOf c_lifted c_squares_2 c_square_3 c_dark_4 c_light_5 c_like_6 c_isCrowded_7 c_pairs_8 c_first_9 c_second_10 c_votes_11 c_shifts c_shiftX c_shiftY c_regionAt c_regions c_regionShift c_regionPairs c_regionFirst c_findings c_regionOf c_offset c_begun c_held c_isIn c_numbered c_left c_right c_top c_low c_missed) := hD
  refine lv_if_ne (tgt := 20) hx hb dX8_pair_15 (by decide) (fun q_19 => ?_) (fun q_19 => ?_)
  · have h := it_f q_19 h
    refine lv_iload_n hx hb dX8_pair_20 rfl (lv_at hl 2 rfl) ?_
    refine lv_if_ne (tgt := 38) hx hb dX8_pair_21 (by decide) (fun q_18 => ?_) (fun q_18 => ?_)
    · have h := it_f q_18 h
      refine lv_iload_n hx hb dX8_pair_38 rfl (lv_at hl 2 rfl) ?_
      refine lv_iconst (v := 1) hx hb dX8_pair_39 (by decide) ?_
      refine lv_icmp_ne (tgt := 57) hx hb dX8_pair_40 (by decide) (fun q_15 => ?_) (fun q_15 => ?_)
      · have h := it_f q_15 h
        refine lv_bipush (v := (-2)) hx hb dX8_pair_57 (by decide) ?_
        cases h
        exact ret_i hx hb hr rfl hQ hlocks hK hP hD hS dX8_pair_59
      · have h := it_t q_15 h
        refine lv_aload_n hx hb dX8_pair_43 rfl (lv_at hl 0 rfl) ?_
        refine r_get S gf_X8_32 hK hP 0 rfl rfl dX8_pair_44 ?_
        refine lv_aload_n hx hb dX8_pair_47 rfl (lv_at hl 0 rfl) ?_
        refine r_get S gf_X8_51 hK hP 0 rfl rfl dX8_pair_48 ?_
        refine lv_iload_n hx hb dX8_pair_51 rfl (lv_at hl 1 rfl) ?_
        refine r_iald hx hb hK hP 12 rfl dX8_pair_52 h (fun y_13 h => ?_)
        refine r_iald hx hb hK hP 6 rfl dX8_pair_53 h (fun y_14 h => ?_)
        refine lv_goto (tgt := 59) hx hb dX8_pair_54 (by decide) ?_
        cases h
        exact ret_i hx hb hr rfl hQ hlocks hK hP hD hS dX8_pair_59
    · have h := it_t q_18 h
      refine lv_aload_n hx hb dX8_pair_24 rfl (lv_at hl 0 rfl) ?_
      refine r_get S gf_X8_32 hK hP 0 rfl rfl dX8_pair_25 ?_
      refine lv_aload_n hx hb dX8_pair_28 rfl (lv_at hl 0 rfl) ?_
      refine r_get S gf_X8_48 hK hP 0 rfl rfl dX8_pair_29 ?_
      refine lv_iload_n hx hb dX8_pair_32 rfl (lv_at hl 1 rfl) ?_
      refine r_iald hx hb hK hP 11 rfl dX8_pair_33 h (fun y_16 h => ?_)
      refine r_iald hx hb hK hP 6 rfl dX8_pair_34 h (fun y_17 h => ?_)
      refine lv_goto (tgt := 59) hx hb dX8_pair_35 (by decide) ?_
      cases h
      exact ret_i hx hb hr rfl hQ hlocks hK hP hD hS dX8_pair_59
  · have h := it_t q_19 h
    refine lv_iconst (v := (-1)) hx hb dX8_pair_18 (by decide) ?_
    cases h
    exact ret_i hx hb hr rfl hQ hlocks hK hP hD hS dX8_pair_19
set_option maxHeartbeats 1000000 in
set_option maxRecDepth 100000 in
theorem c_X8_votes (l : Launch) (G : va_G) (kc : Nat → ClassId) (o : Nat) (ad : Nat → Nat) {c_worked : Int32} {c_width : Int32} {c_height : Int32} {c_grey : (Nat → Int32)} {c_setting : (Nat → Int32)} {c_leastOf : (Nat → Int32)} {c_mostOf : (Nat → Int32)} {c_lifted : (Nat → Int32)} {c_squares : Int32} {c_square : (Nat → Int32)} {c_dark : (Nat → Int32)} {c_light : (Nat → Int32)} {c_like : (Nat → Int32)} {c_isCrowded : (Nat → Int32)} {c_pairs : Int32} {c_first : (Nat → Int32)} {c_second : (Nat → Int32)} {c_votes : (Nat → Int32)} {c_shifts : Int32} {c_shiftX : (Nat → Int32)} {c_shiftY : (Nat → Int32)} {c_regionAt : (Nat → Int32)} {c_regions : Int32} {c_regionShift : (Nat → Int32)} {c_regionPairs : (Nat → Int32)} {c_regionFirst : (Nat → Int32)} {c_findings : Int32} {c_regionOf : (Nat → Int32)} {c_offset : (Nat → Int32)} {c_begun : (Nat → Int32)} {c_held : (Nat → Int32)} {c_isIn : (Nat → Int32)} {c_numbered : (Nat → Int32)} {c_left : Int32} {c_right : Int32} {c_top : Int32} {c_low : Int32} {c_missed : Int32} (x1 : Int32) (x2 : Int32) {r : Int32} {c_worked' : Int32} {c_squares' : Int32} {c_square' : (Nat → Int32)} {c_dark' : (Nat → Int32)} {c_light' : (Nat → Int32)} {c_like' : (Nat → Int32)} {c_isCrowded' : (Nat → Int32)} {c_pairs' : Int32} {c_first' : (Nat → Int32)} {c_second' : (Nat → Int32)} {c_votes' : (Nat → Int32)} {FU : Nat} (h : f_X8_votes FU c_worked c_width c_height c_grey c_setting c_squares c_square c_dark c_light c_like c_isCrowded c_pairs c_first c_second c_votes x1 x2 = some (r, c_worked', c_squares', c_square', c_dark', c_light', c_like', c_isCrowded', c_pairs', c_first', c_second', c_votes')) : CTi l G kc yX8_votes cX8_votes 3 (some .int) (rmq 5 115) [.ref o, .int x1, .int x2] (mW o ad kc c_worked c_width c_height c_grey c_setting c_leastOf c_mostOf c_lifted c_squares c_square c_dark c_light c_like c_isCrowded c_pairs c_first c_second c_votes c_shifts c_shiftX c_shiftY c_regionAt c_regions c_regionShift c_regionPairs c_regionFirst c_findings c_regionOf c_offset c_begun c_held c_isIn c_numbered c_left c_right c_top c_low c_missed) (mW o ad kc (c_worked') c_width c_height c_grey c_setting c_leastOf c_mostOf c_lifted (c_squares') (c_square') (c_dark') (c_light') (c_like') (c_isCrowded') (c_pairs') (c_first') (c_second') (c_votes') c_shifts c_shiftX c_shiftY c_regionAt c_regions c_regionShift c_regionPairs c_regionFirst c_findings c_regionOf c_offset c_begun c_held c_isIn c_numbered c_left c_right c_top c_low c_missed) r := by
  refine CTi.mk (by decide) (Nat.le_of_ble_eq_true rfl) ?_
  intro p e s m args below meth c A ls Q hQ S hr hlocks hN hA hK hl hP hD hS
  have hx := S.1
  have hb := S.2.1
  have hl : lv_has ls 3 [(0, .ref o), (1, .int x1), (2, .int x2)] := hl
  unfold f_X8_votes at h
  refine lv_iload_n hx hb dX8_votes_0 rfl (lv_at hl 1 rfl) ?_
  refine lv_bipush (v := (-15)) hx hb dX8_votes_1 (by decide) ?_
  refine lv_bipush (v := 15) hx hb dX8_votes_3 (by decide) ?_
  obtain ⟨r_1, hq, h⟩ := bd1_e h
  refine cp_Si (rest := []) [] S hN cb_X8_within ml_X8_96 ⟨Nat.le_of_ble_eq_true rfl, Nat.le_of_ble_eq_true rfl⟩ (c_X8_within l G kc x1 (-15) 15 hq) hK hP hD hS hA rfl rfl rfl rfl rfl (Nat.le_of_ble_eq_true rfl) hl.1 dX8_votes_5 (fun H locs hP hD hS => ?_)
  have hP : VP G (mW o ad kc c_worked c_width c_height c_grey c_setting c_leastOf c_mostOf c_lifted c_squares c_square c_dark c_light c_like c_isCrowded c_pairs c_first c_second c_votes c_shifts c_shiftX c_shiftY c_regionAt c_regions c_regionShift c_regionPairs c_regionFirst c_findings c_regionOf c_offset c_begun c_held c_isIn c_numbered c_left c_right c_top c_low c_missed) H := hP
  have hD : va_D A (mW o ad kc c_worked c_width c_height c_grey c_setting c_leastOf c_mostOf c_lifted c_squares c_square c_dark c_light c_like c_isCrowded c_pairs c_first c_second c_votes c_shifts c_shiftX c_shiftY c_regionAt c_regions c_regionShift c_regionPairs c_regionFirst c_findings c_regionOf c_offset c_begun c_held c_isIn c_numbered c_left c_right c_top c_low c_missed) := hD
  refine lv_if_eq (tgt := 21) hx hb dX8_votes_8 (by decide) (fun q_17 => ?_) (fun q_17 => ?_)
  · have h := it_t q_17 h
    refine lv_bipush (v := (-2)) hx hb dX8_votes_21 (by decide) ?_
    cases h
    exact ret_i hx hb hr rfl hQ hlocks hK hP hD hS dX8_votes_23
  · have h := it_f q_17 h
    refine lv_iload_n hx hb dX8_votes_11 rfl (lv_at hl 2 rfl) ?_
    refine lv_iconst (v := 0) hx hb dX8_votes_12 (by decide) ?_
    refine lv_bipush (v := 15) hx hb dX8_votes_13 (by decide) ?_
    obtain ⟨r_2, hq, h⟩ := bd1_e h
    refine cp_Si (rest := []) [] S hN cb_X8_within ml_X8_96 ⟨Nat.le_of_ble_eq_true rfl, Nat.le_of_ble_eq_true rfl⟩ (c_X8_within l G kc x2 0 15 hq) hK hP hD hS hA rfl rfl rfl rfl rfl (Nat.le_of_ble_eq_true rfl) hl.1 dX8_votes_15 (fun H locs hP hD hS => ?_)
    have hP : VP G (mW o ad kc c_worked c_width c_height c_grey c_setting c_leastOf c_mostOf c_lifted c_squares c_square c_dark c_light c_like c_isCrowded c_pairs c_first c_second c_votes c_shifts c_shiftX c_shiftY c_regionAt c_regions c_regionShift c_regionPairs c_regionFirst c_findings c_regionOf c_offset c_begun c_held c_isIn c_numbered c_left c_right c_top c_low c_missed) H := hP
    have hD : va_D A (mW o ad kc c_worked c_width c_height c_grey c_setting c_leastOf c_mostOf c_lifted c_squares c_square c_dark c_light c_like c_isCrowded c_pairs c_first c_second c_votes c_shifts c_shiftX c_shiftY c_regionAt c_regions c_regionShift c_regionPairs c_regionFirst c_findings c_regionOf c_offset c_begun c_held c_isIn c_numbered c_left c_right c_top c_low c_missed) := hD
    refine lv_if_ne (tgt := 24) hx hb dX8_votes_18 (by decide) (fun q_16 => ?_) (fun q_16 => ?_)
    · have h := it_f q_16 h
      refine lv_aload_n hx hb dX8_votes_24 rfl (lv_at hl 0 rfl) ?_
      obtain ⟨c_worked_3, c_squares_4, c_square_5, c_dark_6, c_light_7, c_like_8, c_isCrowded_9, c_pairs_10, c_first_11, c_second_12, c_votes_13, hq, h⟩ := bd11_e h
      refine cs_Vv (rest := []) (ci := 7) S hN cb_X8_findPairs ml_X8_146 ⟨Nat.le_of_ble_eq_true rfl, Nat.le_of_ble_eq_true rfl⟩ (c_X8_findPairs l G kc o ad  hq) hK hP hD hS hA 0 rfl rfl rfl rfl rfl (Nat.le_of_ble_eq_true rfl) hl.1 dX8_votes_25 (fun H locs hP hD hS => ?_)
      refine lv_aload_n hx hb dX8_votes_28 rfl (lv_at hl 0 rfl) ?_
      refine r_get S gf_X8_54 hK hP 0 rfl rfl dX8_votes_29 ?_
      refine lv_iload_n hx hb dX8_votes_32 rfl (lv_at hl 1 rfl) ?_
      refine lv_iload_n hx hb dX8_votes_33 rfl (lv_at hl 2 rfl) ?_
      obtain ⟨r_14, hq, h⟩ := bd1_e h
      refine cp_Si (rest := [.ref (ad 17)]) [] S hN cb_X8_voteAt ml_X8_167 ⟨Nat.le_of_ble_eq_true rfl, Nat.le_of_ble_eq_true rfl⟩ (c_X8_voteAt l G kc x1 x2 hq) hK hP hD hS hA rfl rfl rfl rfl rfl (Nat.le_of_ble_eq_true rfl) hl.1 dX8_votes_34 (fun H locs hP hD hS => ?_)
      have hP : VP G (mW o ad kc c_worked_3 c_width c_height c_grey c_setting c_leastOf c_mostOf c_lifted c_squares_4 c_square_5 c_dark_6 c_light_7 c_like_8 c_isCrowded_9 c_pairs_10 c_first_11 c_second_12 c_votes_13 c_shifts c_shiftX c_shiftY c_regionAt c_regions c_regionShift c_regionPairs c_regionFirst c_findings c_regionOf c_offset c_begun c_held c_isIn c_numbered c_left c_right c_top c_low c_missed) H := hP
      have hD : va_D A (mW o ad kc c_worked_3 c_width c_height c_grey c_setting c_leastOf c_mostOf c_lifted c_squares_4 c_square_5 c_dark_6 c_light_7 c_like_8 c_isCrowded_9 c_pairs_10 c_first_11 c_second_12 c_votes_13 c_shifts c_shiftX c_shiftY c_regionAt c_regions c_regionShift c_regionPairs c_regionFirst c_findings c_regionOf c_offset c_begun c_held c_isIn c_numbered c_left c_right c_top c_low c_missed) := hD
      refine r_iald hx hb hK hP 13 rfl dX8_votes_37 h (fun y_15 h => ?_)
      cases h
      exact ret_i hx hb hr rfl hQ hlocks hK hP hD hS dX8_votes_38
    · have h := it_t q_16 h
      refine lv_bipush (v := (-2)) hx hb dX8_votes_21 (by decide) ?_
      cases h
      exact ret_i hx hb hr rfl hQ hlocks hK hP hD hS dX8_votes_23
set_option maxHeartbeats 1000000 in
set_option maxRecDepth 100000 in
theorem c_X8_beside (l : Launch) (G : va_G) (kc : Nat → ClassId) (o : Nat) (ad : Nat → Nat) {c_worked : Int32} {c_width : Int32} {c_height : Int32} {c_grey : (Nat → Int32)} {c_setting : (Nat → Int32)} {c_leastOf : (Nat → Int32)} {c_mostOf : (Nat → Int32)} {c_lifted : (Nat → Int32)} {c_squares : Int32} {c_square : (Nat → Int32)} {c_dark : (Nat → Int32)} {c_light : (Nat → Int32)} {c_like : (Nat → Int32)} {c_isCrowded : (Nat → Int32)} {c_pairs : Int32} {c_first : (Nat → Int32)} {c_second : (Nat → Int32)} {c_votes : (Nat → Int32)} {c_shifts : Int32} {c_shiftX : (Nat → Int32)} {c_shiftY : (Nat → Int32)} {c_regionAt : (Nat → Int32)} {c_regions : Int32} {c_regionShift : (Nat → Int32)} {c_regionPairs : (Nat → Int32)} {c_regionFirst : (Nat → Int32)} {c_findings : Int32} {c_regionOf : (Nat → Int32)} {c_offset : (Nat → Int32)} {c_begun : (Nat → Int32)} {c_held : (Nat → Int32)} {c_isIn : (Nat → Int32)} {c_numbered : (Nat → Int32)} {c_left : Int32} {c_right : Int32} {c_top : Int32} {c_low : Int32} {c_missed : Int32} (x1 : Int32) (x2 : Int32) (x3 : Int32) (x4 : Int32) {r : Int32} {FU : Nat} (h : f_X8_beside FU c_width c_height c_regionAt x1 x2 x3 x4 = some r) : CTi l G kc yX8_beside cX8_beside 7 (some .int) (rmq 2 44) [.ref o, .int x1, .int x2, .int x3, .int x4] (mW o ad kc c_worked c_width c_height c_grey c_setting c_leastOf c_mostOf c_lifted c_squares c_square c_dark c_light c_like c_isCrowded c_pairs c_first c_second c_votes c_shifts c_shiftX c_shiftY c_regionAt c_regions c_regionShift c_regionPairs c_regionFirst c_findings c_regionOf c_offset c_begun c_held c_isIn c_numbered c_left c_right c_top c_low c_missed) (mW o ad kc c_worked c_width c_height c_grey c_setting c_leastOf c_mostOf c_lifted c_squares c_square c_dark c_light c_like c_isCrowded c_pairs c_first c_second c_votes c_shifts c_shiftX c_shiftY c_regionAt c_regions c_regionShift c_regionPairs c_regionFirst c_findings c_regionOf c_offset c_begun c_held c_isIn c_numbered c_left c_right c_top c_low c_missed) r := by
  refine CTi.mk (by decide) (Nat.le_of_ble_eq_true rfl) ?_
  intro p e s m args below meth c A ls Q hQ S hr hlocks hN hA hK hl hP hD hS
  have hx := S.1
  have hb := S.2.1
  have hl : lv_has ls 7 [(0, .ref o), (1, .int x1), (2, .int x2), (3, .int x3), (4, .int x4)] := hl
  unfold f_X8_beside at h
  refine lv_iload_n hx hb dX8_beside_0 rfl (lv_at hl 2 rfl) ?_
  refine lv_bipush (v := 16) hx hb dX8_beside_1 (by decide) ?_
  refine lv_irem hx hb dX8_beside_3 (by decide) ?_
  refine lv_iload_n hx hb dX8_beside_4 rfl (lv_at hl 3 rfl) ?_
  refine lv_iadd hx hb dX8_beside_5 ?_
  refine lv_istore (lv' := [(5, .int ((x2 - x2 / 16 * 16) + x3)), (0, .ref o), (1, .int x1), (2, .int x2), (3, .int x3), (4, .int x4)]) hx hb dX8_beside_6 hl (by decide) rfl (fun ls hl => ?_)
  refine lv_iload_n hx hb dX8_beside_8 rfl (lv_at hl 3 rfl) ?_
  refine lv_bipush (v := 16) hx hb dX8_beside_9 (by decide) ?_
  refine lv_idiv hx hb dX8_beside_11 (by decide) ?_
  refine lv_iload hx hb dX8_beside_12 (lv_at hl 5 rfl) ?_
  refine lv_iadd hx hb dX8_beside_14 ?_
  refine lv_istore (lv' := [(6, .int ((x2 / 16) + x4)), (5, .int ((x2 - x2 / 16 * 16) + x3)), (0, .ref o), (1, .int x1), (2, .int x2), (3, .int x3), (4, .int x4)]) hx hb dX8_beside_15 hl (by decide) rfl (fun ls hl => ?_)
  refine lv_aload_n hx hb dX8_beside_17 rfl (lv_at hl 2 rfl) ?_
  refine lv_iload hx hb dX8_beside_18 (lv_at hl 1 rfl) ?_
  refine lv_iload hx hb dX8_beside_20 (lv_at hl 0 rfl) ?_
  obtain ⟨r_1, hq, h⟩ := bd1_e h
  refine cs_Vi (rest := []) (ci := 7) S hN cb_X8_isPlace ml_X8_104 ⟨Nat.le_of_ble_eq_true rfl, Nat.le_of_ble_eq_true rfl⟩ (c_X8_isPlace l G kc o ad ((x2 - x2 / 16 * 16) + x3) ((x2 / 16) + x4) hq) hK hP hD hS hA 0 rfl rfl rfl rfl rfl (Nat.le_of_ble_eq_true rfl) hl.1 dX8_beside_22 (fun H locs hP hD hS => ?_)
  refine lv_if_eq (tgt := 50) hx hb dX8_beside_25 (by decide) (fun q_3 => ?_) (fun q_3 => ?_)
  · have h := it_t q_3 h
    refine lv_bipush (v := (-9)) hx hb dX8_beside_50 (by decide) ?_
    cases h
    exact ret_i hx hb hr rfl hQ hlocks hK hP hD hS dX8_beside_52
  · have h := it_f q_3 h
    refine lv_aload_n hx hb dX8_beside_28 rfl (lv_at hl 2 rfl) ?_
    refine r_get S gf_X8_63 hK hP 0 rfl rfl dX8_beside_29 ?_
    refine lv_sipush (v := 256) hx hb dX8_beside_32 (by decide) ?_
    refine lv_iload_n hx hb dX8_beside_35 rfl (lv_at hl 3 rfl) ?_
    refine lv_imul hx hb dX8_beside_36 ?_
    refine lv_bipush (v := 16) hx hb dX8_beside_37 (by decide) ?_
    refine lv_iload hx hb dX8_beside_39 (lv_at hl 0 rfl) ?_
    refine lv_imul hx hb dX8_beside_41 ?_
    refine lv_iadd hx hb dX8_beside_42 ?_
    refine lv_iload hx hb dX8_beside_43 (lv_at hl 1 rfl) ?_
    refine lv_iadd hx hb dX8_beside_45 ?_
    refine r_iald hx hb hK hP 16 rfl dX8_beside_46 h (fun y_2 h => ?_)
    refine lv_goto (tgt := 52) hx hb dX8_beside_47 (by decide) ?_
    cases h
    exact ret_i hx hb hr rfl hQ hlocks hK hP hD hS dX8_beside_52
set_option maxHeartbeats 1000000 in
set_option maxRecDepth 100000 in
theorem c_X8_isBeside (l : Launch) (G : va_G) (kc : Nat → ClassId) (o : Nat) (ad : Nat → Nat) {c_worked : Int32} {c_width : Int32} {c_height : Int32} {c_grey : (Nat → Int32)} {c_setting : (Nat → Int32)} {c_leastOf : (Nat → Int32)} {c_mostOf : (Nat → Int32)} {c_lifted : (Nat → Int32)} {c_squares : Int32} {c_square : (Nat → Int32)} {c_dark : (Nat → Int32)} {c_light : (Nat → Int32)} {c_like : (Nat → Int32)} {c_isCrowded : (Nat → Int32)} {c_pairs : Int32} {c_first : (Nat → Int32)} {c_second : (Nat → Int32)} {c_votes : (Nat → Int32)} {c_shifts : Int32} {c_shiftX : (Nat → Int32)} {c_shiftY : (Nat → Int32)} {c_regionAt : (Nat → Int32)} {c_regions : Int32} {c_regionShift : (Nat → Int32)} {c_regionPairs : (Nat → Int32)} {c_regionFirst : (Nat → Int32)} {c_findings : Int32} {c_regionOf : (Nat → Int32)} {c_offset : (Nat → Int32)} {c_begun : (Nat → Int32)} {c_held : (Nat → Int32)} {c_isIn : (Nat → Int32)} {c_numbered : (Nat → Int32)} {c_left : Int32} {c_right : Int32} {c_top : Int32} {c_low : Int32} {c_missed : Int32} (x1 : Int32) (x2 : Int32) (x3 : Int32) {r : Int32} {FU : Nat} (h : f_X8_isBeside FU c_width c_height c_regionAt x1 x2 x3 = some r) : CTi l G kc yX8_isBeside cX8_isBeside 4 (some .boolean) (rmq 3 70) [.ref o, .int x1, .int x2, .int x3] (mW o ad kc c_worked c_width c_height c_grey c_setting c_leastOf c_mostOf c_lifted c_squares c_square c_dark c_light c_like c_isCrowded c_pairs c_first c_second c_votes c_shifts c_shiftX c_shiftY c_regionAt c_regions c_regionShift c_regionPairs c_regionFirst c_findings c_regionOf c_offset c_begun c_held c_isIn c_numbered c_left c_right c_top c_low c_missed) (mW o ad kc c_worked c_width c_height c_grey c_setting c_leastOf c_mostOf c_lifted c_squares c_square c_dark c_light c_like c_isCrowded c_pairs c_first c_second c_votes c_shifts c_shiftX c_shiftY c_regionAt c_regions c_regionShift c_regionPairs c_regionFirst c_findings c_regionOf c_offset c_begun c_held c_isIn c_numbered c_left c_right c_top c_low c_missed) r := by
  refine CTi.mk (by decide) (Nat.le_of_ble_eq_true rfl) ?_
  intro p e s m args below meth c A ls Q hQ S hr hlocks hN hA hK hl hP hD hS
  have hx := S.1
  have hb := S.2.1
  have hl : lv_has ls 4 [(0, .ref o), (1, .int x1), (2, .int x2), (3, .int x3)] := hl
  unfold f_X8_isBeside at h
  refine lv_aload_n hx hb dX8_isBeside_0 rfl (lv_at hl 0 rfl) ?_
  refine lv_iload_n hx hb dX8_isBeside_1 rfl (lv_at hl 1 rfl) ?_
  refine lv_iload_n hx hb dX8_isBeside_2 rfl (lv_at hl 2 rfl) ?_
  refine lv_iconst (v := (-1)) hx hb dX8_isBeside_3 (by decide) ?_
  refine lv_iconst (v := 0) hx hb dX8_isBeside_4 (by decide) ?_
  obtain ⟨r_1, hq, h⟩ := bd1_e h
  refine cs_Vi (rest := []) (ci := 7) S hN cb_X8_beside ml_X8_179 ⟨Nat.le_of_ble_eq_true rfl, Nat.le_of_ble_eq_true rfl⟩ (c_X8_beside l G kc o ad x1 x2 (-1) 0 hq) hK hP hD hS hA 0 rfl rfl rfl rfl rfl (Nat.le_of_ble_eq_true rfl) hl.1 dX8_isBeside_5 (fun H locs hP hD hS => ?_)
  refine lv_iload_n hx hb dX8_isBeside_8 rfl (lv_at hl 3 rfl) ?_
  refine lv_icmp_eq (tgt := 48) hx hb dX8_isBeside_9 (by decide) (fun q_8 => ?_) (fun q_8 => ?_)
  · have h := it_t q_8 h
    refine lv_iconst (v := 1) hx hb dX8_isBeside_48 (by decide) ?_
    refine lv_goto (tgt := 53) hx hb dX8_isBeside_49 (by decide) ?_
    cases h
    exact ret_i hx hb hr rfl hQ hlocks hK hP hD hS dX8_isBeside_53
  · have h := it_f q_8 h
    refine lv_aload_n hx hb dX8_isBeside_12 rfl (lv_at hl 0 rfl) ?_
    refine lv_iload_n hx hb dX8_isBeside_13 rfl (lv_at hl 1 rfl) ?_
    refine lv_iload_n hx hb dX8_isBeside_14 rfl (lv_at hl 2 rfl) ?_
    refine lv_iconst (v := 1) hx hb dX8_isBeside_15 (by decide) ?_
    refine lv_iconst (v := 0) hx hb dX8_isBeside_16 (by decide) ?_
    obtain ⟨r_2, hq, h⟩ := bd1_e h
    refine cs_Vi (rest := []) (ci := 7) S hN cb_X8_beside ml_X8_179 ⟨Nat.le_of_ble_eq_true rfl, Nat.le_of_ble_eq_true rfl⟩ (c_X8_beside l G kc o ad x1 x2 1 0 hq) hK hP hD hS hA 0 rfl rfl rfl rfl rfl (Nat.le_of_ble_eq_true rfl) hl.1 dX8_isBeside_17 (fun H locs hP hD hS => ?_)
    refine lv_iload_n hx hb dX8_isBeside_20 rfl (lv_at hl 3 rfl) ?_
    refine lv_icmp_eq (tgt := 48) hx hb dX8_isBeside_21 (by decide) (fun q_7 => ?_) (fun q_7 => ?_)
    · have h := it_t q_7 h
      refine lv_iconst (v := 1) hx hb dX8_isBeside_48 (by decide) ?_
      refine lv_goto (tgt := 53) hx hb dX8_isBeside_49 (by decide) ?_
      cases h
      exact ret_i hx hb hr rfl hQ hlocks hK hP hD hS dX8_isBeside_53
    · have h := it_f q_7 h
      refine lv_aload_n hx hb dX8_isBeside_24 rfl (lv_at hl 0 rfl) ?_
      refine lv_iload_n hx hb dX8_isBeside_25 rfl (lv_at hl 1 rfl) ?_
      refine lv_iload_n hx hb dX8_isBeside_26 rfl (lv_at hl 2 rfl) ?_
      refine lv_iconst (v := 0) hx hb dX8_isBeside_27 (by decide) ?_
      refine lv_iconst (v := (-1)) hx hb dX8_isBeside_28 (by decide) ?_
      obtain ⟨r_3, hq, h⟩ := bd1_e h
      refine cs_Vi (rest := []) (ci := 7) S hN cb_X8_beside ml_X8_179 ⟨Nat.le_of_ble_eq_true rfl, Nat.le_of_ble_eq_true rfl⟩ (c_X8_beside l G kc o ad x1 x2 0 (-1) hq) hK hP hD hS hA 0 rfl rfl rfl rfl rfl (Nat.le_of_ble_eq_true rfl) hl.1 dX8_isBeside_29 (fun H locs hP hD hS => ?_)
      refine lv_iload_n hx hb dX8_isBeside_32 rfl (lv_at hl 3 rfl) ?_
      refine lv_icmp_eq (tgt := 48) hx hb dX8_isBeside_33 (by decide) (fun q_6 => ?_) (fun q_6 => ?_)
      · have h := it_t q_6 h
        refine lv_iconst (v := 1) hx hb dX8_isBeside_48 (by decide) ?_
        refine lv_goto (tgt := 53) hx hb dX8_isBeside_49 (by decide) ?_
        cases h
        exact ret_i hx hb hr rfl hQ hlocks hK hP hD hS dX8_isBeside_53
      · have h := it_f q_6 h
        refine lv_aload_n hx hb dX8_isBeside_36 rfl (lv_at hl 0 rfl) ?_
        refine lv_iload_n hx hb dX8_isBeside_37 rfl (lv_at hl 1 rfl) ?_
        refine lv_iload_n hx hb dX8_isBeside_38 rfl (lv_at hl 2 rfl) ?_
        refine lv_iconst (v := 0) hx hb dX8_isBeside_39 (by decide) ?_
        refine lv_iconst (v := 1) hx hb dX8_isBeside_40 (by decide) ?_
        obtain ⟨r_4, hq, h⟩ := bd1_e h
        refine cs_Vi (rest := []) (ci := 7) S hN cb_X8_beside ml_X8_179 ⟨Nat.le_of_ble_eq_true rfl, Nat.le_of_ble_eq_true rfl⟩ (c_X8_beside l G kc o ad x1 x2 0 1 hq) hK hP hD hS hA 0 rfl rfl rfl rfl rfl (Nat.le_of_ble_eq_true rfl) hl.1 dX8_isBeside_41 (fun H locs hP hD hS => ?_)
        refine lv_iload_n hx hb dX8_isBeside_44 rfl (lv_at hl 3 rfl) ?_
        refine lv_icmp_ne (tgt := 52) hx hb dX8_isBeside_45 (by decide) (fun q_5 => ?_) (fun q_5 => ?_)
        · have h := it_f q_5 h
          refine lv_iconst (v := 0) hx hb dX8_isBeside_52 (by decide) ?_
          cases h
          exact ret_i hx hb hr rfl hQ hlocks hK hP hD hS dX8_isBeside_53
        · have h := it_t q_5 h
          refine lv_iconst (v := 1) hx hb dX8_isBeside_48 (by decide) ?_
          refine lv_goto (tgt := 53) hx hb dX8_isBeside_49 (by decide) ?_
          cases h
          exact ret_i hx hb hr rfl hQ hlocks hK hP hD hS dX8_isBeside_53
set_option maxHeartbeats 1000000 in
set_option maxRecDepth 100000 in
theorem c_X8_spreads (l : Launch) (G : va_G) (kc : Nat → ClassId) (o : Nat) (ad : Nat → Nat) {c_worked : Int32} {c_width : Int32} {c_height : Int32} {c_grey : (Nat → Int32)} {c_setting : (Nat → Int32)} {c_leastOf : (Nat → Int32)} {c_mostOf : (Nat → Int32)} {c_lifted : (Nat → Int32)} {c_squares : Int32} {c_square : (Nat → Int32)} {c_dark : (Nat → Int32)} {c_light : (Nat → Int32)} {c_like : (Nat → Int32)} {c_isCrowded : (Nat → Int32)} {c_pairs : Int32} {c_first : (Nat → Int32)} {c_second : (Nat → Int32)} {c_votes : (Nat → Int32)} {c_shifts : Int32} {c_shiftX : (Nat → Int32)} {c_shiftY : (Nat → Int32)} {c_regionAt : (Nat → Int32)} {c_regions : Int32} {c_regionShift : (Nat → Int32)} {c_regionPairs : (Nat → Int32)} {c_regionFirst : (Nat → Int32)} {c_findings : Int32} {c_regionOf : (Nat → Int32)} {c_offset : (Nat → Int32)} {c_begun : (Nat → Int32)} {c_held : (Nat → Int32)} {c_isIn : (Nat → Int32)} {c_numbered : (Nat → Int32)} {c_left : Int32} {c_right : Int32} {c_top : Int32} {c_low : Int32} {c_missed : Int32} (x1 : Int32) (x2 : Int32) {c_regionAt' : (Nat → Int32)} {c_regionPairs' : (Nat → Int32)} {FU : Nat} (h : f_X8_spreads FU c_width c_height c_regionAt c_regionPairs x1 x2 = some (c_regionAt', c_regionPairs')) : CTv l G kc yX8_spreads cX8_spreads 5 none (rmq 4 93) [.ref o, .int x1, .int x2] (mW o ad kc c_worked c_width c_height c_grey c_setting c_leastOf c_mostOf c_lifted c_squares c_square c_dark c_light c_like c_isCrowded c_pairs c_first c_second c_votes c_shifts c_shiftX c_shiftY c_regionAt c_regions c_regionShift c_regionPairs c_regionFirst c_findings c_regionOf c_offset c_begun c_held c_isIn c_numbered c_left c_right c_top c_low c_missed) (mW o ad kc c_worked c_width c_height c_grey c_setting c_leastOf c_mostOf c_lifted c_squares c_square c_dark c_light c_like c_isCrowded c_pairs c_first c_second c_votes c_shifts c_shiftX c_shiftY (c_regionAt') c_regions c_regionShift (c_regionPairs') c_regionFirst c_findings c_regionOf c_offset c_begun c_held c_isIn c_numbered c_left c_right c_top c_low c_missed) := by
  refine CTv.mk (by decide) (Nat.le_of_ble_eq_true rfl) ?_
  intro p e s m args below meth c A ls Q hQ S hr hlocks hN hA hK hl hP hD hS
  have hx := S.1
  have hb := S.2.1
  have hl : lv_has ls 5 [(0, .ref o), (1, .int x1), (2, .int x2)] := hl
  unfold f_X8_spreads at h
  refine lv_iconst (v := 1) hx hb dX8_spreads_0 (by decide) ?_
  refine lv_istore_n (lv' := [(3, .int 1), (0, .ref o), (1, .int x1), (2, .int x2)]) hx hb dX8_spreads_1 rfl hl (by decide) rfl (fun ls hl => ?_)
  refine jn_w (t := fun k => f_X8_spreads_L2 FU x1 x2 c_width c_height k FU 1 c_regionAt c_regionPairs) (fun (k : Int32 → (Nat → Int32) → (Nat → Int32) → Option ((Nat → Int32) × (Nat → Int32))) => ∀ (x3_1 : Int32) (c_regionAt_2 : (Nat → Int32)) (c_regionPairs_3 : (Nat → Int32)) (H : Heap) (locs : List Loc) (ls : Array Slot), VP G (mW o ad kc c_worked c_width c_height c_grey c_setting c_leastOf c_mostOf c_lifted c_squares c_square c_dark c_light c_like c_isCrowded c_pairs c_first c_second c_votes c_shifts c_shiftX c_shiftY c_regionAt_2 c_regions c_regionShift c_regionPairs_3 c_regionFirst c_findings c_regionOf c_offset c_begun c_held c_isIn c_numbered c_left c_right c_top c_low c_missed) H → va_D A (mW o ad kc c_worked c_width c_height c_grey c_setting c_leastOf c_mostOf c_lifted c_squares c_square c_dark c_light c_like c_isCrowded c_pairs c_first c_second c_votes c_shifts c_shiftX c_shiftY c_regionAt_2 c_regions c_regionShift c_regionPairs_3 c_regionFirst c_findings c_regionOf c_offset c_begun c_held c_isIn c_numbered c_left c_right c_top c_low c_missed) → va_S A s.heap H locs → lv_has ls 5 [] → k x3_1 c_regionAt_2 c_regionPairs_3 = some (c_regionAt', c_regionPairs') → WW p l e (rmq 4 93) s m args below meth c Q H locs 82 ls []) h ?_ ?_
  · intro x3_1 c_regionAt_2 c_regionPairs_3 H locs ls hP hD hS hl h
    cases h
    exact ret_v hx hb hr hQ hlocks hK hP hD hS dX8_spreads_82
  · intro k_4 K_5 h
    have L_6 : ∀ (n : Nat) (x3_1 : Int32) (c_regionAt_2 : (Nat → Int32)) (c_regionPairs_3 : (Nat → Int32)) (H : Heap) (locs : List Loc) (ls : Array Slot), VP G (mW o ad kc c_worked c_width c_height c_grey c_setting c_leastOf c_mostOf c_lifted c_squares c_square c_dark c_light c_like c_isCrowded c_pairs c_first c_second c_votes c_shifts c_shiftX c_shiftY c_regionAt_2 c_regions c_regionShift c_regionPairs_3 c_regionFirst c_findings c_regionOf c_offset c_begun c_held c_isIn c_numbered c_left c_right c_top c_low c_missed) H → va_D A (mW o ad kc c_worked c_width c_height c_grey c_setting c_leastOf c_mostOf c_lifted c_squares c_square c_dark c_light c_like c_isCrowded c_pairs c_first c_second c_votes c_shifts c_shiftX c_shiftY c_regionAt_2 c_regions c_regionShift c_regionPairs_3 c_regionFirst c_findings c_regionOf c_offset c_begun c_held c_isIn c_numbered c_left c_right c_top c_low c_missed) → va_S A s.heap H locs → lv_has ls 5 [(0, .ref o), (1, .int x1), (2, .int x2), (3, .int x3_1)] → f_X8_spreads_L2 FU x1 x2 c_width c_height k_4 n x3_1 c_regionAt_2 c_regionPairs_3 = some (c_regionAt', c_regionPairs') → WW p l e (rmq 4 93) s m args below meth c Q H locs 2 ls [] := by
      intro n
      induction n with
      | zero => intro x3_1 c_regionAt_2 c_regionPairs_3 H locs ls hP hD hS hl h; rw [f_X8_spreads_L2] at h; cases h
      | succ n ih =>
        intro x3_1 c_regionAt_2 c_regionPairs_3 H locs ls hP hD hS hl h
        rw [f_X8_spreads_L2] at h
        refine lv_iload_n hx hb dX8_spreads_2 rfl (lv_at hl 3 rfl) ?_
        refine lv_if_eq (tgt := 82) hx hb dX8_spreads_3 (by decide) (fun q_22 => ?_) (fun q_22 => ?_)
        · have h := it_t q_22 h
          exact K_5 x3_1 c_regionAt_2 c_regionPairs_3 _ _ _ hP hD hS (lv_sub hl [] rfl) h
        · have h := it_f q_22 h
          refine lv_iconst (v := 0) hx hb dX8_spreads_6 (by decide) ?_
          refine lv_istore_n (lv' := [(3, .int 0), (0, .ref o), (1, .int x1), (2, .int x2)]) hx hb dX8_spreads_7 rfl hl (by decide) rfl (fun ls hl => ?_)
          refine lv_iconst (v := 0) hx hb dX8_spreads_8 (by decide) ?_
          refine lv_istore (lv' := [(4, .int 0), (3, .int 0), (0, .ref o), (1, .int x1), (2, .int x2)]) hx hb dX8_spreads_9 hl (by decide) rfl (fun ls hl => ?_)
          refine jn_w (t := fun k => f_X8_spreads_L11 FU x1 x2 c_width c_height k FU 0 0 c_regionAt_2 c_regionPairs_3) (fun (k : Int32 → Int32 → (Nat → Int32) → (Nat → Int32) → Option ((Nat → Int32) × (Nat → Int32))) => ∀ (x3_7 : Int32) (x4_8 : Int32) (c_regionAt_9 : (Nat → Int32)) (c_regionPairs_10 : (Nat → Int32)) (H : Heap) (locs : List Loc) (ls : Array Slot), VP G (mW o ad kc c_worked c_width c_height c_grey c_setting c_leastOf c_mostOf c_lifted c_squares c_square c_dark c_light c_like c_isCrowded c_pairs c_first c_second c_votes c_shifts c_shiftX c_shiftY c_regionAt_9 c_regions c_regionShift c_regionPairs_10 c_regionFirst c_findings c_regionOf c_offset c_begun c_held c_isIn c_numbered c_left c_right c_top c_low c_missed) H → va_D A (mW o ad kc c_worked c_width c_height c_grey c_setting c_leastOf c_mostOf c_lifted c_squares c_square c_dark c_light c_like c_isCrowded c_pairs c_first c_second c_votes c_shifts c_shiftX c_shiftY c_regionAt_9 c_regions c_regionShift c_regionPairs_10 c_regionFirst c_findings c_regionOf c_offset c_begun c_held c_isIn c_numbered c_left c_right c_top c_low c_missed) → va_S A s.heap H locs → lv_has ls 5 [(0, .ref o), (1, .int x1), (2, .int x2), (3, .int x3_7)] → k x3_7 x4_8 c_regionAt_9 c_regionPairs_10 = some (c_regionAt', c_regionPairs') → WW p l e (rmq 4 93) s m args below meth c Q H locs 79 ls []) h ?_ ?_
          · intro x3_7 x4_8 c_regionAt_9 c_regionPairs_10 H locs ls hP hD hS hl h
            refine lv_goto (tgt := 2) hx hb dX8_spreads_79 (by decide) ?_
            exact ih x3_7 c_regionAt_9 c_regionPairs_10 _ _ _ hP hD hS (lv_sub hl [0, 1, 2, 3] rfl) h
          · intro k_11 K_12 h
            have L_13 : ∀ (n : Nat) (x3_7 : Int32) (x4_8 : Int32) (c_regionAt_9 : (Nat → Int32)) (c_regionPairs_10 : (Nat → Int32)) (H : Heap) (locs : List Loc) (ls : Array Slot), VP G (mW o ad kc c_worked c_width c_height c_grey c_setting c_leastOf c_mostOf c_lifted c_squares c_square c_dark c_light c_like c_isCrowded c_pairs c_first c_second c_votes c_shifts c_shiftX c_shiftY c_regionAt_9 c_regions c_regionShift c_regionPairs_10 c_regionFirst c_findings c_regionOf c_offset c_begun c_held c_isIn c_numbered c_left c_right c_top c_low c_missed) H → va_D A (mW o ad kc c_worked c_width c_height c_grey c_setting c_leastOf c_mostOf c_lifted c_squares c_square c_dark c_light c_like c_isCrowded c_pairs c_first c_second c_votes c_shifts c_shiftX c_shiftY c_regionAt_9 c_regions c_regionShift c_regionPairs_10 c_regionFirst c_findings c_regionOf c_offset c_begun c_held c_isIn c_numbered c_left c_right c_top c_low c_missed) → va_S A s.heap H locs → lv_has ls 5 [(0, .ref o), (1, .int x1), (2, .int x2), (3, .int x3_7), (4, .int x4_8)] → f_X8_spreads_L11 FU x1 x2 c_width c_height k_11 n x3_7 x4_8 c_regionAt_9 c_regionPairs_10 = some (c_regionAt', c_regionPairs') → WW p l e (rmq 4 93) s m args below meth c Q H locs 11 ls [] := by
              intro n
              induction n with
              | zero => intro x3_7 x4_8 c_regionAt_9 c_regionPairs_10 H locs ls hP hD hS hl h; rw [f_X8_spreads_L11] at h; cases h
              | succ n ih =>
                intro x3_7 x4_8 c_regionAt_9 c_regionPairs_10 H locs ls hP hD hS hl h
                rw [f_X8_spreads_L11] at h
                refine lv_iload hx hb dX8_spreads_11 (lv_at hl 4 rfl) ?_
                refine lv_sipush (v := 256) hx hb dX8_spreads_13 (by decide) ?_
                refine lv_icmp_ge (tgt := 79) hx hb dX8_spreads_16 (by decide) (fun q_21 => ?_) (fun q_21 => ?_)
                · have h := it_t q_21 h
                  exact K_12 x3_7 x4_8 c_regionAt_9 c_regionPairs_10 _ _ _ hP hD hS (lv_sub hl [0, 1, 2, 3] rfl) h
                · have h := it_f q_21 h
                  refine lv_aload_n hx hb dX8_spreads_19 rfl (lv_at hl 0 rfl) ?_
                  refine r_get S gf_X8_63 hK hP 0 rfl rfl dX8_spreads_20 ?_
                  refine lv_sipush (v := 256) hx hb dX8_spreads_23 (by decide) ?_
                  refine lv_iload_n hx hb dX8_spreads_26 rfl (lv_at hl 1 rfl) ?_
                  refine lv_imul hx hb dX8_spreads_27 ?_
                  refine lv_iload hx hb dX8_spreads_28 (lv_at hl 4 rfl) ?_
                  refine lv_iadd hx hb dX8_spreads_30 ?_
                  refine r_iald hx hb hK hP 16 rfl dX8_spreads_31 h (fun y_14 h => ?_)
                  refine lv_iconst (v := (-1)) hx hb dX8_spreads_32 (by decide) ?_
                  refine lv_icmp_ne (tgt := 73) hx hb dX8_spreads_33 (by decide) (fun q_20 => ?_) (fun q_20 => ?_)
                  · have h := it_f q_20 h
                    refine lv_iinc (v := (x4_8 + 1)) (lv' := [(4, .int (x4_8 + 1)), (0, .ref o), (1, .int x1), (2, .int x2), (3, .int x3_7)]) hx hb dX8_spreads_73 hl (k := 4) rfl rfl (by decide) rfl (fun ls hl => ?_)
                    refine lv_goto (tgt := 11) hx hb dX8_spreads_76 (by decide) ?_
                    exact ih x3_7 (x4_8 + 1) c_regionAt_9 c_regionPairs_10 _ _ _ hP hD hS (lv_sub hl [1, 2, 3, 4, 0] rfl) h
                  · have h := it_t q_20 h
                    refine lv_aload_n hx hb dX8_spreads_36 rfl (lv_at hl 0 rfl) ?_
                    refine lv_iload_n hx hb dX8_spreads_37 rfl (lv_at hl 1 rfl) ?_
                    refine lv_iload hx hb dX8_spreads_38 (lv_at hl 4 rfl) ?_
                    refine lv_iload_n hx hb dX8_spreads_40 rfl (lv_at hl 2 rfl) ?_
                    obtain ⟨r_15, hq, h⟩ := bd1_e h
                    refine cs_Vi (rest := []) (ci := 7) S hN cb_X8_isBeside ml_X8_183 ⟨Nat.le_of_ble_eq_true rfl, Nat.le_of_ble_eq_true rfl⟩ (c_X8_isBeside l G kc o ad x1 x4_8 x2 hq) hK hP hD hS hA 0 rfl rfl rfl rfl rfl (Nat.le_of_ble_eq_true rfl) hl.1 dX8_spreads_41 (fun H locs hP hD hS => ?_)
                    refine lv_if_eq (tgt := 73) hx hb dX8_spreads_44 (by decide) (fun q_19 => ?_) (fun q_19 => ?_)
                    · have h := it_t q_19 h
                      refine lv_iinc (v := (x4_8 + 1)) (lv' := [(4, .int (x4_8 + 1)), (0, .ref o), (1, .int x1), (2, .int x2), (3, .int x3_7)]) hx hb dX8_spreads_73 hl (k := 4) rfl rfl (by decide) rfl (fun ls hl => ?_)
                      refine lv_goto (tgt := 11) hx hb dX8_spreads_76 (by decide) ?_
                      exact ih x3_7 (x4_8 + 1) c_regionAt_9 c_regionPairs_10 _ _ _ hP hD hS (lv_sub hl [1, 2, 3, 4, 0] rfl) h
                    · have h := it_f q_19 h
                      refine lv_aload_n hx hb dX8_spreads_47 rfl (lv_at hl 0 rfl) ?_
                      refine r_get S gf_X8_63 hK hP 0 rfl rfl dX8_spreads_48 ?_
                      refine lv_sipush (v := 256) hx hb dX8_spreads_51 (by decide) ?_
                      refine lv_iload_n hx hb dX8_spreads_54 rfl (lv_at hl 1 rfl) ?_
                      refine lv_imul hx hb dX8_spreads_55 ?_
                      refine lv_iload hx hb dX8_spreads_56 (lv_at hl 4 rfl) ?_
                      refine lv_iadd hx hb dX8_spreads_58 ?_
                      refine lv_iload_n hx hb dX8_spreads_59 rfl (lv_at hl 2 rfl) ?_
                      refine r_iast hx hb hK hP hD hS 16 rfl dX8_spreads_60 h (fun c_regionAt_16 H locs hP hD hS h => ?_)
                      have hP : VP G (mW o ad kc c_worked c_width c_height c_grey c_setting c_leastOf c_mostOf c_lifted c_squares c_square c_dark c_light c_like c_isCrowded c_pairs c_first c_second c_votes c_shifts c_shiftX c_shiftY c_regionAt_16 c_regions c_regionShift c_regionPairs_10 c_regionFirst c_findings c_regionOf c_offset c_begun c_held c_isIn c_numbered c_left c_right c_top c_low c_missed) H := hP
                      have hD : va_D A (mW o ad kc c_worked c_width c_height c_grey c_setting c_leastOf c_mostOf c_lifted c_squares c_square c_dark c_light c_like c_isCrowded c_pairs c_first c_second c_votes c_shifts c_shiftX c_shiftY c_regionAt_16 c_regions c_regionShift c_regionPairs_10 c_regionFirst c_findings c_regionOf c_offset c_begun c_held c_isIn c_numbered c_left c_right c_top c_low c_missed) := hD
                      refine lv_aload_n hx hb dX8_spreads_61 rfl (lv_at hl 0 rfl) ?_
                      refine r_get S gf_X8_69 hK hP 0 rfl rfl dX8_spreads_62 ?_
                      refine lv_iload_n hx hb dX8_spreads_65 rfl (lv_at hl 2 rfl) ?_
                      refine lv_dup2_11 hx hb dX8_spreads_66 rfl rfl ?_
                      refine r_iald hx hb hK hP 18 rfl dX8_spreads_67 h (fun y_17 h => ?_)
                      refine lv_iconst (v := 1) hx hb dX8_spreads_68 (by decide) ?_
                      refine lv_iadd hx hb dX8_spreads_69 ?_
                      refine r_iast hx hb hK hP hD hS 18 rfl dX8_spreads_70 h (fun c_regionPairs_18 H locs hP hD hS h => ?_)
                      have hP : VP G (mW o ad kc c_worked c_width c_height c_grey c_setting c_leastOf c_mostOf c_lifted c_squares c_square c_dark c_light c_like c_isCrowded c_pairs c_first c_second c_votes c_shifts c_shiftX c_shiftY c_regionAt_16 c_regions c_regionShift c_regionPairs_18 c_regionFirst c_findings c_regionOf c_offset c_begun c_held c_isIn c_numbered c_left c_right c_top c_low c_missed) H := hP
                      have hD : va_D A (mW o ad kc c_worked c_width c_height c_grey c_setting c_leastOf c_mostOf c_lifted c_squares c_square c_dark c_light c_like c_isCrowded c_pairs c_first c_second c_votes c_shifts c_shiftX c_shiftY c_regionAt_16 c_regions c_regionShift c_regionPairs_18 c_regionFirst c_findings c_regionOf c_offset c_begun c_held c_isIn c_numbered c_left c_right c_top c_low c_missed) := hD
                      refine lv_iconst (v := 1) hx hb dX8_spreads_71 (by decide) ?_
                      refine lv_istore_n (lv' := [(3, .int 1), (0, .ref o), (1, .int x1), (2, .int x2), (4, .int x4_8)]) hx hb dX8_spreads_72 rfl hl (by decide) rfl (fun ls hl => ?_)
                      refine lv_iinc (v := (x4_8 + 1)) (lv' := [(4, .int (x4_8 + 1)), (3, .int 1), (0, .ref o), (1, .int x1), (2, .int x2)]) hx hb dX8_spreads_73 hl (k := 4) rfl rfl (by decide) rfl (fun ls hl => ?_)
                      refine lv_goto (tgt := 11) hx hb dX8_spreads_76 (by decide) ?_
                      exact ih 1 (x4_8 + 1) c_regionAt_16 c_regionPairs_18 _ _ _ hP hD hS (lv_sub hl [2, 3, 4, 1, 0] rfl) h
            exact L_13 FU 0 0 c_regionAt_2 c_regionPairs_3 _ _ _ hP hD hS (lv_sub hl [2, 3, 4, 1, 0] rfl) h
    exact L_6 FU 1 c_regionAt c_regionPairs _ _ _ hP hD hS (lv_sub hl [1, 2, 3, 0] rfl) h
set_option maxHeartbeats 1000000 in
set_option maxRecDepth 100000 in
theorem c_X8_findRegions (l : Launch) (G : va_G) (kc : Nat → ClassId) (o : Nat) (ad : Nat → Nat) {c_worked : Int32} {c_width : Int32} {c_height : Int32} {c_grey : (Nat → Int32)} {c_setting : (Nat → Int32)} {c_leastOf : (Nat → Int32)} {c_mostOf : (Nat → Int32)} {c_lifted : (Nat → Int32)} {c_squares : Int32} {c_square : (Nat → Int32)} {c_dark : (Nat → Int32)} {c_light : (Nat → Int32)} {c_like : (Nat → Int32)} {c_isCrowded : (Nat → Int32)} {c_pairs : Int32} {c_first : (Nat → Int32)} {c_second : (Nat → Int32)} {c_votes : (Nat → Int32)} {c_shifts : Int32} {c_shiftX : (Nat → Int32)} {c_shiftY : (Nat → Int32)} {c_regionAt : (Nat → Int32)} {c_regions : Int32} {c_regionShift : (Nat → Int32)} {c_regionPairs : (Nat → Int32)} {c_regionFirst : (Nat → Int32)} {c_findings : Int32} {c_regionOf : (Nat → Int32)} {c_offset : (Nat → Int32)} {c_begun : (Nat → Int32)} {c_held : (Nat → Int32)} {c_isIn : (Nat → Int32)} {c_numbered : (Nat → Int32)} {c_left : Int32} {c_right : Int32} {c_top : Int32} {c_low : Int32} {c_missed : Int32}  {c_worked' : Int32} {c_squares' : Int32} {c_square' : (Nat → Int32)} {c_dark' : (Nat → Int32)} {c_light' : (Nat → Int32)} {c_like' : (Nat → Int32)} {c_isCrowded' : (Nat → Int32)} {c_pairs' : Int32} {c_first' : (Nat → Int32)} {c_second' : (Nat → Int32)} {c_votes' : (Nat → Int32)} {c_shifts' : Int32} {c_shiftX' : (Nat → Int32)} {c_shiftY' : (Nat → Int32)} {c_regionAt' : (Nat → Int32)} {c_regions' : Int32} {c_regionShift' : (Nat → Int32)} {c_regionPairs' : (Nat → Int32)} {c_regionFirst' : (Nat → Int32)} {FU : Nat} (h : f_X8_findRegions FU c_worked c_width c_height c_grey c_setting c_squares c_square c_dark c_light c_like c_isCrowded c_pairs c_first c_second c_votes c_shifts c_shiftX c_shiftY c_regionAt c_regions c_regionShift c_regionPairs c_regionFirst = some (c_worked', c_squares', c_square', c_dark', c_light', c_like', c_isCrowded', c_pairs', c_first', c_second', c_votes', c_shifts', c_shiftX', c_shiftY', c_regionAt', c_regions', c_regionShift', c_regionPairs', c_regionFirst')) : CTv l G kc yX8_findRegions cX8_findRegions 4 none (rmq 6 139) [.ref o] (mW o ad kc c_worked c_width c_height c_grey c_setting c_leastOf c_mostOf c_lifted c_squares c_square c_dark c_light c_like c_isCrowded c_pairs c_first c_second c_votes c_shifts c_shiftX c_shiftY c_regionAt c_regions c_regionShift c_regionPairs c_regionFirst c_findings c_regionOf c_offset c_begun c_held c_isIn c_numbered c_left c_right c_top c_low c_missed) (mW o ad kc (c_worked') c_width c_height c_grey c_setting c_leastOf c_mostOf c_lifted (c_squares') (c_square') (c_dark') (c_light') (c_like') (c_isCrowded') (c_pairs') (c_first') (c_second') (c_votes') (c_shifts') (c_shiftX') (c_shiftY') (c_regionAt') (c_regions') (c_regionShift') (c_regionPairs') (c_regionFirst') c_findings c_regionOf c_offset c_begun c_held c_isIn c_numbered c_left c_right c_top c_low c_missed) := by
  refine CTv.mk (by decide) (Nat.le_of_ble_eq_true rfl) ?_
  intro p e s m args below meth c A ls Q hQ S hr hlocks hN hA hK hl hP hD hS
  have hx := S.1
  have hb := S.2.1
  have hl : lv_has ls 4 [(0, .ref o)] := hl
  unfold f_X8_findRegions at h
  refine lv_aload_n hx hb dX8_findRegions_0 rfl (lv_at hl 0 rfl) ?_
  refine r_get S gf_X8_93 hK hP 0 rfl rfl dX8_findRegions_1 ?_
  refine lv_iconst (v := 3) hx hb dX8_findRegions_4 (by decide) ?_
  refine lv_icmp_le (tgt := 9) hx hb dX8_findRegions_5 (by decide) (fun q_85 => ?_) (fun q_85 => ?_)
  · have h := it_t q_85 h
    refine lv_aload_n hx hb dX8_findRegions_9 rfl (lv_at hl 0 rfl) ?_
    obtain ⟨c_worked_1, c_squares_2, c_square_3, c_dark_4, c_light_5, c_like_6, c_isCrowded_7, c_pairs_8, c_first_9, c_second_10, c_votes_11, c_shifts_12, c_shiftX_13, c_shiftY_14, hq, h⟩ := bd14_e h
    refine cs_Vv (rest := []) (ci := 7) S hN cb_X8_findShifts ml_X8_186 ⟨Nat.le_of_ble_eq_true rfl, Nat.le_of_ble_eq_true rfl⟩ (c_X8_findShifts l G kc o ad  hq) hK hP hD hS hA 0 rfl rfl rfl rfl rfl (Nat.le_of_ble_eq_true rfl) hl.1 dX8_findRegions_10 (fun H locs hP hD hS => ?_)
    refine lv_aload_n hx hb dX8_findRegions_13 rfl (lv_at hl 0 rfl) ?_
    refine lv_iconst (v := 4) hx hb dX8_findRegions_14 (by decide) ?_
    refine r_put S pf_X8_93 hK hP hD hS 0 rfl (Nat.le_of_ble_eq_true rfl) dX8_findRegions_15 (fun H locs hP hD hS => ?_)
    have hP : VP G (mW o ad kc 4 c_width c_height c_grey c_setting c_leastOf c_mostOf c_lifted c_squares_2 c_square_3 c_dark_4 c_light_5 c_like_6 c_isCrowded_7 c_pairs_8 c_first_9 c_second_10 c_votes_11 c_shifts_12 c_shiftX_13 c_shiftY_14 c_regionAt c_regions c_regionShift c_regionPairs c_regionFirst c_findings c_regionOf c_offset c_begun c_held c_isIn c_numbered c_left c_right c_top c_low c_missed) H := hP
    have hD : va_D A (mW o ad kc 4 c_width c_height c_grey c_setting c_leastOf c_mostOf c_lifted c_squares_2 c_square_3 c_dark_4 c_light_5 c_like_6 c_isCrowded_7 c_pairs_8 c_first_9 c_second_10 c_votes_11 c_shifts_12 c_shiftX_13 c_shiftY_14 c_regionAt c_regions c_regionShift c_regionPairs c_regionFirst c_findings c_regionOf c_offset c_begun c_held c_isIn c_numbered c_left c_right c_top c_low c_missed) := hD
    refine lv_aload_n hx hb dX8_findRegions_18 rfl (lv_at hl 0 rfl) ?_
    refine lv_iconst (v := 0) hx hb dX8_findRegions_19 (by decide) ?_
    refine r_put S pf_X8_189 hK hP hD hS 0 rfl (Nat.le_of_ble_eq_true rfl) dX8_findRegions_20 (fun H locs hP hD hS => ?_)
    have hP : VP G (mW o ad kc 4 c_width c_height c_grey c_setting c_leastOf c_mostOf c_lifted c_squares_2 c_square_3 c_dark_4 c_light_5 c_like_6 c_isCrowded_7 c_pairs_8 c_first_9 c_second_10 c_votes_11 c_shifts_12 c_shiftX_13 c_shiftY_14 c_regionAt 0 c_regionShift c_regionPairs c_regionFirst c_findings c_regionOf c_offset c_begun c_held c_isIn c_numbered c_left c_right c_top c_low c_missed) H := hP
    have hD : va_D A (mW o ad kc 4 c_width c_height c_grey c_setting c_leastOf c_mostOf c_lifted c_squares_2 c_square_3 c_dark_4 c_light_5 c_like_6 c_isCrowded_7 c_pairs_8 c_first_9 c_second_10 c_votes_11 c_shifts_12 c_shiftX_13 c_shiftY_14 c_regionAt 0 c_regionShift c_regionPairs c_regionFirst c_findings c_regionOf c_offset c_begun c_held c_isIn c_numbered c_left c_right c_top c_low c_missed) := hD
    refine lv_iconst (v := 0) hx hb dX8_findRegions_23 (by decide) ?_
    refine lv_istore_n (lv' := [(1, .int 0), (0, .ref o)]) hx hb dX8_findRegions_24 rfl hl (by decide) rfl (fun ls hl => ?_)
    refine jn_w (t := fun k => f_X8_findRegions_L25 FU  k FU 0 c_regionAt) (fun (k : Int32 → (Nat → Int32) → Option (Int32 × Int32 × (Nat → Int32) × (Nat → Int32) × (Nat → Int32) × (Nat → Int32) × (Nat → Int32) × Int32 × (Nat → Int32) × (Nat → Int32) × (Nat → Int32) × Int32 × (Nat → Int32) × (Nat → Int32) × (Nat → Int32) × Int32 × (Nat → Int32) × (Nat → Int32) × (Nat → Int32))) => ∀ (x1_15 : Int32) (c_regionAt_16 : (Nat → Int32)) (H : Heap) (locs : List Loc) (ls : Array Slot), VP G (mW o ad kc 4 c_width c_height c_grey c_setting c_leastOf c_mostOf c_lifted c_squares_2 c_square_3 c_dark_4 c_light_5 c_like_6 c_isCrowded_7 c_pairs_8 c_first_9 c_second_10 c_votes_11 c_shifts_12 c_shiftX_13 c_shiftY_14 c_regionAt_16 0 c_regionShift c_regionPairs c_regionFirst c_findings c_regionOf c_offset c_begun c_held c_isIn c_numbered c_left c_right c_top c_low c_missed) H → va_D A (mW o ad kc 4 c_width c_height c_grey c_setting c_leastOf c_mostOf c_lifted c_squares_2 c_square_3 c_dark_4 c_light_5 c_like_6 c_isCrowded_7 c_pairs_8 c_first_9 c_second_10 c_votes_11 c_shifts_12 c_shiftX_13 c_shiftY_14 c_regionAt_16 0 c_regionShift c_regionPairs c_regionFirst c_findings c_regionOf c_offset c_begun c_held c_isIn c_numbered c_left c_right c_top c_low c_missed) → va_S A s.heap H locs → lv_has ls 4 [(0, .ref o)] → k x1_15 c_regionAt_16 = some (c_worked', c_squares', c_square', c_dark', c_light', c_like', c_isCrowded', c_pairs', c_first', c_second', c_votes', c_shifts', c_shiftX', c_shiftY', c_regionAt', c_regions', c_regionShift', c_regionPairs', c_regionFirst') → WW p l e (rmq 6 139) s m args below meth c Q H locs 48 ls []) h ?_ ?_
    · intro x1_15 c_regionAt_16 H locs ls hP hD hS hl h
      refine lv_iconst (v := 0) hx hb dX8_findRegions_48 (by decide) ?_
      refine lv_istore_n (lv' := [(1, .int 0), (0, .ref o)]) hx hb dX8_findRegions_49 rfl hl (by decide) rfl (fun ls hl => ?_)
      refine jn_w (t := fun k => f_X8_findRegions_L50 FU c_square_3 c_pairs_8 c_first_9 c_second_10 c_shifts_12 c_shiftX_13 c_shiftY_14 k FU 0 c_regionAt_16) (fun (k : Int32 → (Nat → Int32) → Option (Int32 × Int32 × (Nat → Int32) × (Nat → Int32) × (Nat → Int32) × (Nat → Int32) × (Nat → Int32) × Int32 × (Nat → Int32) × (Nat → Int32) × (Nat → Int32) × Int32 × (Nat → Int32) × (Nat → Int32) × (Nat → Int32) × Int32 × (Nat → Int32) × (Nat → Int32) × (Nat → Int32))) => ∀ (x1_20 : Int32) (c_regionAt_21 : (Nat → Int32)) (H : Heap) (locs : List Loc) (ls : Array Slot), VP G (mW o ad kc 4 c_width c_height c_grey c_setting c_leastOf c_mostOf c_lifted c_squares_2 c_square_3 c_dark_4 c_light_5 c_like_6 c_isCrowded_7 c_pairs_8 c_first_9 c_second_10 c_votes_11 c_shifts_12 c_shiftX_13 c_shiftY_14 c_regionAt_21 0 c_regionShift c_regionPairs c_regionFirst c_findings c_regionOf c_offset c_begun c_held c_isIn c_numbered c_left c_right c_top c_low c_missed) H → va_D A (mW o ad kc 4 c_width c_height c_grey c_setting c_leastOf c_mostOf c_lifted c_squares_2 c_square_3 c_dark_4 c_light_5 c_like_6 c_isCrowded_7 c_pairs_8 c_first_9 c_second_10 c_votes_11 c_shifts_12 c_shiftX_13 c_shiftY_14 c_regionAt_21 0 c_regionShift c_regionPairs c_regionFirst c_findings c_regionOf c_offset c_begun c_held c_isIn c_numbered c_left c_right c_top c_low c_missed) → va_S A s.heap H locs → lv_has ls 4 [(0, .ref o)] → k x1_20 c_regionAt_21 = some (c_worked', c_squares', c_square', c_dark', c_light', c_like', c_isCrowded', c_pairs', c_first', c_second', c_votes', c_shifts', c_shiftX', c_shiftY', c_regionAt', c_regions', c_regionShift', c_regionPairs', c_regionFirst') → WW p l e (rmq 6 139) s m args below meth c Q H locs 188 ls []) h ?_ ?_
      · intro x1_20 c_regionAt_21 H locs ls hP hD hS hl h
        refine lv_iconst (v := 0) hx hb dX8_findRegions_188 (by decide) ?_
        refine lv_istore_n (lv' := [(1, .int 0), (0, .ref o)]) hx hb dX8_findRegions_189 rfl hl (by decide) rfl (fun ls hl => ?_)
        refine jn_w (t := fun k => f_X8_findRegions_L190 FU c_width c_height c_shifts_12 k FU 0 c_regionAt_21 0 c_regionShift c_regionPairs c_regionFirst) (fun (k : Int32 → (Nat → Int32) → Int32 → (Nat → Int32) → (Nat → Int32) → (Nat → Int32) → Option (Int32 × Int32 × (Nat → Int32) × (Nat → Int32) × (Nat → Int32) × (Nat → Int32) × (Nat → Int32) × Int32 × (Nat → Int32) × (Nat → Int32) × (Nat → Int32) × Int32 × (Nat → Int32) × (Nat → Int32) × (Nat → Int32) × Int32 × (Nat → Int32) × (Nat → Int32) × (Nat → Int32))) => ∀ (x1_25 : Int32) (c_regionAt_26 : (Nat → Int32)) (c_regions_27 : Int32) (c_regionShift_28 : (Nat → Int32)) (c_regionPairs_29 : (Nat → Int32)) (c_regionFirst_30 : (Nat → Int32)) (H : Heap) (locs : List Loc) (ls : Array Slot), VP G (mW o ad kc 4 c_width c_height c_grey c_setting c_leastOf c_mostOf c_lifted c_squares_2 c_square_3 c_dark_4 c_light_5 c_like_6 c_isCrowded_7 c_pairs_8 c_first_9 c_second_10 c_votes_11 c_shifts_12 c_shiftX_13 c_shiftY_14 c_regionAt_26 c_regions_27 c_regionShift_28 c_regionPairs_29 c_regionFirst_30 c_findings c_regionOf c_offset c_begun c_held c_isIn c_numbered c_left c_right c_top c_low c_missed) H → va_D A (mW o ad kc 4 c_width c_height c_grey c_setting c_leastOf c_mostOf c_lifted c_squares_2 c_square_3 c_dark_4 c_light_5 c_like_6 c_isCrowded_7 c_pairs_8 c_first_9 c_second_10 c_votes_11 c_shifts_12 c_shiftX_13 c_shiftY_14 c_regionAt_26 c_regions_27 c_regionShift_28 c_regionPairs_29 c_regionFirst_30 c_findings c_regionOf c_offset c_begun c_held c_isIn c_numbered c_left c_right c_top c_low c_missed) → va_S A s.heap H locs → lv_has ls 4 [] → k x1_25 c_regionAt_26 c_regions_27 c_regionShift_28 c_regionPairs_29 c_regionFirst_30 = some (c_worked', c_squares', c_square', c_dark', c_light', c_like', c_isCrowded', c_pairs', c_first', c_second', c_votes', c_shifts', c_shiftX', c_shiftY', c_regionAt', c_regions', c_regionShift', c_regionPairs', c_regionFirst') → WW p l e (rmq 6 139) s m args below meth c Q H locs 300 ls []) h ?_ ?_
        · intro x1_25 c_regionAt_26 c_regions_27 c_regionShift_28 c_regionPairs_29 c_regionFirst_30 H locs ls hP hD hS hl h
          cases h
          exact ret_v hx hb hr hQ hlocks hK hP hD hS dX8_findRegions_300
        · intro k_31 K_32 h
          have L_33 : ∀ (n : Nat) (x1_25 : Int32) (c_regionAt_26 : (Nat → Int32)) (c_regions_27 : Int32) (c_regionShift_28 : (Nat → Int32)) (c_regionPairs_29 : (Nat → Int32)) (c_regionFirst_30 : (Nat → Int32)) (H : Heap) (locs : List Loc) (ls : Array Slot), VP G (mW o ad kc 4 c_width c_height c_grey c_setting c_leastOf c_mostOf c_lifted c_squares_2 c_square_3 c_dark_4 c_light_5 c_like_6 c_isCrowded_7 c_pairs_8 c_first_9 c_second_10 c_votes_11 c_shifts_12 c_shiftX_13 c_shiftY_14 c_regionAt_26 c_regions_27 c_regionShift_28 c_regionPairs_29 c_regionFirst_30 c_findings c_regionOf c_offset c_begun c_held c_isIn c_numbered c_left c_right c_top c_low c_missed) H → va_D A (mW o ad kc 4 c_width c_height c_grey c_setting c_leastOf c_mostOf c_lifted c_squares_2 c_square_3 c_dark_4 c_light_5 c_like_6 c_isCrowded_7 c_pairs_8 c_first_9 c_second_10 c_votes_11 c_shifts_12 c_shiftX_13 c_shiftY_14 c_regionAt_26 c_regions_27 c_regionShift_28 c_regionPairs_29 c_regionFirst_30 c_findings c_regionOf c_offset c_begun c_held c_isIn c_numbered c_left c_right c_top c_low c_missed) → va_S A s.heap H locs → lv_has ls 4 [(0, .ref o), (1, .int x1_25)] → f_X8_findRegions_L190 FU c_width c_height c_shifts_12 k_31 n x1_25 c_regionAt_26 c_regions_27 c_regionShift_28 c_regionPairs_29 c_regionFirst_30 = some (c_worked', c_squares', c_square', c_dark', c_light', c_like', c_isCrowded', c_pairs', c_first', c_second', c_votes', c_shifts', c_shiftX', c_shiftY', c_regionAt', c_regions', c_regionShift', c_regionPairs', c_regionFirst') → WW p l e (rmq 6 139) s m args below meth c Q H locs 190 ls [] := by
            intro n
            induction n with
            | zero => intro x1_25 c_regionAt_26 c_regions_27 c_regionShift_28 c_regionPairs_29 c_regionFirst_30 H locs ls hP hD hS hl h; rw [f_X8_findRegions_L190] at h; cases h
            | succ n ih =>
              intro x1_25 c_regionAt_26 c_regions_27 c_regionShift_28 c_regionPairs_29 c_regionFirst_30 H locs ls hP hD hS hl h
              rw [f_X8_findRegions_L190] at h
              refine lv_iload_n hx hb dX8_findRegions_190 rfl (lv_at hl 1 rfl) ?_
              refine lv_aload_n hx hb dX8_findRegions_191 rfl (lv_at hl 0 rfl) ?_
              refine r_get S gf_X8_170 hK hP 0 rfl rfl dX8_findRegions_192 ?_
              refine lv_icmp_ge (tgt := 300) hx hb dX8_findRegions_195 (by decide) (fun q_52 => ?_) (fun q_52 => ?_)
              · have h := it_t q_52 h
                exact K_32 x1_25 c_regionAt_26 c_regions_27 c_regionShift_28 c_regionPairs_29 c_regionFirst_30 _ _ _ hP hD hS (lv_sub hl [] rfl) h
              · have h := it_f q_52 h
                refine lv_iconst (v := 0) hx hb dX8_findRegions_198 (by decide) ?_
                refine lv_istore_n (lv' := [(2, .int 0), (0, .ref o), (1, .int x1_25)]) hx hb dX8_findRegions_199 rfl hl (by decide) rfl (fun ls hl => ?_)
                refine jn_w (t := fun k => f_X8_findRegions_L200 FU x1_25 c_width c_height k FU 0 c_regionAt_26 c_regions_27 c_regionShift_28 c_regionPairs_29 c_regionFirst_30) (fun (k : Int32 → (Nat → Int32) → Int32 → (Nat → Int32) → (Nat → Int32) → (Nat → Int32) → Option (Int32 × Int32 × (Nat → Int32) × (Nat → Int32) × (Nat → Int32) × (Nat → Int32) × (Nat → Int32) × Int32 × (Nat → Int32) × (Nat → Int32) × (Nat → Int32) × Int32 × (Nat → Int32) × (Nat → Int32) × (Nat → Int32) × Int32 × (Nat → Int32) × (Nat → Int32) × (Nat → Int32))) => ∀ (x2_34 : Int32) (c_regionAt_35 : (Nat → Int32)) (c_regions_36 : Int32) (c_regionShift_37 : (Nat → Int32)) (c_regionPairs_38 : (Nat → Int32)) (c_regionFirst_39 : (Nat → Int32)) (H : Heap) (locs : List Loc) (ls : Array Slot), VP G (mW o ad kc 4 c_width c_height c_grey c_setting c_leastOf c_mostOf c_lifted c_squares_2 c_square_3 c_dark_4 c_light_5 c_like_6 c_isCrowded_7 c_pairs_8 c_first_9 c_second_10 c_votes_11 c_shifts_12 c_shiftX_13 c_shiftY_14 c_regionAt_35 c_regions_36 c_regionShift_37 c_regionPairs_38 c_regionFirst_39 c_findings c_regionOf c_offset c_begun c_held c_isIn c_numbered c_left c_right c_top c_low c_missed) H → va_D A (mW o ad kc 4 c_width c_height c_grey c_setting c_leastOf c_mostOf c_lifted c_squares_2 c_square_3 c_dark_4 c_light_5 c_like_6 c_isCrowded_7 c_pairs_8 c_first_9 c_second_10 c_votes_11 c_shifts_12 c_shiftX_13 c_shiftY_14 c_regionAt_35 c_regions_36 c_regionShift_37 c_regionPairs_38 c_regionFirst_39 c_findings c_regionOf c_offset c_begun c_held c_isIn c_numbered c_left c_right c_top c_low c_missed) → va_S A s.heap H locs → lv_has ls 4 [(0, .ref o), (1, .int x1_25)] → k x2_34 c_regionAt_35 c_regions_36 c_regionShift_37 c_regionPairs_38 c_regionFirst_39 = some (c_worked', c_squares', c_square', c_dark', c_light', c_like', c_isCrowded', c_pairs', c_first', c_second', c_votes', c_shifts', c_shiftX', c_shiftY', c_regionAt', c_regions', c_regionShift', c_regionPairs', c_regionFirst') → WW p l e (rmq 6 139) s m args below meth c Q H locs 294 ls []) h ?_ ?_
                · intro x2_34 c_regionAt_35 c_regions_36 c_regionShift_37 c_regionPairs_38 c_regionFirst_39 H locs ls hP hD hS hl h
                  refine lv_iinc (v := (x1_25 + 1)) (lv' := [(1, .int (x1_25 + 1)), (0, .ref o)]) hx hb dX8_findRegions_294 hl (k := 1) rfl rfl (by decide) rfl (fun ls hl => ?_)
                  refine lv_goto (tgt := 190) hx hb dX8_findRegions_297 (by decide) ?_
                  exact ih (x1_25 + 1) c_regionAt_35 c_regions_36 c_regionShift_37 c_regionPairs_38 c_regionFirst_39 _ _ _ hP hD hS (lv_sub hl [1, 0] rfl) h
                · intro k_40 K_41 h
                  have L_42 : ∀ (n : Nat) (x2_34 : Int32) (c_regionAt_35 : (Nat → Int32)) (c_regions_36 : Int32) (c_regionShift_37 : (Nat → Int32)) (c_regionPairs_38 : (Nat → Int32)) (c_regionFirst_39 : (Nat → Int32)) (H : Heap) (locs : List Loc) (ls : Array Slot), VP G (mW o ad kc 4 c_width c_height c_grey c_setting c_leastOf c_mostOf c_lifted c_squares_2 c_square_3 c_dark_4 c_light_5 c_like_6 c_isCrowded_7 c_pairs_8 c_first_9 c_second_10 c_votes_11 c_shifts_12 c_shiftX_13 c_shiftY_14 c_regionAt_35 c_regions_36 c_regionShift_37 c_regionPairs_38 c_regionFirst_39 c_findings c_regionOf c_offset c_begun c_held c_isIn c_numbered c_left c_right c_top c_low c_missed) H → va_D A (mW o ad kc 4 c_width c_height c_grey c_setting c_leastOf c_mostOf c_lifted c_squares_2 c_square_3 c_dark_4 c_light_5 c_like_6 c_isCrowded_7 c_pairs_8 c_first_9 c_second_10 c_votes_11 c_shifts_12 c_shiftX_13 c_shiftY_14 c_regionAt_35 c_regions_36 c_regionShift_37 c_regionPairs_38 c_regionFirst_39 c_findings c_regionOf c_offset c_begun c_held c_isIn c_numbered c_left c_right c_top c_low c_missed) → va_S A s.heap H locs → lv_has ls 4 [(0, .ref o), (1, .int x1_25), (2, .int x2_34)] → f_X8_findRegions_L200 FU x1_25 c_width c_height k_40 n x2_34 c_regionAt_35 c_regions_36 c_regionShift_37 c_regionPairs_38 c_regionFirst_39 = some (c_worked', c_squares', c_square', c_dark', c_light', c_like', c_isCrowded', c_pairs', c_first', c_second', c_votes', c_shifts', c_shiftX', c_shiftY', c_regionAt', c_regions', c_regionShift', c_regionPairs', c_regionFirst') → WW p l e (rmq 6 139) s m args below meth c Q H locs 200 ls [] := by
                    intro n
                    induction n with
                    | zero => intro x2_34 c_regionAt_35 c_regions_36 c_regionShift_37 c_regionPairs_38 c_regionFirst_39 H locs ls hP hD hS hl h; rw [f_X8_findRegions_L200] at h; cases h
                    | succ n ih =>
                      intro x2_34 c_regionAt_35 c_regions_36 c_regionShift_37 c_regionPairs_38 c_regionFirst_39 H locs ls hP hD hS hl h
                      rw [f_X8_findRegions_L200] at h
                      refine lv_iload_n hx hb dX8_findRegions_200 rfl (lv_at hl 2 rfl) ?_
                      refine lv_sipush (v := 256) hx hb dX8_findRegions_201 (by decide) ?_
                      refine lv_icmp_ge (tgt := 294) hx hb dX8_findRegions_204 (by decide) (fun q_51 => ?_) (fun q_51 => ?_)
                      · have h := it_t q_51 h
                        exact K_41 x2_34 c_regionAt_35 c_regions_36 c_regionShift_37 c_regionPairs_38 c_regionFirst_39 _ _ _ hP hD hS (lv_sub hl [0, 1] rfl) h
                      · have h := it_f q_51 h
                        refine lv_aload_n hx hb dX8_findRegions_207 rfl (lv_at hl 0 rfl) ?_
                        refine r_get S gf_X8_63 hK hP 0 rfl rfl dX8_findRegions_208 ?_
                        refine lv_sipush (v := 256) hx hb dX8_findRegions_211 (by decide) ?_
                        refine lv_iload_n hx hb dX8_findRegions_214 rfl (lv_at hl 1 rfl) ?_
                        refine lv_imul hx hb dX8_findRegions_215 ?_
                        refine lv_iload_n hx hb dX8_findRegions_216 rfl (lv_at hl 2 rfl) ?_
                        refine lv_iadd hx hb dX8_findRegions_217 ?_
                        refine r_iald hx hb hK hP 16 rfl dX8_findRegions_218 h (fun y_43 h => ?_)
                        refine lv_iconst (v := (-1)) hx hb dX8_findRegions_219 (by decide) ?_
                        refine lv_icmp_ne (tgt := 288) hx hb dX8_findRegions_220 (by decide) (fun q_50 => ?_) (fun q_50 => ?_)
                        · have h := it_f q_50 h
                          refine lv_iinc (v := (x2_34 + 1)) (lv' := [(2, .int (x2_34 + 1)), (0, .ref o), (1, .int x1_25)]) hx hb dX8_findRegions_288 hl (k := 2) rfl rfl (by decide) rfl (fun ls hl => ?_)
                          refine lv_goto (tgt := 200) hx hb dX8_findRegions_291 (by decide) ?_
                          exact ih (x2_34 + 1) c_regionAt_35 c_regions_36 c_regionShift_37 c_regionPairs_38 c_regionFirst_39 _ _ _ hP hD hS (lv_sub hl [1, 2, 0] rfl) h
                        · have h := it_t q_50 h
                          refine lv_aload_n hx hb dX8_findRegions_223 rfl (lv_at hl 0 rfl) ?_
                          refine r_get S gf_X8_63 hK hP 0 rfl rfl dX8_findRegions_224 ?_
                          refine lv_sipush (v := 256) hx hb dX8_findRegions_227 (by decide) ?_
                          refine lv_iload_n hx hb dX8_findRegions_230 rfl (lv_at hl 1 rfl) ?_
                          refine lv_imul hx hb dX8_findRegions_231 ?_
                          refine lv_iload_n hx hb dX8_findRegions_232 rfl (lv_at hl 2 rfl) ?_
                          refine lv_iadd hx hb dX8_findRegions_233 ?_
                          refine lv_aload_n hx hb dX8_findRegions_234 rfl (lv_at hl 0 rfl) ?_
                          refine r_get S gf_X8_189 hK hP 0 rfl rfl dX8_findRegions_235 ?_
                          refine r_iast hx hb hK hP hD hS 16 rfl dX8_findRegions_238 h (fun c_regionAt_44 H locs hP hD hS h => ?_)
                          have hP : VP G (mW o ad kc 4 c_width c_height c_grey c_setting c_leastOf c_mostOf c_lifted c_squares_2 c_square_3 c_dark_4 c_light_5 c_like_6 c_isCrowded_7 c_pairs_8 c_first_9 c_second_10 c_votes_11 c_shifts_12 c_shiftX_13 c_shiftY_14 c_regionAt_44 c_regions_36 c_regionShift_37 c_regionPairs_38 c_regionFirst_39 c_findings c_regionOf c_offset c_begun c_held c_isIn c_numbered c_left c_right c_top c_low c_missed) H := hP
                          have hD : va_D A (mW o ad kc 4 c_width c_height c_grey c_setting c_leastOf c_mostOf c_lifted c_squares_2 c_square_3 c_dark_4 c_light_5 c_like_6 c_isCrowded_7 c_pairs_8 c_first_9 c_second_10 c_votes_11 c_shifts_12 c_shiftX_13 c_shiftY_14 c_regionAt_44 c_regions_36 c_regionShift_37 c_regionPairs_38 c_regionFirst_39 c_findings c_regionOf c_offset c_begun c_held c_isIn c_numbered c_left c_right c_top c_low c_missed) := hD
                          refine lv_aload_n hx hb dX8_findRegions_239 rfl (lv_at hl 0 rfl) ?_
                          refine r_get S gf_X8_66 hK hP 0 rfl rfl dX8_findRegions_240 ?_
                          refine lv_aload_n hx hb dX8_findRegions_243 rfl (lv_at hl 0 rfl) ?_
                          refine r_get S gf_X8_189 hK hP 0 rfl rfl dX8_findRegions_244 ?_
                          refine lv_iload_n hx hb dX8_findRegions_247 rfl (lv_at hl 1 rfl) ?_
                          refine r_iast hx hb hK hP hD hS 17 rfl dX8_findRegions_248 h (fun c_regionShift_45 H locs hP hD hS h => ?_)
                          have hP : VP G (mW o ad kc 4 c_width c_height c_grey c_setting c_leastOf c_mostOf c_lifted c_squares_2 c_square_3 c_dark_4 c_light_5 c_like_6 c_isCrowded_7 c_pairs_8 c_first_9 c_second_10 c_votes_11 c_shifts_12 c_shiftX_13 c_shiftY_14 c_regionAt_44 c_regions_36 c_regionShift_45 c_regionPairs_38 c_regionFirst_39 c_findings c_regionOf c_offset c_begun c_held c_isIn c_numbered c_left c_right c_top c_low c_missed) H := hP
                          have hD : va_D A (mW o ad kc 4 c_width c_height c_grey c_setting c_leastOf c_mostOf c_lifted c_squares_2 c_square_3 c_dark_4 c_light_5 c_like_6 c_isCrowded_7 c_pairs_8 c_first_9 c_second_10 c_votes_11 c_shifts_12 c_shiftX_13 c_shiftY_14 c_regionAt_44 c_regions_36 c_regionShift_45 c_regionPairs_38 c_regionFirst_39 c_findings c_regionOf c_offset c_begun c_held c_isIn c_numbered c_left c_right c_top c_low c_missed) := hD
                          refine lv_aload_n hx hb dX8_findRegions_249 rfl (lv_at hl 0 rfl) ?_
                          refine r_get S gf_X8_69 hK hP 0 rfl rfl dX8_findRegions_250 ?_
                          refine lv_aload_n hx hb dX8_findRegions_253 rfl (lv_at hl 0 rfl) ?_
                          refine r_get S gf_X8_189 hK hP 0 rfl rfl dX8_findRegions_254 ?_
                          refine lv_iconst (v := 1) hx hb dX8_findRegions_257 (by decide) ?_
                          refine r_iast hx hb hK hP hD hS 18 rfl dX8_findRegions_258 h (fun c_regionPairs_46 H locs hP hD hS h => ?_)
                          have hP : VP G (mW o ad kc 4 c_width c_height c_grey c_setting c_leastOf c_mostOf c_lifted c_squares_2 c_square_3 c_dark_4 c_light_5 c_like_6 c_isCrowded_7 c_pairs_8 c_first_9 c_second_10 c_votes_11 c_shifts_12 c_shiftX_13 c_shiftY_14 c_regionAt_44 c_regions_36 c_regionShift_45 c_regionPairs_46 c_regionFirst_39 c_findings c_regionOf c_offset c_begun c_held c_isIn c_numbered c_left c_right c_top c_low c_missed) H := hP
                          have hD : va_D A (mW o ad kc 4 c_width c_height c_grey c_setting c_leastOf c_mostOf c_lifted c_squares_2 c_square_3 c_dark_4 c_light_5 c_like_6 c_isCrowded_7 c_pairs_8 c_first_9 c_second_10 c_votes_11 c_shifts_12 c_shiftX_13 c_shiftY_14 c_regionAt_44 c_regions_36 c_regionShift_45 c_regionPairs_46 c_regionFirst_39 c_findings c_regionOf c_offset c_begun c_held c_isIn c_numbered c_left c_right c_top c_low c_missed) := hD
                          refine lv_aload_n hx hb dX8_findRegions_259 rfl (lv_at hl 0 rfl) ?_
                          refine r_get S gf_X8_72 hK hP 0 rfl rfl dX8_findRegions_260 ?_
                          refine lv_aload_n hx hb dX8_findRegions_263 rfl (lv_at hl 0 rfl) ?_
                          refine r_get S gf_X8_189 hK hP 0 rfl rfl dX8_findRegions_264 ?_
                          refine lv_iload_n hx hb dX8_findRegions_267 rfl (lv_at hl 2 rfl) ?_
                          refine r_iast hx hb hK hP hD hS 19 rfl dX8_findRegions_268 h (fun c_regionFirst_47 H locs hP hD hS h => ?_)
                          have hP : VP G (mW o ad kc 4 c_width c_height c_grey c_setting c_leastOf c_mostOf c_lifted c_squares_2 c_square_3 c_dark_4 c_light_5 c_like_6 c_isCrowded_7 c_pairs_8 c_first_9 c_second_10 c_votes_11 c_shifts_12 c_shiftX_13 c_shiftY_14 c_regionAt_44 c_regions_36 c_regionShift_45 c_regionPairs_46 c_regionFirst_47 c_findings c_regionOf c_offset c_begun c_held c_isIn c_numbered c_left c_right c_top c_low c_missed) H := hP
                          have hD : va_D A (mW o ad kc 4 c_width c_height c_grey c_setting c_leastOf c_mostOf c_lifted c_squares_2 c_square_3 c_dark_4 c_light_5 c_like_6 c_isCrowded_7 c_pairs_8 c_first_9 c_second_10 c_votes_11 c_shifts_12 c_shiftX_13 c_shiftY_14 c_regionAt_44 c_regions_36 c_regionShift_45 c_regionPairs_46 c_regionFirst_47 c_findings c_regionOf c_offset c_begun c_held c_isIn c_numbered c_left c_right c_top c_low c_missed) := hD
                          refine lv_aload_n hx hb dX8_findRegions_269 rfl (lv_at hl 0 rfl) ?_
                          refine lv_iload_n hx hb dX8_findRegions_270 rfl (lv_at hl 1 rfl) ?_
                          refine lv_aload_n hx hb dX8_findRegions_271 rfl (lv_at hl 0 rfl) ?_
                          refine r_get S gf_X8_189 hK hP 0 rfl rfl dX8_findRegions_272 ?_
                          obtain ⟨c_regionAt_48, c_regionPairs_49, hq, h⟩ := bd2_e h
                          refine cs_Vv (rest := []) (ci := 7) S hN cb_X8_spreads ml_X8_192 ⟨Nat.le_of_ble_eq_true rfl, Nat.le_of_ble_eq_true rfl⟩ (c_X8_spreads l G kc o ad x1_25 c_regions_36 hq) hK hP hD hS hA 0 rfl rfl rfl rfl rfl (Nat.le_of_ble_eq_true rfl) hl.1 dX8_findRegions_275 (fun H locs hP hD hS => ?_)
                          refine lv_aload_n hx hb dX8_findRegions_278 rfl (lv_at hl 0 rfl) ?_
                          refine lv_dup hx hb dX8_findRegions_279 rfl ?_
                          refine r_get S gf_X8_189 hK hP 0 rfl rfl dX8_findRegions_280 ?_
                          refine lv_iconst (v := 1) hx hb dX8_findRegions_283 (by decide) ?_
                          refine lv_iadd hx hb dX8_findRegions_284 ?_
                          refine r_put S pf_X8_189 hK hP hD hS 0 rfl (Nat.le_of_ble_eq_true rfl) dX8_findRegions_285 (fun H locs hP hD hS => ?_)
                          have hP : VP G (mW o ad kc 4 c_width c_height c_grey c_setting c_leastOf c_mostOf c_lifted c_squares_2 c_square_3 c_dark_4 c_light_5 c_like_6 c_isCrowded_7 c_pairs_8 c_first_9 c_second_10 c_votes_11 c_shifts_12 c_shiftX_13 c_shiftY_14 c_regionAt_48 (c_regions_36 + 1) c_regionShift_45 c_regionPairs_49 c_regionFirst_47 c_findings c_regionOf c_offset c_begun c_held c_isIn c_numbered c_left c_right c_top c_low c_missed) H := hP
                          have hD : va_D A (mW o ad kc 4 c_width c_height c_grey c_setting c_leastOf c_mostOf c_lifted c_squares_2 c_square_3 c_dark_4 c_light_5 c_like_6 c_isCrowded_7 c_pairs_8 c_first_9 c_second_10 c_votes_11 c_shifts_12 c_shiftX_13 c_shiftY_14 c_regionAt_48 (c_regions_36 + 1) c_regionShift_45 c_regionPairs_49 c_regionFirst_47 c_findings c_regionOf c_offset c_begun c_held c_isIn c_numbered c_left c_right c_top c_low c_missed) := hD
                          refine lv_iinc (v := (x2_34 + 1)) (lv' := [(2, .int (x2_34 + 1)), (0, .ref o), (1, .int x1_25)]) hx hb dX8_findRegions_288 hl (k := 2) rfl rfl (by decide) rfl (fun ls hl => ?_)
                          refine lv_goto (tgt := 200) hx hb dX8_findRegions_291 (by decide) ?_
                          exact ih (x2_34 + 1) c_regionAt_48 (c_regions_36 + 1) c_regionShift_45 c_regionPairs_49 c_regionFirst_47 _ _ _ hP hD hS (lv_sub hl [1, 2, 0] rfl) h
                  exact L_42 FU 0 c_regionAt_26 c_regions_27 c_regionShift_28 c_regionPairs_29 c_regionFirst_30 _ _ _ hP hD hS (lv_sub hl [1, 2, 0] rfl) h
          exact L_33 FU 0 c_regionAt_21 0 c_regionShift c_regionPairs c_regionFirst _ _ _ hP hD hS (lv_sub hl [1, 0] rfl) h
      · intro k_22 K_23 h
        have L_24 : ∀ (n : Nat) (x1_20 : Int32) (c_regionAt_21 : (Nat → Int32)) (H : Heap) (locs : List Loc) (ls : Array Slot), VP G (mW o ad kc 4 c_width c_height c_grey c_setting c_leastOf c_mostOf c_lifted c_squares_2 c_square_3 c_dark_4 c_light_5 c_like_6 c_isCrowded_7 c_pairs_8 c_first_9 c_second_10 c_votes_11 c_shifts_12 c_shiftX_13 c_shiftY_14 c_regionAt_21 0 c_regionShift c_regionPairs c_regionFirst c_findings c_regionOf c_offset c_begun c_held c_isIn c_numbered c_left c_right c_top c_low c_missed) H → va_D A (mW o ad kc 4 c_width c_height c_grey c_setting c_leastOf c_mostOf c_lifted c_squares_2 c_square_3 c_dark_4 c_light_5 c_like_6 c_isCrowded_7 c_pairs_8 c_first_9 c_second_10 c_votes_11 c_shifts_12 c_shiftX_13 c_shiftY_14 c_regionAt_21 0 c_regionShift c_regionPairs c_regionFirst c_findings c_regionOf c_offset c_begun c_held c_isIn c_numbered c_left c_right c_top c_low c_missed) → va_S A s.heap H locs → lv_has ls 4 [(0, .ref o), (1, .int x1_20)] → f_X8_findRegions_L50 FU c_square_3 c_pairs_8 c_first_9 c_second_10 c_shifts_12 c_shiftX_13 c_shiftY_14 k_22 n x1_20 c_regionAt_21 = some (c_worked', c_squares', c_square', c_dark', c_light', c_like', c_isCrowded', c_pairs', c_first', c_second', c_votes', c_shifts', c_shiftX', c_shiftY', c_regionAt', c_regions', c_regionShift', c_regionPairs', c_regionFirst') → WW p l e (rmq 6 139) s m args below meth c Q H locs 50 ls [] := by
          intro n
          induction n with
          | zero => intro x1_20 c_regionAt_21 H locs ls hP hD hS hl h; rw [f_X8_findRegions_L50] at h; cases h
          | succ n ih =>
            intro x1_20 c_regionAt_21 H locs ls hP hD hS hl h
            rw [f_X8_findRegions_L50] at h
            refine lv_iload_n hx hb dX8_findRegions_50 rfl (lv_at hl 1 rfl) ?_
            refine lv_aload_n hx hb dX8_findRegions_51 rfl (lv_at hl 0 rfl) ?_
            refine r_get S gf_X8_149 hK hP 0 rfl rfl dX8_findRegions_52 ?_
            refine lv_icmp_ge (tgt := 188) hx hb dX8_findRegions_55 (by decide) (fun q_82 => ?_) (fun q_82 => ?_)
            · have h := it_t q_82 h
              exact K_23 x1_20 c_regionAt_21 _ _ _ hP hD hS (lv_sub hl [0] rfl) h
            · have h := it_f q_82 h
              refine lv_iconst (v := 0) hx hb dX8_findRegions_58 (by decide) ?_
              refine lv_istore_n (lv' := [(2, .int 0), (0, .ref o), (1, .int x1_20)]) hx hb dX8_findRegions_59 rfl hl (by decide) rfl (fun ls hl => ?_)
              refine jn_w (t := fun k => f_X8_findRegions_L60 FU x1_20 c_square_3 c_first_9 c_second_10 c_shifts_12 c_shiftX_13 c_shiftY_14 k FU 0 c_regionAt_21) (fun (k : Int32 → (Nat → Int32) → Option (Int32 × Int32 × (Nat → Int32) × (Nat → Int32) × (Nat → Int32) × (Nat → Int32) × (Nat → Int32) × Int32 × (Nat → Int32) × (Nat → Int32) × (Nat → Int32) × Int32 × (Nat → Int32) × (Nat → Int32) × (Nat → Int32) × Int32 × (Nat → Int32) × (Nat → Int32) × (Nat → Int32))) => ∀ (x2_53 : Int32) (c_regionAt_54 : (Nat → Int32)) (H : Heap) (locs : List Loc) (ls : Array Slot), VP G (mW o ad kc 4 c_width c_height c_grey c_setting c_leastOf c_mostOf c_lifted c_squares_2 c_square_3 c_dark_4 c_light_5 c_like_6 c_isCrowded_7 c_pairs_8 c_first_9 c_second_10 c_votes_11 c_shifts_12 c_shiftX_13 c_shiftY_14 c_regionAt_54 0 c_regionShift c_regionPairs c_regionFirst c_findings c_regionOf c_offset c_begun c_held c_isIn c_numbered c_left c_right c_top c_low c_missed) H → va_D A (mW o ad kc 4 c_width c_height c_grey c_setting c_leastOf c_mostOf c_lifted c_squares_2 c_square_3 c_dark_4 c_light_5 c_like_6 c_isCrowded_7 c_pairs_8 c_first_9 c_second_10 c_votes_11 c_shifts_12 c_shiftX_13 c_shiftY_14 c_regionAt_54 0 c_regionShift c_regionPairs c_regionFirst c_findings c_regionOf c_offset c_begun c_held c_isIn c_numbered c_left c_right c_top c_low c_missed) → va_S A s.heap H locs → lv_has ls 4 [(0, .ref o), (1, .int x1_20)] → k x2_53 c_regionAt_54 = some (c_worked', c_squares', c_square', c_dark', c_light', c_like', c_isCrowded', c_pairs', c_first', c_second', c_votes', c_shifts', c_shiftX', c_shiftY', c_regionAt', c_regions', c_regionShift', c_regionPairs', c_regionFirst') → WW p l e (rmq 6 139) s m args below meth c Q H locs 182 ls []) h ?_ ?_
              · intro x2_53 c_regionAt_54 H locs ls hP hD hS hl h
                refine lv_iinc (v := (x1_20 + 1)) (lv' := [(1, .int (x1_20 + 1)), (0, .ref o)]) hx hb dX8_findRegions_182 hl (k := 1) rfl rfl (by decide) rfl (fun ls hl => ?_)
                refine lv_goto (tgt := 50) hx hb dX8_findRegions_185 (by decide) ?_
                exact ih (x1_20 + 1) c_regionAt_54 _ _ _ hP hD hS (lv_sub hl [1, 0] rfl) h
              · intro k_55 K_56 h
                have L_57 : ∀ (n : Nat) (x2_53 : Int32) (c_regionAt_54 : (Nat → Int32)) (H : Heap) (locs : List Loc) (ls : Array Slot), VP G (mW o ad kc 4 c_width c_height c_grey c_setting c_leastOf c_mostOf c_lifted c_squares_2 c_square_3 c_dark_4 c_light_5 c_like_6 c_isCrowded_7 c_pairs_8 c_first_9 c_second_10 c_votes_11 c_shifts_12 c_shiftX_13 c_shiftY_14 c_regionAt_54 0 c_regionShift c_regionPairs c_regionFirst c_findings c_regionOf c_offset c_begun c_held c_isIn c_numbered c_left c_right c_top c_low c_missed) H → va_D A (mW o ad kc 4 c_width c_height c_grey c_setting c_leastOf c_mostOf c_lifted c_squares_2 c_square_3 c_dark_4 c_light_5 c_like_6 c_isCrowded_7 c_pairs_8 c_first_9 c_second_10 c_votes_11 c_shifts_12 c_shiftX_13 c_shiftY_14 c_regionAt_54 0 c_regionShift c_regionPairs c_regionFirst c_findings c_regionOf c_offset c_begun c_held c_isIn c_numbered c_left c_right c_top c_low c_missed) → va_S A s.heap H locs → lv_has ls 4 [(0, .ref o), (1, .int x1_20), (2, .int x2_53)] → f_X8_findRegions_L60 FU x1_20 c_square_3 c_first_9 c_second_10 c_shifts_12 c_shiftX_13 c_shiftY_14 k_55 n x2_53 c_regionAt_54 = some (c_worked', c_squares', c_square', c_dark', c_light', c_like', c_isCrowded', c_pairs', c_first', c_second', c_votes', c_shifts', c_shiftX', c_shiftY', c_regionAt', c_regions', c_regionShift', c_regionPairs', c_regionFirst') → WW p l e (rmq 6 139) s m args below meth c Q H locs 60 ls [] := by
                  intro n
                  induction n with
                  | zero => intro x2_53 c_regionAt_54 H locs ls hP hD hS hl h; rw [f_X8_findRegions_L60] at h; cases h
                  | succ n ih =>
                    intro x2_53 c_regionAt_54 H locs ls hP hD hS hl h
                    rw [f_X8_findRegions_L60] at h
                    refine lv_iload_n hx hb dX8_findRegions_60 rfl (lv_at hl 2 rfl) ?_
                    refine lv_aload_n hx hb dX8_findRegions_61 rfl (lv_at hl 0 rfl) ?_
                    refine r_get S gf_X8_170 hK hP 0 rfl rfl dX8_findRegions_62 ?_
                    refine lv_icmp_ge (tgt := 182) hx hb dX8_findRegions_65 (by decide) (fun q_81 => ?_) (fun q_81 => ?_)
                    · have h := it_t q_81 h
                      exact K_56 x2_53 c_regionAt_54 _ _ _ hP hD hS (lv_sub hl [0, 1] rfl) h
                    · have h := it_f q_81 h
                      refine lv_aload_n hx hb dX8_findRegions_68 rfl (lv_at hl 0 rfl) ?_
                      refine lv_aload_n hx hb dX8_findRegions_69 rfl (lv_at hl 0 rfl) ?_
                      refine r_get S gf_X8_48 hK hP 0 rfl rfl dX8_findRegions_70 ?_
                      refine lv_iload_n hx hb dX8_findRegions_73 rfl (lv_at hl 1 rfl) ?_
                      refine r_iald hx hb hK hP 11 rfl dX8_findRegions_74 h (fun y_58 h => ?_)
                      refine lv_aload_n hx hb dX8_findRegions_75 rfl (lv_at hl 0 rfl) ?_
                      refine r_get S gf_X8_51 hK hP 0 rfl rfl dX8_findRegions_76 ?_
                      refine lv_iload_n hx hb dX8_findRegions_79 rfl (lv_at hl 1 rfl) ?_
                      refine r_iald hx hb hK hP 12 rfl dX8_findRegions_80 h (fun y_59 h => ?_)
                      obtain ⟨r_60, hq, h⟩ := bd1_e h
                      refine cs_Vi (rest := []) (ci := 7) S hN cb_X8_across ml_X8_152 ⟨Nat.le_of_ble_eq_true rfl, Nat.le_of_ble_eq_true rfl⟩ (c_X8_across l G kc o ad y_58 y_59 hq) hK hP hD hS hA 0 rfl rfl rfl rfl rfl (Nat.le_of_ble_eq_true rfl) hl.1 dX8_findRegions_81 (fun H locs hP hD hS => ?_)
                      refine lv_aload_n hx hb dX8_findRegions_84 rfl (lv_at hl 0 rfl) ?_
                      refine r_get S gf_X8_57 hK hP 0 rfl rfl dX8_findRegions_85 ?_
                      refine lv_iload_n hx hb dX8_findRegions_88 rfl (lv_at hl 2 rfl) ?_
                      refine r_iald hx hb hK hP 14 rfl dX8_findRegions_89 h (fun y_61 h => ?_)
                      refine jn_w (fun (k : Int32 → Option (Int32 × Int32 × (Nat → Int32) × (Nat → Int32) × (Nat → Int32) × (Nat → Int32) × (Nat → Int32) × Int32 × (Nat → Int32) × (Nat → Int32) × (Nat → Int32) × Int32 × (Nat → Int32) × (Nat → Int32) × (Nat → Int32) × Int32 × (Nat → Int32) × (Nat → Int32) × (Nat → Int32))) => ∀ (t_62 : Int32) (H : Heap) (locs : List Loc) (ls : Array Slot), VP G (mW o ad kc 4 c_width c_height c_grey c_setting c_leastOf c_mostOf c_lifted c_squares_2 c_square_3 c_dark_4 c_light_5 c_like_6 c_isCrowded_7 c_pairs_8 c_first_9 c_second_10 c_votes_11 c_shifts_12 c_shiftX_13 c_shiftY_14 c_regionAt_54 0 c_regionShift c_regionPairs c_regionFirst c_findings c_regionOf c_offset c_begun c_held c_isIn c_numbered c_left c_right c_top c_low c_missed) H → va_D A (mW o ad kc 4 c_width c_height c_grey c_setting c_leastOf c_mostOf c_lifted c_squares_2 c_square_3 c_dark_4 c_light_5 c_like_6 c_isCrowded_7 c_pairs_8 c_first_9 c_second_10 c_votes_11 c_shifts_12 c_shiftX_13 c_shiftY_14 c_regionAt_54 0 c_regionShift c_regionPairs c_regionFirst c_findings c_regionOf c_offset c_begun c_held c_isIn c_numbered c_left c_right c_top c_low c_missed) → va_S A s.heap H locs → lv_has ls 4 [(0, .ref o), (1, .int x1_20), (2, .int x2_53)] → k t_62 = some (c_worked', c_squares', c_square', c_dark', c_light', c_like', c_isCrowded', c_pairs', c_first', c_second', c_votes', c_shifts', c_shiftX', c_shiftY', c_regionAt', c_regions', c_regionShift', c_regionPairs', c_regionFirst') → WW p l e (rmq 6 139) s m args below meth c Q H locs 123 ls [.int t_62]) h ?_ ?_
                      · intro t_62 H locs ls hP hD hS hl h
                        refine lv_istore_n (lv' := [(3, .int t_62), (0, .ref o), (1, .int x1_20), (2, .int x2_53)]) hx hb dX8_findRegions_123 rfl hl (by decide) rfl (fun ls hl => ?_)
                        refine lv_aload_n hx hb dX8_findRegions_124 rfl (lv_at hl 1 rfl) ?_
                        refine r_get S gf_X8_63 hK hP 0 rfl rfl dX8_findRegions_125 ?_
                        refine lv_sipush (v := 256) hx hb dX8_findRegions_128 (by decide) ?_
                        refine lv_iload_n hx hb dX8_findRegions_131 rfl (lv_at hl 3 rfl) ?_
                        refine lv_imul hx hb dX8_findRegions_132 ?_
                        refine lv_aload_n hx hb dX8_findRegions_133 rfl (lv_at hl 1 rfl) ?_
                        refine r_get S gf_X8_32 hK hP 0 rfl rfl dX8_findRegions_134 ?_
                        refine lv_aload_n hx hb dX8_findRegions_137 rfl (lv_at hl 1 rfl) ?_
                        refine r_get S gf_X8_48 hK hP 0 rfl rfl dX8_findRegions_138 ?_
                        refine lv_iload_n hx hb dX8_findRegions_141 rfl (lv_at hl 2 rfl) ?_
                        refine r_iald hx hb hK hP 11 rfl dX8_findRegions_142 h (fun y_65 h => ?_)
                        refine r_iald hx hb hK hP 6 rfl dX8_findRegions_143 h (fun y_66 h => ?_)
                        refine lv_iadd hx hb dX8_findRegions_144 ?_
                        refine lv_iload_n hx hb dX8_findRegions_145 rfl (lv_at hl 0 rfl) ?_
                        refine jn_w (fun (k : Int32 → Option (Int32 × Int32 × (Nat → Int32) × (Nat → Int32) × (Nat → Int32) × (Nat → Int32) × (Nat → Int32) × Int32 × (Nat → Int32) × (Nat → Int32) × (Nat → Int32) × Int32 × (Nat → Int32) × (Nat → Int32) × (Nat → Int32) × Int32 × (Nat → Int32) × (Nat → Int32) × (Nat → Int32))) => ∀ (t_67 : Int32) (H : Heap) (locs : List Loc) (ls : Array Slot), VP G (mW o ad kc 4 c_width c_height c_grey c_setting c_leastOf c_mostOf c_lifted c_squares_2 c_square_3 c_dark_4 c_light_5 c_like_6 c_isCrowded_7 c_pairs_8 c_first_9 c_second_10 c_votes_11 c_shifts_12 c_shiftX_13 c_shiftY_14 c_regionAt_54 0 c_regionShift c_regionPairs c_regionFirst c_findings c_regionOf c_offset c_begun c_held c_isIn c_numbered c_left c_right c_top c_low c_missed) H → va_D A (mW o ad kc 4 c_width c_height c_grey c_setting c_leastOf c_mostOf c_lifted c_squares_2 c_square_3 c_dark_4 c_light_5 c_like_6 c_isCrowded_7 c_pairs_8 c_first_9 c_second_10 c_votes_11 c_shifts_12 c_shiftX_13 c_shiftY_14 c_regionAt_54 0 c_regionShift c_regionPairs c_regionFirst c_findings c_regionOf c_offset c_begun c_held c_isIn c_numbered c_left c_right c_top c_low c_missed) → va_S A s.heap H locs → lv_has ls 4 [(0, .ref o), (1, .int x1_20), (2, .int x2_53)] → k t_67 = some (c_worked', c_squares', c_square', c_dark', c_light', c_like', c_isCrowded', c_pairs', c_first', c_second', c_votes', c_shifts', c_shiftX', c_shiftY', c_regionAt', c_regions', c_regionShift', c_regionPairs', c_regionFirst') → WW p l e (rmq 6 139) s m args below meth c Q H locs 175 ls [.int t_67, .int ((256 * x2_53) + y_66), .ref (ad 21)]) h ?_ ?_
                        · intro t_67 H locs ls hP hD hS hl h
                          refine r_iast hx hb hK hP hD hS 16 rfl dX8_findRegions_175 h (fun c_regionAt_70 H locs hP hD hS h => ?_)
                          have hP : VP G (mW o ad kc 4 c_width c_height c_grey c_setting c_leastOf c_mostOf c_lifted c_squares_2 c_square_3 c_dark_4 c_light_5 c_like_6 c_isCrowded_7 c_pairs_8 c_first_9 c_second_10 c_votes_11 c_shifts_12 c_shiftX_13 c_shiftY_14 c_regionAt_70 0 c_regionShift c_regionPairs c_regionFirst c_findings c_regionOf c_offset c_begun c_held c_isIn c_numbered c_left c_right c_top c_low c_missed) H := hP
                          have hD : va_D A (mW o ad kc 4 c_width c_height c_grey c_setting c_leastOf c_mostOf c_lifted c_squares_2 c_square_3 c_dark_4 c_light_5 c_like_6 c_isCrowded_7 c_pairs_8 c_first_9 c_second_10 c_votes_11 c_shifts_12 c_shiftX_13 c_shiftY_14 c_regionAt_70 0 c_regionShift c_regionPairs c_regionFirst c_findings c_regionOf c_offset c_begun c_held c_isIn c_numbered c_left c_right c_top c_low c_missed) := hD
                          refine lv_iinc (v := (x2_53 + 1)) (lv' := [(2, .int (x2_53 + 1)), (0, .ref o), (1, .int x1_20)]) hx hb dX8_findRegions_176 hl (k := 2) rfl rfl (by decide) rfl (fun ls hl => ?_)
                          refine lv_goto (tgt := 60) hx hb dX8_findRegions_179 (by decide) ?_
                          exact ih (x2_53 + 1) c_regionAt_70 _ _ _ hP hD hS (lv_sub hl [1, 2, 0] rfl) h
                        · intro j_68 J_69 h
                          refine lv_if_eq (tgt := 153) hx hb dX8_findRegions_146 (by decide) (fun q_74 => ?_) (fun q_74 => ?_)
                          · have h := it_t q_74 h
                            refine lv_aload_n hx hb dX8_findRegions_153 rfl (lv_at hl 1 rfl) ?_
                            refine r_get S gf_X8_63 hK hP 0 rfl rfl dX8_findRegions_154 ?_
                            refine lv_sipush (v := 256) hx hb dX8_findRegions_157 (by decide) ?_
                            refine lv_iload_n hx hb dX8_findRegions_160 rfl (lv_at hl 3 rfl) ?_
                            refine lv_imul hx hb dX8_findRegions_161 ?_
                            refine lv_aload_n hx hb dX8_findRegions_162 rfl (lv_at hl 1 rfl) ?_
                            refine r_get S gf_X8_32 hK hP 0 rfl rfl dX8_findRegions_163 ?_
                            refine lv_aload_n hx hb dX8_findRegions_166 rfl (lv_at hl 1 rfl) ?_
                            refine r_get S gf_X8_48 hK hP 0 rfl rfl dX8_findRegions_167 ?_
                            refine lv_iload_n hx hb dX8_findRegions_170 rfl (lv_at hl 2 rfl) ?_
                            refine r_iald hx hb hK hP 11 rfl dX8_findRegions_171 h (fun y_71 h => ?_)
                            refine r_iald hx hb hK hP 6 rfl dX8_findRegions_172 h (fun y_72 h => ?_)
                            refine lv_iadd hx hb dX8_findRegions_173 ?_
                            refine r_iald hx hb hK hP 16 rfl dX8_findRegions_174 h (fun y_73 h => ?_)
                            exact J_69 y_73 _ _ _ hP hD hS (lv_sub hl [1, 2, 3] rfl) h
                          · have h := it_f q_74 h
                            refine lv_iconst (v := (-1)) hx hb dX8_findRegions_149 (by decide) ?_
                            refine lv_goto (tgt := 175) hx hb dX8_findRegions_150 (by decide) ?_
                            exact J_69 (-1) _ _ _ hP hD hS (lv_sub hl [1, 2, 3] rfl) h
                      · intro j_63 J_64 h
                        refine lv_icmp_ne (tgt := 122) hx hb dX8_findRegions_90 (by decide) (fun q_80 => ?_) (fun q_80 => ?_)
                        · have h := it_f q_80 h
                          refine lv_iconst (v := 0) hx hb dX8_findRegions_122 (by decide) ?_
                          exact J_64 0 _ _ _ hP hD hS (lv_sub hl [0, 1, 2] rfl) h
                        · have h := it_t q_80 h
                          refine lv_aload_n hx hb dX8_findRegions_93 rfl (lv_at hl 0 rfl) ?_
                          refine lv_aload_n hx hb dX8_findRegions_94 rfl (lv_at hl 0 rfl) ?_
                          refine r_get S gf_X8_48 hK hP 0 rfl rfl dX8_findRegions_95 ?_
                          refine lv_iload_n hx hb dX8_findRegions_98 rfl (lv_at hl 1 rfl) ?_
                          refine r_iald hx hb hK hP 11 rfl dX8_findRegions_99 h (fun y_75 h => ?_)
                          refine lv_aload_n hx hb dX8_findRegions_100 rfl (lv_at hl 0 rfl) ?_
                          refine r_get S gf_X8_51 hK hP 0 rfl rfl dX8_findRegions_101 ?_
                          refine lv_iload_n hx hb dX8_findRegions_104 rfl (lv_at hl 1 rfl) ?_
                          refine r_iald hx hb hK hP 12 rfl dX8_findRegions_105 h (fun y_76 h => ?_)
                          obtain ⟨r_77, hq, h⟩ := bd1_e h
                          refine cs_Vi (rest := []) (ci := 7) S hN cb_X8_down ml_X8_158 ⟨Nat.le_of_ble_eq_true rfl, Nat.le_of_ble_eq_true rfl⟩ (c_X8_down l G kc o ad y_75 y_76 hq) hK hP hD hS hA 0 rfl rfl rfl rfl rfl (Nat.le_of_ble_eq_true rfl) hl.1 dX8_findRegions_106 (fun H locs hP hD hS => ?_)
                          refine lv_aload_n hx hb dX8_findRegions_109 rfl (lv_at hl 0 rfl) ?_
                          refine r_get S gf_X8_60 hK hP 0 rfl rfl dX8_findRegions_110 ?_
                          refine lv_iload_n hx hb dX8_findRegions_113 rfl (lv_at hl 2 rfl) ?_
                          refine r_iald hx hb hK hP 15 rfl dX8_findRegions_114 h (fun y_78 h => ?_)
                          refine lv_icmp_ne (tgt := 122) hx hb dX8_findRegions_115 (by decide) (fun q_79 => ?_) (fun q_79 => ?_)
                          · have h := it_f q_79 h
                            refine lv_iconst (v := 0) hx hb dX8_findRegions_122 (by decide) ?_
                            exact J_64 0 _ _ _ hP hD hS (lv_sub hl [0, 1, 2] rfl) h
                          · have h := it_t q_79 h
                            refine lv_iconst (v := 1) hx hb dX8_findRegions_118 (by decide) ?_
                            refine lv_goto (tgt := 123) hx hb dX8_findRegions_119 (by decide) ?_
                            exact J_64 1 _ _ _ hP hD hS (lv_sub hl [0, 1, 2] rfl) h
                exact L_57 FU 0 c_regionAt_21 _ _ _ hP hD hS (lv_sub hl [1, 2, 0] rfl) h
        exact L_24 FU 0 c_regionAt_16 _ _ _ hP hD hS (lv_sub hl [1, 0] rfl) h
    · intro k_17 K_18 h
      have L_19 : ∀ (n : Nat) (x1_15 : Int32) (c_regionAt_16 : (Nat → Int32)) (H : Heap) (locs : List Loc) (ls : Array Slot), VP G (mW o ad kc 4 c_width c_height c_grey c_setting c_leastOf c_mostOf c_lifted c_squares_2 c_square_3 c_dark_4 c_light_5 c_like_6 c_isCrowded_7 c_pairs_8 c_first_9 c_second_10 c_votes_11 c_shifts_12 c_shiftX_13 c_shiftY_14 c_regionAt_16 0 c_regionShift c_regionPairs c_regionFirst c_findings c_regionOf c_offset c_begun c_held c_isIn c_numbered c_left c_right c_top c_low c_missed) H → va_D A (mW o ad kc 4 c_width c_height c_grey c_setting c_leastOf c_mostOf c_lifted c_squares_2 c_square_3 c_dark_4 c_light_5 c_like_6 c_isCrowded_7 c_pairs_8 c_first_9 c_second_10 c_votes_11 c_shifts_12 c_shiftX_13 c_shiftY_14 c_regionAt_16 0 c_regionShift c_regionPairs c_regionFirst c_findings c_regionOf c_offset c_begun c_held c_isIn c_numbered c_left c_right c_top c_low c_missed) → va_S A s.heap H locs → lv_has ls 4 [(0, .ref o), (1, .int x1_15)] → f_X8_findRegions_L25 FU  k_17 n x1_15 c_regionAt_16 = some (c_worked', c_squares', c_square', c_dark', c_light', c_like', c_isCrowded', c_pairs', c_first', c_second', c_votes', c_shifts', c_shiftX', c_shiftY', c_regionAt', c_regions', c_regionShift', c_regionPairs', c_regionFirst') → WW p l e (rmq 6 139) s m args below meth c Q H locs 25 ls [] := by
        intro n
        induction n with
        | zero => intro x1_15 c_regionAt_16 H locs ls hP hD hS hl h; rw [f_X8_findRegions_L25] at h; cases h
        | succ n ih =>
          intro x1_15 c_regionAt_16 H locs ls hP hD hS hl h
          rw [f_X8_findRegions_L25] at h
          refine lv_iload_n hx hb dX8_findRegions_25 rfl (lv_at hl 1 rfl) ?_
          refine lv_aload_n hx hb dX8_findRegions_26 rfl (lv_at hl 0 rfl) ?_
          refine r_get S gf_X8_63 hK hP 0 rfl rfl dX8_findRegions_27 ?_
          refine va_alen hx hb hK hP 16 0 rfl rfl (v := 2048) rfl dX8_findRegions_30 ?_
          refine lv_icmp_ge (tgt := 48) hx hb dX8_findRegions_31 (by decide) (fun q_84 => ?_) (fun q_84 => ?_)
          · have h := it_t q_84 h
            exact K_18 x1_15 c_regionAt_16 _ _ _ hP hD hS (lv_sub hl [0] rfl) h
          · have h := it_f q_84 h
            refine lv_aload_n hx hb dX8_findRegions_34 rfl (lv_at hl 0 rfl) ?_
            refine r_get S gf_X8_63 hK hP 0 rfl rfl dX8_findRegions_35 ?_
            refine lv_iload_n hx hb dX8_findRegions_38 rfl (lv_at hl 1 rfl) ?_
            refine lv_bipush (v := (-9)) hx hb dX8_findRegions_39 (by decide) ?_
            refine r_iast hx hb hK hP hD hS 16 rfl dX8_findRegions_41 h (fun c_regionAt_83 H locs hP hD hS h => ?_)
            have hP : VP G (mW o ad kc 4 c_width c_height c_grey c_setting c_leastOf c_mostOf c_lifted c_squares_2 c_square_3 c_dark_4 c_light_5 c_like_6 c_isCrowded_7 c_pairs_8 c_first_9 c_second_10 c_votes_11 c_shifts_12 c_shiftX_13 c_shiftY_14 c_regionAt_83 0 c_regionShift c_regionPairs c_regionFirst c_findings c_regionOf c_offset c_begun c_held c_isIn c_numbered c_left c_right c_top c_low c_missed) H := hP
            have hD : va_D A (mW o ad kc 4 c_width c_height c_grey c_setting c_leastOf c_mostOf c_lifted c_squares_2 c_square_3 c_dark_4 c_light_5 c_like_6 c_isCrowded_7 c_pairs_8 c_first_9 c_second_10 c_votes_11 c_shifts_12 c_shiftX_13 c_shiftY_14 c_regionAt_83 0 c_regionShift c_regionPairs c_regionFirst c_findings c_regionOf c_offset c_begun c_held c_isIn c_numbered c_left c_right c_top c_low c_missed) := hD
            refine lv_iinc (v := (x1_15 + 1)) (lv' := [(1, .int (x1_15 + 1)), (0, .ref o)]) hx hb dX8_findRegions_42 hl (k := 1) rfl rfl (by decide) rfl (fun ls hl => ?_)
            refine lv_goto (tgt := 25) hx hb dX8_findRegions_45 (by decide) ?_
            exact ih (x1_15 + 1) c_regionAt_83 _ _ _ hP hD hS (lv_sub hl [1, 0] rfl) h
      exact L_19 FU 0 c_regionAt _ _ _ hP hD hS (lv_sub hl [1, 0] rfl) h
  · have h := it_f q_85 h
    cases h
    exact ret_v hx hb hr hQ hlocks hK hP hD hS dX8_findRegions_8
set_option maxHeartbeats 1000000 in
set_option maxRecDepth 100000 in
theorem c_X8_shift (l : Launch) (G : va_G) (kc : Nat → ClassId) (o : Nat) (ad : Nat → Nat) {c_worked : Int32} {c_width : Int32} {c_height : Int32} {c_grey : (Nat → Int32)} {c_setting : (Nat → Int32)} {c_leastOf : (Nat → Int32)} {c_mostOf : (Nat → Int32)} {c_lifted : (Nat → Int32)} {c_squares : Int32} {c_square : (Nat → Int32)} {c_dark : (Nat → Int32)} {c_light : (Nat → Int32)} {c_like : (Nat → Int32)} {c_isCrowded : (Nat → Int32)} {c_pairs : Int32} {c_first : (Nat → Int32)} {c_second : (Nat → Int32)} {c_votes : (Nat → Int32)} {c_shifts : Int32} {c_shiftX : (Nat → Int32)} {c_shiftY : (Nat → Int32)} {c_regionAt : (Nat → Int32)} {c_regions : Int32} {c_regionShift : (Nat → Int32)} {c_regionPairs : (Nat → Int32)} {c_regionFirst : (Nat → Int32)} {c_findings : Int32} {c_regionOf : (Nat → Int32)} {c_offset : (Nat → Int32)} {c_begun : (Nat → Int32)} {c_held : (Nat → Int32)} {c_isIn : (Nat → Int32)} {c_numbered : (Nat → Int32)} {c_left : Int32} {c_right : Int32} {c_top : Int32} {c_low : Int32} {c_missed : Int32} (x1 : Int32) (x2 : Int32) {r : Int32} {c_worked' : Int32} {c_squares' : Int32} {c_square' : (Nat → Int32)} {c_dark' : (Nat → Int32)} {c_light' : (Nat → Int32)} {c_like' : (Nat → Int32)} {c_isCrowded' : (Nat → Int32)} {c_pairs' : Int32} {c_first' : (Nat → Int32)} {c_second' : (Nat → Int32)} {c_votes' : (Nat → Int32)} {c_shifts' : Int32} {c_shiftX' : (Nat → Int32)} {c_shiftY' : (Nat → Int32)} {c_regionAt' : (Nat → Int32)} {c_regions' : Int32} {c_regionShift' : (Nat → Int32)} {c_regionPairs' : (Nat → Int32)} {c_regionFirst' : (Nat → Int32)} {FU : Nat} (h : f_X8_shift FU c_worked c_width c_height c_grey c_setting c_squares c_square c_dark c_light c_like c_isCrowded c_pairs c_first c_second c_votes c_shifts c_shiftX c_shiftY c_regionAt c_regions c_regionShift c_regionPairs c_regionFirst x1 x2 = some (r, c_worked', c_squares', c_square', c_dark', c_light', c_like', c_isCrowded', c_pairs', c_first', c_second', c_votes', c_shifts', c_shiftX', c_shiftY', c_regionAt', c_regions', c_regionShift', c_regionPairs', c_regionFirst')) : CTi l G kc yX8_shift cX8_shift 5 (some .int) (rmq 7 162) [.ref o, .int x1, .int x2] (mW o ad kc c_worked c_width c_height c_grey c_setting c_leastOf c_mostOf c_lifted c_squares c_square c_dark c_light c_like c_isCrowded c_pairs c_first c_second c_votes c_shifts c_shiftX c_shiftY c_regionAt c_regions c_regionShift c_regionPairs c_regionFirst c_findings c_regionOf c_offset c_begun c_held c_isIn c_numbered c_left c_right c_top c_low c_missed) (mW o ad kc (c_worked') c_width c_height c_grey c_setting c_leastOf c_mostOf c_lifted (c_squares') (c_square') (c_dark') (c_light') (c_like') (c_isCrowded') (c_pairs') (c_first') (c_second') (c_votes') (c_shifts') (c_shiftX') (c_shiftY') (c_regionAt') (c_regions') (c_regionShift') (c_regionPairs') (c_regionFirst') c_findings c_regionOf c_offset c_begun c_held c_isIn c_numbered c_left c_right c_top c_low c_missed) r := by
  refine CTi.mk (by decide) (Nat.le_of_ble_eq_true rfl) ?_
  intro p e s m args below meth c A ls Q hQ S hr hlocks hN hA hK hl hP hD hS
  have hx := S.1
  have hb := S.2.1
  have hl : lv_has ls 5 [(0, .ref o), (1, .int x1), (2, .int x2)] := hl
  unfold f_X8_shift at h
  refine lv_aload_n hx hb dX8_shift_0 rfl (lv_at hl 0 rfl) ?_
  obtain ⟨c_worked_1, c_squares_2, c_square_3, c_dark_4, c_light_5, c_like_6, c_isCrowded_7, c_pairs_8, c_first_9, c_second_10, c_votes_11, c_shifts_12, c_shiftX_13, c_shiftY_14, c_regionAt_15, c_regions_16, c_regionShift_17, c_regionPairs_18, c_regionFirst_19, hq, h⟩ := bd19_e h
  refine cs_Vv (rest := []) (ci := 7) S hN cb_X8_findRegions ml_X8_196 ⟨Nat.le_of_ble_eq_true rfl, Nat.le_of_ble_eq_true rfl⟩ (c_X8_findRegions l G kc o ad  hq) hK hP hD hS hA 0 rfl rfl rfl rfl rfl (Nat.le_of_ble_eq_true rfl) hl.1 dX8_shift_1 (fun H locs hP hD hS => ?_)
  refine lv_iload_n hx hb dX8_shift_4 rfl (lv_at hl 1 rfl) ?_
  refine lv_iconst (v := 0) hx hb dX8_shift_5 (by decide) ?_
  refine lv_aload_n hx hb dX8_shift_6 rfl (lv_at hl 0 rfl) ?_
  refine r_get S gf_X8_170 hK hP 0 rfl rfl dX8_shift_7 ?_
  refine lv_iconst (v := 1) hx hb dX8_shift_10 (by decide) ?_
  refine lv_isub hx hb dX8_shift_11 ?_
  obtain ⟨r_20, hq, h⟩ := bd1_e h
  refine cp_Si (rest := []) [] S hN cb_X8_within ml_X8_96 ⟨Nat.le_of_ble_eq_true rfl, Nat.le_of_ble_eq_true rfl⟩ (c_X8_within l G kc x1 0 (c_shifts_12 - 1) hq) hK hP hD hS hA rfl rfl rfl rfl rfl (Nat.le_of_ble_eq_true rfl) hl.1 dX8_shift_12 (fun H locs hP hD hS => ?_)
  have hP : VP G (mW o ad kc c_worked_1 c_width c_height c_grey c_setting c_leastOf c_mostOf c_lifted c_squares_2 c_square_3 c_dark_4 c_light_5 c_like_6 c_isCrowded_7 c_pairs_8 c_first_9 c_second_10 c_votes_11 c_shifts_12 c_shiftX_13 c_shiftY_14 c_regionAt_15 c_regions_16 c_regionShift_17 c_regionPairs_18 c_regionFirst_19 c_findings c_regionOf c_offset c_begun c_held c_isIn c_numbered c_left c_right c_top c_low c_missed) H := hP
  have hD : va_D A (mW o ad kc c_worked_1 c_width c_height c_grey c_setting c_leastOf c_mostOf c_lifted c_squares_2 c_square_3 c_dark_4 c_light_5 c_like_6 c_isCrowded_7 c_pairs_8 c_first_9 c_second_10 c_votes_11 c_shifts_12 c_shiftX_13 c_shiftY_14 c_regionAt_15 c_regions_16 c_regionShift_17 c_regionPairs_18 c_regionFirst_19 c_findings c_regionOf c_offset c_begun c_held c_isIn c_numbered c_left c_right c_top c_low c_missed) := hD
  refine lv_if_ne (tgt := 20) hx hb dX8_shift_15 (by decide) (fun q_42 => ?_) (fun q_42 => ?_)
  · have h := it_f q_42 h
    refine lv_iconst (v := 0) hx hb dX8_shift_20 (by decide) ?_
    refine lv_istore_n (lv' := [(3, .int 0), (0, .ref o), (1, .int x1), (2, .int x2)]) hx hb dX8_shift_21 rfl hl (by decide) rfl (fun ls hl => ?_)
    refine lv_iconst (v := 0) hx hb dX8_shift_22 (by decide) ?_
    refine lv_istore (lv' := [(4, .int 0), (3, .int 0), (0, .ref o), (1, .int x1), (2, .int x2)]) hx hb dX8_shift_23 hl (by decide) rfl (fun ls hl => ?_)
    refine jn_w (t := fun k => f_X8_shift_L25 FU x1 c_regions_16 c_regionShift_17 k FU 0 0) (fun (k : Int32 → Int32 → Option (Int32 × Int32 × Int32 × (Nat → Int32) × (Nat → Int32) × (Nat → Int32) × (Nat → Int32) × (Nat → Int32) × Int32 × (Nat → Int32) × (Nat → Int32) × (Nat → Int32) × Int32 × (Nat → Int32) × (Nat → Int32) × (Nat → Int32) × Int32 × (Nat → Int32) × (Nat → Int32) × (Nat → Int32))) => ∀ (x3_21 : Int32) (x4_22 : Int32) (H : Heap) (locs : List Loc) (ls : Array Slot), VP G (mW o ad kc c_worked_1 c_width c_height c_grey c_setting c_leastOf c_mostOf c_lifted c_squares_2 c_square_3 c_dark_4 c_light_5 c_like_6 c_isCrowded_7 c_pairs_8 c_first_9 c_second_10 c_votes_11 c_shifts_12 c_shiftX_13 c_shiftY_14 c_regionAt_15 c_regions_16 c_regionShift_17 c_regionPairs_18 c_regionFirst_19 c_findings c_regionOf c_offset c_begun c_held c_isIn c_numbered c_left c_right c_top c_low c_missed) H → va_D A (mW o ad kc c_worked_1 c_width c_height c_grey c_setting c_leastOf c_mostOf c_lifted c_squares_2 c_square_3 c_dark_4 c_light_5 c_like_6 c_isCrowded_7 c_pairs_8 c_first_9 c_second_10 c_votes_11 c_shifts_12 c_shiftX_13 c_shiftY_14 c_regionAt_15 c_regions_16 c_regionShift_17 c_regionPairs_18 c_regionFirst_19 c_findings c_regionOf c_offset c_begun c_held c_isIn c_numbered c_left c_right c_top c_low c_missed) → va_S A s.heap H locs → lv_has ls 5 [(0, .ref o), (1, .int x1), (2, .int x2), (3, .int x3_21)] → k x3_21 x4_22 = some (r, c_worked', c_squares', c_square', c_dark', c_light', c_like', c_isCrowded', c_pairs', c_first', c_second', c_votes', c_shifts', c_shiftX', c_shiftY', c_regionAt', c_regions', c_regionShift', c_regionPairs', c_regionFirst') → WW p l e (rmq 7 162) s m args below meth c Q H locs 59 ls []) h ?_ ?_
    · intro x3_21 x4_22 H locs ls hP hD hS hl h
      refine lv_iload_n hx hb dX8_shift_59 rfl (lv_at hl 2 rfl) ?_
      by_cases q_26 : x2 = 0
      · have h := it_t q_26 h
        refine lv_tableIn (off := 32) (tgt := 92) hx hb dX8_shift_60 (by rw [q_26]; decide) (by rw [q_26]; decide) (by rw [q_26]; rfl) (by decide) ?_
        refine lv_aload_n hx hb dX8_shift_92 rfl (lv_at hl 0 rfl) ?_
        refine r_get S gf_X8_57 hK hP 0 rfl rfl dX8_shift_93 ?_
        refine lv_iload_n hx hb dX8_shift_96 rfl (lv_at hl 1 rfl) ?_
        refine r_iald hx hb hK hP 14 rfl dX8_shift_97 h (fun y_27 h => ?_)
        refine lv_bipush (v := 100) hx hb dX8_shift_98 (by decide) ?_
        refine lv_iadd hx hb dX8_shift_100 ?_
        cases h
        exact ret_i hx hb hr rfl hQ hlocks hK hP hD hS dX8_shift_101
      · have h := it_f q_26 h
        by_cases q_28 : x2 = 1
        · have h := it_t q_28 h
          refine lv_tableIn (off := 42) (tgt := 102) hx hb dX8_shift_60 (by rw [q_28]; decide) (by rw [q_28]; decide) (by rw [q_28]; rfl) (by decide) ?_
          refine lv_aload_n hx hb dX8_shift_102 rfl (lv_at hl 0 rfl) ?_
          refine r_get S gf_X8_60 hK hP 0 rfl rfl dX8_shift_103 ?_
          refine lv_iload_n hx hb dX8_shift_106 rfl (lv_at hl 1 rfl) ?_
          refine r_iald hx hb hK hP 15 rfl dX8_shift_107 h (fun y_29 h => ?_)
          cases h
          exact ret_i hx hb hr rfl hQ hlocks hK hP hD hS dX8_shift_108
        · have h := it_f q_28 h
          by_cases q_30 : x2 = 2
          · have h := it_t q_30 h
            refine lv_tableIn (off := 49) (tgt := 109) hx hb dX8_shift_60 (by rw [q_30]; decide) (by rw [q_30]; decide) (by rw [q_30]; rfl) (by decide) ?_
            refine lv_aload_n hx hb dX8_shift_109 rfl (lv_at hl 0 rfl) ?_
            refine r_get S gf_X8_54 hK hP 0 rfl rfl dX8_shift_110 ?_
            refine lv_aload_n hx hb dX8_shift_113 rfl (lv_at hl 0 rfl) ?_
            refine r_get S gf_X8_57 hK hP 0 rfl rfl dX8_shift_114 ?_
            refine lv_iload_n hx hb dX8_shift_117 rfl (lv_at hl 1 rfl) ?_
            refine r_iald hx hb hK hP 14 rfl dX8_shift_118 h (fun y_31 h => ?_)
            refine lv_aload_n hx hb dX8_shift_119 rfl (lv_at hl 0 rfl) ?_
            refine r_get S gf_X8_60 hK hP 0 rfl rfl dX8_shift_120 ?_
            refine lv_iload_n hx hb dX8_shift_123 rfl (lv_at hl 1 rfl) ?_
            refine r_iald hx hb hK hP 15 rfl dX8_shift_124 h (fun y_32 h => ?_)
            obtain ⟨r_33, hq, h⟩ := bd1_e h
            refine cp_Si (rest := [.ref (ad 17)]) [] S hN cb_X8_voteAt ml_X8_167 ⟨Nat.le_of_ble_eq_true rfl, Nat.le_of_ble_eq_true rfl⟩ (c_X8_voteAt l G kc y_31 y_32 hq) hK hP hD hS hA rfl rfl rfl rfl rfl (Nat.le_of_ble_eq_true rfl) hl.1 dX8_shift_125 (fun H locs hP hD hS => ?_)
            have hP : VP G (mW o ad kc c_worked_1 c_width c_height c_grey c_setting c_leastOf c_mostOf c_lifted c_squares_2 c_square_3 c_dark_4 c_light_5 c_like_6 c_isCrowded_7 c_pairs_8 c_first_9 c_second_10 c_votes_11 c_shifts_12 c_shiftX_13 c_shiftY_14 c_regionAt_15 c_regions_16 c_regionShift_17 c_regionPairs_18 c_regionFirst_19 c_findings c_regionOf c_offset c_begun c_held c_isIn c_numbered c_left c_right c_top c_low c_missed) H := hP
            have hD : va_D A (mW o ad kc c_worked_1 c_width c_height c_grey c_setting c_leastOf c_mostOf c_lifted c_squares_2 c_square_3 c_dark_4 c_light_5 c_like_6 c_isCrowded_7 c_pairs_8 c_first_9 c_second_10 c_votes_11 c_shifts_12 c_shiftX_13 c_shiftY_14 c_regionAt_15 c_regions_16 c_regionShift_17 c_regionPairs_18 c_regionFirst_19 c_findings c_regionOf c_offset c_begun c_held c_isIn c_numbered c_left c_right c_top c_low c_missed) := hD
            refine r_iald hx hb hK hP 13 rfl dX8_shift_128 h (fun y_34 h => ?_)
            cases h
            exact ret_i hx hb hr rfl hQ hlocks hK hP hD hS dX8_shift_129
          · have h := it_f q_30 h
            by_cases q_35 : x2 = 3
            · have h := it_t q_35 h
              refine lv_tableIn (off := 70) (tgt := 130) hx hb dX8_shift_60 (by rw [q_35]; decide) (by rw [q_35]; decide) (by rw [q_35]; rfl) (by decide) ?_
              refine lv_iload_n hx hb dX8_shift_130 rfl (lv_at hl 3 rfl) ?_
              cases h
              exact ret_i hx hb hr rfl hQ hlocks hK hP hD hS dX8_shift_131
            · have h := it_f q_35 h
              have nq_26 := lv_neT (a := 0) q_26 (by decide)
              have nq_28 := lv_neT (a := 1) q_28 (by decide)
              have nq_30 := lv_neT (a := 2) q_30 (by decide)
              have nq_35 := lv_neT (a := 3) q_35 (by decide)
              refine lv_tableOut (tgt := 132) hx hb dX8_shift_60 (by omega) (by decide) ?_
              refine lv_bipush (v := (-2)) hx hb dX8_shift_132 (by decide) ?_
              cases h
              exact ret_i hx hb hr rfl hQ hlocks hK hP hD hS dX8_shift_134
    · intro k_23 K_24 h
      have L_25 : ∀ (n : Nat) (x3_21 : Int32) (x4_22 : Int32) (H : Heap) (locs : List Loc) (ls : Array Slot), VP G (mW o ad kc c_worked_1 c_width c_height c_grey c_setting c_leastOf c_mostOf c_lifted c_squares_2 c_square_3 c_dark_4 c_light_5 c_like_6 c_isCrowded_7 c_pairs_8 c_first_9 c_second_10 c_votes_11 c_shifts_12 c_shiftX_13 c_shiftY_14 c_regionAt_15 c_regions_16 c_regionShift_17 c_regionPairs_18 c_regionFirst_19 c_findings c_regionOf c_offset c_begun c_held c_isIn c_numbered c_left c_right c_top c_low c_missed) H → va_D A (mW o ad kc c_worked_1 c_width c_height c_grey c_setting c_leastOf c_mostOf c_lifted c_squares_2 c_square_3 c_dark_4 c_light_5 c_like_6 c_isCrowded_7 c_pairs_8 c_first_9 c_second_10 c_votes_11 c_shifts_12 c_shiftX_13 c_shiftY_14 c_regionAt_15 c_regions_16 c_regionShift_17 c_regionPairs_18 c_regionFirst_19 c_findings c_regionOf c_offset c_begun c_held c_isIn c_numbered c_left c_right c_top c_low c_missed) → va_S A s.heap H locs → lv_has ls 5 [(0, .ref o), (1, .int x1), (2, .int x2), (3, .int x3_21), (4, .int x4_22)] → f_X8_shift_L25 FU x1 c_regions_16 c_regionShift_17 k_23 n x3_21 x4_22 = some (r, c_worked', c_squares', c_square', c_dark', c_light', c_like', c_isCrowded', c_pairs', c_first', c_second', c_votes', c_shifts', c_shiftX', c_shiftY', c_regionAt', c_regions', c_regionShift', c_regionPairs', c_regionFirst') → WW p l e (rmq 7 162) s m args below meth c Q H locs 25 ls [] := by
        intro n
        induction n with
        | zero => intro x3_21 x4_22 H locs ls hP hD hS hl h; rw [f_X8_shift_L25] at h; cases h
        | succ n ih =>
          intro x3_21 x4_22 H locs ls hP hD hS hl h
          rw [f_X8_shift_L25] at h
          refine lv_iload hx hb dX8_shift_25 (lv_at hl 4 rfl) ?_
          refine lv_aload_n hx hb dX8_shift_27 rfl (lv_at hl 0 rfl) ?_
          refine r_get S gf_X8_189 hK hP 0 rfl rfl dX8_shift_28 ?_
          refine lv_icmp_ge (tgt := 59) hx hb dX8_shift_31 (by decide) (fun q_41 => ?_) (fun q_41 => ?_)
          · have h := it_t q_41 h
            exact K_24 x3_21 x4_22 _ _ _ hP hD hS (lv_sub hl [0, 1, 2, 3] rfl) h
          · have h := it_f q_41 h
            refine lv_iload_n hx hb dX8_shift_34 rfl (lv_at hl 3 rfl) ?_
            refine lv_aload_n hx hb dX8_shift_35 rfl (lv_at hl 0 rfl) ?_
            refine r_get S gf_X8_66 hK hP 0 rfl rfl dX8_shift_36 ?_
            refine lv_iload hx hb dX8_shift_39 (lv_at hl 4 rfl) ?_
            refine r_iald hx hb hK hP 17 rfl dX8_shift_41 h (fun y_36 h => ?_)
            refine lv_iload_n hx hb dX8_shift_42 rfl (lv_at hl 1 rfl) ?_
            refine jn_w (fun (k : Int32 → Option (Int32 × Int32 × Int32 × (Nat → Int32) × (Nat → Int32) × (Nat → Int32) × (Nat → Int32) × (Nat → Int32) × Int32 × (Nat → Int32) × (Nat → Int32) × (Nat → Int32) × Int32 × (Nat → Int32) × (Nat → Int32) × (Nat → Int32) × Int32 × (Nat → Int32) × (Nat → Int32) × (Nat → Int32))) => ∀ (t_37 : Int32) (H : Heap) (locs : List Loc) (ls : Array Slot), VP G (mW o ad kc c_worked_1 c_width c_height c_grey c_setting c_leastOf c_mostOf c_lifted c_squares_2 c_square_3 c_dark_4 c_light_5 c_like_6 c_isCrowded_7 c_pairs_8 c_first_9 c_second_10 c_votes_11 c_shifts_12 c_shiftX_13 c_shiftY_14 c_regionAt_15 c_regions_16 c_regionShift_17 c_regionPairs_18 c_regionFirst_19 c_findings c_regionOf c_offset c_begun c_held c_isIn c_numbered c_left c_right c_top c_low c_missed) H → va_D A (mW o ad kc c_worked_1 c_width c_height c_grey c_setting c_leastOf c_mostOf c_lifted c_squares_2 c_square_3 c_dark_4 c_light_5 c_like_6 c_isCrowded_7 c_pairs_8 c_first_9 c_second_10 c_votes_11 c_shifts_12 c_shiftX_13 c_shiftY_14 c_regionAt_15 c_regions_16 c_regionShift_17 c_regionPairs_18 c_regionFirst_19 c_findings c_regionOf c_offset c_begun c_held c_isIn c_numbered c_left c_right c_top c_low c_missed) → va_S A s.heap H locs → lv_has ls 5 [(0, .ref o), (1, .int x1), (2, .int x2), (4, .int x4_22)] → k t_37 = some (r, c_worked', c_squares', c_square', c_dark', c_light', c_like', c_isCrowded', c_pairs', c_first', c_second', c_votes', c_shifts', c_shiftX', c_shiftY', c_regionAt', c_regions', c_regionShift', c_regionPairs', c_regionFirst') → WW p l e (rmq 7 162) s m args below meth c Q H locs 51 ls [.int t_37, .int x3_21]) h ?_ ?_
            · intro t_37 H locs ls hP hD hS hl h
              refine lv_iadd hx hb dX8_shift_51 ?_
              refine lv_istore_n (lv' := [(3, .int (x3_21 + t_37)), (0, .ref o), (1, .int x1), (2, .int x2), (4, .int x4_22)]) hx hb dX8_shift_52 rfl hl (by decide) rfl (fun ls hl => ?_)
              refine lv_iinc (v := (x4_22 + 1)) (lv' := [(4, .int (x4_22 + 1)), (3, .int (x3_21 + t_37)), (0, .ref o), (1, .int x1), (2, .int x2)]) hx hb dX8_shift_53 hl (k := 4) rfl rfl (by decide) rfl (fun ls hl => ?_)
              refine lv_goto (tgt := 25) hx hb dX8_shift_56 (by decide) ?_
              exact ih (x3_21 + t_37) (x4_22 + 1) _ _ _ hP hD hS (lv_sub hl [2, 3, 4, 1, 0] rfl) h
            · intro j_38 J_39 h
              refine lv_icmp_ne (tgt := 50) hx hb dX8_shift_43 (by decide) (fun q_40 => ?_) (fun q_40 => ?_)
              · have h := it_f q_40 h
                refine lv_iconst (v := 0) hx hb dX8_shift_50 (by decide) ?_
                exact J_39 0 _ _ _ hP hD hS (lv_sub hl [0, 1, 2, 4] rfl) h
              · have h := it_t q_40 h
                refine lv_iconst (v := 1) hx hb dX8_shift_46 (by decide) ?_
                refine lv_goto (tgt := 51) hx hb dX8_shift_47 (by decide) ?_
                exact J_39 1 _ _ _ hP hD hS (lv_sub hl [0, 1, 2, 4] rfl) h
      exact L_25 FU 0 0 _ _ _ hP hD hS (lv_sub hl [2, 3, 4, 1, 0] rfl) h
  · have h := it_t q_42 h
    refine lv_iconst (v := (-1)) hx hb dX8_shift_18 (by decide) ?_
    cases h
    exact ret_i hx hb hr rfl hQ hlocks hK hP hD hS dX8_shift_19
set_option maxHeartbeats 1000000 in
set_option maxRecDepth 100000 in
theorem c_X8_isTaken (l : Launch) (G : va_G) (kc : Nat → ClassId) (o : Nat) (ad : Nat → Nat) {c_worked : Int32} {c_width : Int32} {c_height : Int32} {c_grey : (Nat → Int32)} {c_setting : (Nat → Int32)} {c_leastOf : (Nat → Int32)} {c_mostOf : (Nat → Int32)} {c_lifted : (Nat → Int32)} {c_squares : Int32} {c_square : (Nat → Int32)} {c_dark : (Nat → Int32)} {c_light : (Nat → Int32)} {c_like : (Nat → Int32)} {c_isCrowded : (Nat → Int32)} {c_pairs : Int32} {c_first : (Nat → Int32)} {c_second : (Nat → Int32)} {c_votes : (Nat → Int32)} {c_shifts : Int32} {c_shiftX : (Nat → Int32)} {c_shiftY : (Nat → Int32)} {c_regionAt : (Nat → Int32)} {c_regions : Int32} {c_regionShift : (Nat → Int32)} {c_regionPairs : (Nat → Int32)} {c_regionFirst : (Nat → Int32)} {c_findings : Int32} {c_regionOf : (Nat → Int32)} {c_offset : (Nat → Int32)} {c_begun : (Nat → Int32)} {c_held : (Nat → Int32)} {c_isIn : (Nat → Int32)} {c_numbered : (Nat → Int32)} {c_left : Int32} {c_right : Int32} {c_top : Int32} {c_low : Int32} {c_missed : Int32} (x1 : Int32) {r : Int32} {FU : Nat} (h : f_X8_isTaken FU c_findings c_regionOf x1 = some r) : CTi l G kc yX8_isTaken cX8_isTaken 3 (some .boolean) (rmq 0 0) [.ref o, .int x1] (mW o ad kc c_worked c_width c_height c_grey c_setting c_leastOf c_mostOf c_lifted c_squares c_square c_dark c_light c_like c_isCrowded c_pairs c_first c_second c_votes c_shifts c_shiftX c_shiftY c_regionAt c_regions c_regionShift c_regionPairs c_regionFirst c_findings c_regionOf c_offset c_begun c_held c_isIn c_numbered c_left c_right c_top c_low c_missed) (mW o ad kc c_worked c_width c_height c_grey c_setting c_leastOf c_mostOf c_lifted c_squares c_square c_dark c_light c_like c_isCrowded c_pairs c_first c_second c_votes c_shifts c_shiftX c_shiftY c_regionAt c_regions c_regionShift c_regionPairs c_regionFirst c_findings c_regionOf c_offset c_begun c_held c_isIn c_numbered c_left c_right c_top c_low c_missed) r := by
  refine CTi.mk (by decide) (Nat.le_of_ble_eq_true rfl) ?_
  intro p e s m args below meth c A ls Q hQ S hr hlocks hN hA hK hl hP hD hS
  have hx := S.1
  have hb := S.2.1
  have hl : lv_has ls 3 [(0, .ref o), (1, .int x1)] := hl
  unfold f_X8_isTaken at h
  refine lv_iconst (v := 0) hx hb dX8_isTaken_0 (by decide) ?_
  refine lv_istore_n (lv' := [(2, .int 0), (0, .ref o), (1, .int x1)]) hx hb dX8_isTaken_1 rfl hl (by decide) rfl (fun ls hl => ?_)
  refine jn_w (t := fun k => f_X8_isTaken_L2 FU x1 c_findings c_regionOf k FU 0) (fun (k : Int32 → Option (Int32)) => ∀ (x2_1 : Int32) (H : Heap) (locs : List Loc) (ls : Array Slot), VP G (mW o ad kc c_worked c_width c_height c_grey c_setting c_leastOf c_mostOf c_lifted c_squares c_square c_dark c_light c_like c_isCrowded c_pairs c_first c_second c_votes c_shifts c_shiftX c_shiftY c_regionAt c_regions c_regionShift c_regionPairs c_regionFirst c_findings c_regionOf c_offset c_begun c_held c_isIn c_numbered c_left c_right c_top c_low c_missed) H → va_D A (mW o ad kc c_worked c_width c_height c_grey c_setting c_leastOf c_mostOf c_lifted c_squares c_square c_dark c_light c_like c_isCrowded c_pairs c_first c_second c_votes c_shifts c_shiftX c_shiftY c_regionAt c_regions c_regionShift c_regionPairs c_regionFirst c_findings c_regionOf c_offset c_begun c_held c_isIn c_numbered c_left c_right c_top c_low c_missed) → va_S A s.heap H locs → lv_has ls 3 [] → k x2_1 = some r → WW p l e (rmq 0 0) s m args below meth c Q H locs 28 ls []) h ?_ ?_
  · intro x2_1 H locs ls hP hD hS hl h
    refine lv_iconst (v := 0) hx hb dX8_isTaken_28 (by decide) ?_
    cases h
    exact ret_i hx hb hr rfl hQ hlocks hK hP hD hS dX8_isTaken_29
  · intro k_2 K_3 h
    have L_4 : ∀ (n : Nat) (x2_1 : Int32) (H : Heap) (locs : List Loc) (ls : Array Slot), VP G (mW o ad kc c_worked c_width c_height c_grey c_setting c_leastOf c_mostOf c_lifted c_squares c_square c_dark c_light c_like c_isCrowded c_pairs c_first c_second c_votes c_shifts c_shiftX c_shiftY c_regionAt c_regions c_regionShift c_regionPairs c_regionFirst c_findings c_regionOf c_offset c_begun c_held c_isIn c_numbered c_left c_right c_top c_low c_missed) H → va_D A (mW o ad kc c_worked c_width c_height c_grey c_setting c_leastOf c_mostOf c_lifted c_squares c_square c_dark c_light c_like c_isCrowded c_pairs c_first c_second c_votes c_shifts c_shiftX c_shiftY c_regionAt c_regions c_regionShift c_regionPairs c_regionFirst c_findings c_regionOf c_offset c_begun c_held c_isIn c_numbered c_left c_right c_top c_low c_missed) → va_S A s.heap H locs → lv_has ls 3 [(0, .ref o), (1, .int x1), (2, .int x2_1)] → f_X8_isTaken_L2 FU x1 c_findings c_regionOf k_2 n x2_1 = some r → WW p l e (rmq 0 0) s m args below meth c Q H locs 2 ls [] := by
      intro n
      induction n with
      | zero => intro x2_1 H locs ls hP hD hS hl h; rw [f_X8_isTaken_L2] at h; cases h
      | succ n ih =>
        intro x2_1 H locs ls hP hD hS hl h
        rw [f_X8_isTaken_L2] at h
        refine lv_iload_n hx hb dX8_isTaken_2 rfl (lv_at hl 2 rfl) ?_
        refine lv_aload_n hx hb dX8_isTaken_3 rfl (lv_at hl 0 rfl) ?_
        refine r_get S gf_X8_199 hK hP 0 rfl rfl dX8_isTaken_4 ?_
        refine lv_icmp_ge (tgt := 28) hx hb dX8_isTaken_7 (by decide) (fun q_7 => ?_) (fun q_7 => ?_)
        · have h := it_t q_7 h
          exact K_3 x2_1 _ _ _ hP hD hS (lv_sub hl [] rfl) h
        · have h := it_f q_7 h
          refine lv_aload_n hx hb dX8_isTaken_10 rfl (lv_at hl 0 rfl) ?_
          refine r_get S gf_X8_75 hK hP 0 rfl rfl dX8_isTaken_11 ?_
          refine lv_iload_n hx hb dX8_isTaken_14 rfl (lv_at hl 2 rfl) ?_
          refine r_iald hx hb hK hP 20 rfl dX8_isTaken_15 h (fun y_5 h => ?_)
          refine lv_iload_n hx hb dX8_isTaken_16 rfl (lv_at hl 1 rfl) ?_
          refine lv_icmp_ne (tgt := 22) hx hb dX8_isTaken_17 (by decide) (fun q_6 => ?_) (fun q_6 => ?_)
          · have h := it_f q_6 h
            refine lv_iinc (v := (x2_1 + 1)) (lv' := [(2, .int (x2_1 + 1)), (0, .ref o), (1, .int x1)]) hx hb dX8_isTaken_22 hl (k := 2) rfl rfl (by decide) rfl (fun ls hl => ?_)
            refine lv_goto (tgt := 2) hx hb dX8_isTaken_25 (by decide) ?_
            exact ih (x2_1 + 1) _ _ _ hP hD hS (lv_sub hl [1, 2, 0] rfl) h
          · have h := it_t q_6 h
            refine lv_iconst (v := 1) hx hb dX8_isTaken_20 (by decide) ?_
            cases h
            exact ret_i hx hb hr rfl hQ hlocks hK hP hD hS dX8_isTaken_21
    exact L_4 FU 0 _ _ _ hP hD hS (lv_sub hl [1, 2, 0] rfl) h
