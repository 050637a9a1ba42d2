set_option maxHeartbeats 1000000 in
set_option maxRecDepth 100000 in
theorem c_X8_within (l : Launch) (G : va_G) (kc : Nat → ClassId)   (x0 : Int32) (x1 : Int32) (x2 : Int32) {r : Int32} {FU : Nat} (h : f_X8_within FU x0 x1 x2 = some r) : CTi l G kc yX8_within cX8_within 3 (some .boolean) (rmq 0 0) [.int x0, .int x1, .int x2] ([]) ([]) r := by
  refine CTi.mk (by decide) (Nat.le_of_ble_eq_true rfl) ?_
  intro p e s m args below meth c A ls Q hQ S hr hlocks hN hA hK hl hP hD hS
  have hx := S.1
  have hb := S.2.1
  have hl : lv_has ls 3 [(0, .int x0), (1, .int x1), (2, .int x2)] := hl
  unfold f_X8_within at h
  refine lv_iload_n hx hb dX8_within_0 rfl (lv_at hl 0 rfl) ?_
  refine lv_iload_n hx hb dX8_within_1 rfl (lv_at hl 1 rfl) ?_
  refine lv_icmp_lt (tgt := 14) hx hb dX8_within_2 (by decide) (fun q_2 => ?_) (fun q_2 => ?_)
  · have h := it_t q_2 h
    refine lv_iconst (v := 0) hx hb dX8_within_14 (by decide) ?_
    cases h
    exact ret_i hx hb hr rfl hQ hlocks hK hP hD hS dX8_within_15
  · have h := it_f q_2 h
    refine lv_iload_n hx hb dX8_within_5 rfl (lv_at hl 0 rfl) ?_
    refine lv_iload_n hx hb dX8_within_6 rfl (lv_at hl 2 rfl) ?_
    refine lv_icmp_gt (tgt := 14) hx hb dX8_within_7 (by decide) (fun q_1 => ?_) (fun q_1 => ?_)
    · have h := it_t q_1 h
      refine lv_iconst (v := 0) hx hb dX8_within_14 (by decide) ?_
      cases h
      exact ret_i hx hb hr rfl hQ hlocks hK hP hD hS dX8_within_15
    · have h := it_f q_1 h
      refine lv_iconst (v := 1) hx hb dX8_within_10 (by decide) ?_
      refine lv_goto (tgt := 15) hx hb dX8_within_11 (by decide) ?_
      cases h
      exact ret_i hx hb hr rfl hQ hlocks hK hP hD hS dX8_within_15
set_option maxHeartbeats 1000000 in
set_option maxRecDepth 100000 in
theorem c_X8_changed (l : Launch) (G : va_G) (kc : Nat → ClassId) (o : Nat) (ad : Nat → Nat) {c_worked : Int32} {c_width : Int32} {c_height : Int32} {c_grey : (Nat → Int32)} {c_setting : (Nat → Int32)} {c_leastOf : (Nat → Int32)} {c_mostOf : (Nat → Int32)} {c_lifted : (Nat → Int32)} {c_squares : Int32} {c_square : (Nat → Int32)} {c_dark : (Nat → Int32)} {c_light : (Nat → Int32)} {c_like : (Nat → Int32)} {c_isCrowded : (Nat → Int32)} {c_pairs : Int32} {c_first : (Nat → Int32)} {c_second : (Nat → Int32)} {c_votes : (Nat → Int32)} {c_shifts : Int32} {c_shiftX : (Nat → Int32)} {c_shiftY : (Nat → Int32)} {c_regionAt : (Nat → Int32)} {c_regions : Int32} {c_regionShift : (Nat → Int32)} {c_regionPairs : (Nat → Int32)} {c_regionFirst : (Nat → Int32)} {c_findings : Int32} {c_regionOf : (Nat → Int32)} {c_offset : (Nat → Int32)} {c_begun : (Nat → Int32)} {c_held : (Nat → Int32)} {c_isIn : (Nat → Int32)} {c_numbered : (Nat → Int32)} {c_left : Int32} {c_right : Int32} {c_top : Int32} {c_low : Int32} {c_missed : Int32} (x1 : Int32) {r : Int32} {c_worked' : Int32} {FU : Nat} (h : f_X8_changed FU c_worked x1 = some (r, c_worked')) : CTi l G kc yX8_changed cX8_changed 2 (some .int) (rmq 0 0) [.ref o, .int x1] (mW o ad kc c_worked c_width c_height c_grey c_setting c_leastOf c_mostOf c_lifted c_squares c_square c_dark c_light c_like c_isCrowded c_pairs c_first c_second c_votes c_shifts c_shiftX c_shiftY c_regionAt c_regions c_regionShift c_regionPairs c_regionFirst c_findings c_regionOf c_offset c_begun c_held c_isIn c_numbered c_left c_right c_top c_low c_missed) (mW o ad kc (c_worked') c_width c_height c_grey c_setting c_leastOf c_mostOf c_lifted c_squares c_square c_dark c_light c_like c_isCrowded c_pairs c_first c_second c_votes c_shifts c_shiftX c_shiftY c_regionAt c_regions c_regionShift c_regionPairs c_regionFirst c_findings c_regionOf c_offset c_begun c_held c_isIn c_numbered c_left c_right c_top c_low c_missed) r := by
  refine CTi.mk (by decide) (Nat.le_of_ble_eq_true rfl) ?_
  intro p e s m args below meth c A ls Q hQ S hr hlocks hN hA hK hl hP hD hS
  have hx := S.1
  have hb := S.2.1
  have hl : lv_has ls 2 [(0, .ref o), (1, .int x1)] := hl
  unfold f_X8_changed at h
  refine lv_aload_n hx hb dX8_changed_0 rfl (lv_at hl 0 rfl) ?_
  refine lv_iconst (v := 0) hx hb dX8_changed_1 (by decide) ?_
  refine r_put S pf_X8_93 hK hP hD hS 0 rfl (Nat.le_of_ble_eq_true rfl) dX8_changed_2 (fun H locs hP hD hS => ?_)
  have hP : VP G (mW o ad kc 0 c_width c_height c_grey c_setting c_leastOf c_mostOf c_lifted c_squares c_square c_dark c_light c_like c_isCrowded c_pairs c_first c_second c_votes c_shifts c_shiftX c_shiftY c_regionAt c_regions c_regionShift c_regionPairs c_regionFirst c_findings c_regionOf c_offset c_begun c_held c_isIn c_numbered c_left c_right c_top c_low c_missed) H := hP
  have hD : va_D A (mW o ad kc 0 c_width c_height c_grey c_setting c_leastOf c_mostOf c_lifted c_squares c_square c_dark c_light c_like c_isCrowded c_pairs c_first c_second c_votes c_shifts c_shiftX c_shiftY c_regionAt c_regions c_regionShift c_regionPairs c_regionFirst c_findings c_regionOf c_offset c_begun c_held c_isIn c_numbered c_left c_right c_top c_low c_missed) := hD
  refine lv_iload_n hx hb dX8_changed_5 rfl (lv_at hl 1 rfl) ?_
  cases h
  exact ret_i hx hb hr rfl hQ hlocks hK hP hD hS dX8_changed_6
set_option maxHeartbeats 1000000 in
set_option maxRecDepth 100000 in
theorem c_X8_size (l : Launch) (G : va_G) (kc : Nat → ClassId)   (x0 : Int32) {r : Int32} {FU : Nat} (h : f_X8_size FU x0 = some r) : CTi l G kc yX8_size cX8_size 1 (some .int) (rmq 0 0) [.int x0] ([]) ([]) r := by
  refine CTi.mk (by decide) (Nat.le_of_ble_eq_true rfl) ?_
  intro p e s m args below meth c A ls Q hQ S hr hlocks hN hA hK hl hP hD hS
  have hx := S.1
  have hb := S.2.1
  have hl : lv_has ls 1 [(0, .int x0)] := hl
  unfold f_X8_size at h
  refine lv_iload_n hx hb dX8_size_0 rfl (lv_at hl 0 rfl) ?_
  refine lv_if_ge (tgt := 9) hx hb dX8_size_1 (by decide) (fun q_1 => ?_) (fun q_1 => ?_)
  · have h := it_t q_1 h
    refine lv_iload_n hx hb dX8_size_9 rfl (lv_at hl 0 rfl) ?_
    cases h
    exact ret_i hx hb hr rfl hQ hlocks hK hP hD hS dX8_size_10
  · have h := it_f q_1 h
    refine lv_iload_n hx hb dX8_size_4 rfl (lv_at hl 0 rfl) ?_
    refine lv_ineg hx hb dX8_size_5 ?_
    refine lv_goto (tgt := 10) hx hb dX8_size_6 (by decide) ?_
    cases h
    exact ret_i hx hb hr rfl hQ hlocks hK hP hD hS dX8_size_10
set_option maxHeartbeats 1000000 in
set_option maxRecDepth 100000 in
theorem c_X8_isPlace (l : Launch) (G : va_G) (kc : Nat → ClassId) (o : Nat) (ad : Nat → Nat) {c_worked : Int32} {c_width : Int32} {c_height : Int32} {c_grey : (Nat → Int32)} {c_setting : (Nat → Int32)} {c_leastOf : (Nat → Int32)} {c_mostOf : (Nat → Int32)} {c_lifted : (Nat → Int32)} {c_squares : Int32} {c_square : (Nat → Int32)} {c_dark : (Nat → Int32)} {c_light : (Nat → Int32)} {c_like : (Nat → Int32)} {c_isCrowded : (Nat → Int32)} {c_pairs : Int32} {c_first : (Nat → Int32)} {c_second : (Nat → Int32)} {c_votes : (Nat → Int32)} {c_shifts : Int32} {c_shiftX : (Nat → Int32)} {c_shiftY : (Nat → Int32)} {c_regionAt : (Nat → Int32)} {c_regions : Int32} {c_regionShift : (Nat → Int32)} {c_regionPairs : (Nat → Int32)} {c_regionFirst : (Nat → Int32)} {c_findings : Int32} {c_regionOf : (Nat → Int32)} {c_offset : (Nat → Int32)} {c_begun : (Nat → Int32)} {c_held : (Nat → Int32)} {c_isIn : (Nat → Int32)} {c_numbered : (Nat → Int32)} {c_left : Int32} {c_right : Int32} {c_top : Int32} {c_low : Int32} {c_missed : Int32} (x1 : Int32) (x2 : Int32) {r : Int32} {FU : Nat} (h : f_X8_isPlace FU c_width c_height x1 x2 = some r) : CTi l G kc yX8_isPlace cX8_isPlace 3 (some .boolean) (rmq 1 22) [.ref o, .int x1, .int x2] (mW o ad kc c_worked c_width c_height c_grey c_setting c_leastOf c_mostOf c_lifted c_squares c_square c_dark c_light c_like c_isCrowded c_pairs c_first c_second c_votes c_shifts c_shiftX c_shiftY c_regionAt c_regions c_regionShift c_regionPairs c_regionFirst c_findings c_regionOf c_offset c_begun c_held c_isIn c_numbered c_left c_right c_top c_low c_missed) (mW o ad kc c_worked c_width c_height c_grey c_setting c_leastOf c_mostOf c_lifted c_squares c_square c_dark c_light c_like c_isCrowded c_pairs c_first c_second c_votes c_shifts c_shiftX c_shiftY c_regionAt c_regions c_regionShift c_regionPairs c_regionFirst c_findings c_regionOf c_offset c_begun c_held c_isIn c_numbered c_left c_right c_top c_low c_missed) r := by
  refine CTi.mk (by decide) (Nat.le_of_ble_eq_true rfl) ?_
  intro p e s m args below meth c A ls Q hQ S hr hlocks hN hA hK hl hP hD hS
  have hx := S.1
  have hb := S.2.1
  have hl : lv_has ls 3 [(0, .ref o), (1, .int x1), (2, .int x2)] := hl
  unfold f_X8_isPlace at h
  refine lv_iload_n hx hb dX8_isPlace_0 rfl (lv_at hl 1 rfl) ?_
  refine lv_iconst (v := 0) hx hb dX8_isPlace_1 (by decide) ?_
  refine lv_aload_n hx hb dX8_isPlace_2 rfl (lv_at hl 0 rfl) ?_
  refine r_get S gf_X8_7 hK hP 0 rfl rfl dX8_isPlace_3 ?_
  refine lv_iconst (v := 1) hx hb dX8_isPlace_6 (by decide) ?_
  refine lv_isub hx hb dX8_isPlace_7 ?_
  obtain ⟨r_1, hq, h⟩ := bd1_e h
  refine cp_Si (rest := []) [] S hN cb_X8_within ml_X8_96 ⟨Nat.le_of_ble_eq_true rfl, Nat.le_of_ble_eq_true rfl⟩ (c_X8_within l G kc x1 0 (c_width - 1) hq) hK hP hD hS hA rfl rfl rfl rfl rfl (Nat.le_of_ble_eq_true rfl) hl.1 dX8_isPlace_8 (fun H locs hP hD hS => ?_)
  have hP : VP G (mW o ad kc c_worked c_width c_height c_grey c_setting c_leastOf c_mostOf c_lifted c_squares c_square c_dark c_light c_like c_isCrowded c_pairs c_first c_second c_votes c_shifts c_shiftX c_shiftY c_regionAt c_regions c_regionShift c_regionPairs c_regionFirst c_findings c_regionOf c_offset c_begun c_held c_isIn c_numbered c_left c_right c_top c_low c_missed) H := hP
  have hD : va_D A (mW o ad kc c_worked c_width c_height c_grey c_setting c_leastOf c_mostOf c_lifted c_squares c_square c_dark c_light c_like c_isCrowded c_pairs c_first c_second c_votes c_shifts c_shiftX c_shiftY c_regionAt c_regions c_regionShift c_regionPairs c_regionFirst c_findings c_regionOf c_offset c_begun c_held c_isIn c_numbered c_left c_right c_top c_low c_missed) := hD
  refine lv_if_eq (tgt := 32) hx hb dX8_isPlace_11 (by decide) (fun q_4 => ?_) (fun q_4 => ?_)
  · have h := it_t q_4 h
    refine lv_iconst (v := 0) hx hb dX8_isPlace_32 (by decide) ?_
    cases h
    exact ret_i hx hb hr rfl hQ hlocks hK hP hD hS dX8_isPlace_33
  · have h := it_f q_4 h
    refine lv_iload_n hx hb dX8_isPlace_14 rfl (lv_at hl 2 rfl) ?_
    refine lv_iconst (v := 0) hx hb dX8_isPlace_15 (by decide) ?_
    refine lv_aload_n hx hb dX8_isPlace_16 rfl (lv_at hl 0 rfl) ?_
    refine r_get S gf_X8_13 hK hP 0 rfl rfl dX8_isPlace_17 ?_
    refine lv_iconst (v := 1) hx hb dX8_isPlace_20 (by decide) ?_
    refine lv_isub hx hb dX8_isPlace_21 ?_
    obtain ⟨r_2, hq, h⟩ := bd1_e h
    refine cp_Si (rest := []) [] S hN cb_X8_within ml_X8_96 ⟨Nat.le_of_ble_eq_true rfl, Nat.le_of_ble_eq_true rfl⟩ (c_X8_within l G kc x2 0 (c_height - 1) hq) hK hP hD hS hA rfl rfl rfl rfl rfl (Nat.le_of_ble_eq_true rfl) hl.1 dX8_isPlace_22 (fun H locs hP hD hS => ?_)
    have hP : VP G (mW o ad kc c_worked c_width c_height c_grey c_setting c_leastOf c_mostOf c_lifted c_squares c_square c_dark c_light c_like c_isCrowded c_pairs c_first c_second c_votes c_shifts c_shiftX c_shiftY c_regionAt c_regions c_regionShift c_regionPairs c_regionFirst c_findings c_regionOf c_offset c_begun c_held c_isIn c_numbered c_left c_right c_top c_low c_missed) H := hP
    have hD : va_D A (mW o ad kc c_worked c_width c_height c_grey c_setting c_leastOf c_mostOf c_lifted c_squares c_square c_dark c_light c_like c_isCrowded c_pairs c_first c_second c_votes c_shifts c_shiftX c_shiftY c_regionAt c_regions c_regionShift c_regionPairs c_regionFirst c_findings c_regionOf c_offset c_begun c_held c_isIn c_numbered c_left c_right c_top c_low c_missed) := hD
    refine lv_if_eq (tgt := 32) hx hb dX8_isPlace_25 (by decide) (fun q_3 => ?_) (fun q_3 => ?_)
    · have h := it_t q_3 h
      refine lv_iconst (v := 0) hx hb dX8_isPlace_32 (by decide) ?_
      cases h
      exact ret_i hx hb hr rfl hQ hlocks hK hP hD hS dX8_isPlace_33
    · have h := it_f q_3 h
      refine lv_iconst (v := 1) hx hb dX8_isPlace_28 (by decide) ?_
      refine lv_goto (tgt := 33) hx hb dX8_isPlace_29 (by decide) ?_
      cases h
      exact ret_i hx hb hr rfl hQ hlocks hK hP hD hS dX8_isPlace_33
set_option maxHeartbeats 1000000 in
set_option maxRecDepth 100000 in
theorem c_X8_picture (l : Launch) (G : va_G) (kc : Nat → ClassId) (o : Nat) (ad : Nat → Nat) {c_worked : Int32} {c_width : Int32} {c_height : Int32} {c_grey : (Nat → Int32)} {c_setting : (Nat → Int32)} {c_leastOf : (Nat → Int32)} {c_mostOf : (Nat → Int32)} {c_lifted : (Nat → Int32)} {c_squares : Int32} {c_square : (Nat → Int32)} {c_dark : (Nat → Int32)} {c_light : (Nat → Int32)} {c_like : (Nat → Int32)} {c_isCrowded : (Nat → Int32)} {c_pairs : Int32} {c_first : (Nat → Int32)} {c_second : (Nat → Int32)} {c_votes : (Nat → Int32)} {c_shifts : Int32} {c_shiftX : (Nat → Int32)} {c_shiftY : (Nat → Int32)} {c_regionAt : (Nat → Int32)} {c_regions : Int32} {c_regionShift : (Nat → Int32)} {c_regionPairs : (Nat → Int32)} {c_regionFirst : (Nat → Int32)} {c_findings : Int32} {c_regionOf : (Nat → Int32)} {c_offset : (Nat → Int32)} {c_begun : (Nat → Int32)} {c_held : (Nat → Int32)} {c_isIn : (Nat → Int32)} {c_numbered : (Nat → Int32)} {c_left : Int32} {c_right : Int32} {c_top : Int32} {c_low : Int32} {c_missed : Int32} (x1 : Int32) (x2 : Int32) {r : Int32} {c_worked' : Int32} {c_width' : Int32} {c_height' : Int32} {c_grey' : (Nat → Int32)} {FU : Nat} (h : f_X8_picture FU c_worked c_width c_height c_grey x1 x2 = some (r, c_worked', c_width', c_height', c_grey')) : CTi l G kc yX8_picture cX8_picture 4 (some .int) (rmq 1 22) [.ref o, .int x1, .int x2] (mW o ad kc c_worked c_width c_height c_grey c_setting c_leastOf c_mostOf c_lifted c_squares c_square c_dark c_light c_like c_isCrowded c_pairs c_first c_second c_votes c_shifts c_shiftX c_shiftY c_regionAt c_regions c_regionShift c_regionPairs c_regionFirst c_findings c_regionOf c_offset c_begun c_held c_isIn c_numbered c_left c_right c_top c_low c_missed) (mW o ad kc (c_worked') (c_width') (c_height') (c_grey') c_setting c_leastOf c_mostOf c_lifted c_squares c_square c_dark c_light c_like c_isCrowded c_pairs c_first c_second c_votes c_shifts c_shiftX c_shiftY c_regionAt c_regions c_regionShift c_regionPairs c_regionFirst c_findings c_regionOf c_offset c_begun c_held c_isIn c_numbered c_left c_right c_top c_low c_missed) r := by
  refine CTi.mk (by decide) (Nat.le_of_ble_eq_true rfl) ?_
  intro p e s m args below meth c A ls Q hQ S hr hlocks hN hA hK hl hP hD hS
  have hx := S.1
  have hb := S.2.1
  have hl : lv_has ls 4 [(0, .ref o), (1, .int x1), (2, .int x2)] := hl
  unfold f_X8_picture at h
  refine lv_iload_n hx hb dX8_picture_0 rfl (lv_at hl 1 rfl) ?_
  refine lv_iconst (v := 1) hx hb dX8_picture_1 (by decide) ?_
  refine lv_bipush (v := 16) hx hb dX8_picture_2 (by decide) ?_
  obtain ⟨r_1, hq, h⟩ := bd1_e h
  refine cp_Si (rest := []) [] S hN cb_X8_within ml_X8_96 ⟨Nat.le_of_ble_eq_true rfl, Nat.le_of_ble_eq_true rfl⟩ (c_X8_within l G kc x1 1 16 hq) hK hP hD hS hA rfl rfl rfl rfl rfl (Nat.le_of_ble_eq_true rfl) hl.1 dX8_picture_4 (fun H locs hP hD hS => ?_)
  have hP : VP G (mW o ad kc c_worked c_width c_height c_grey c_setting c_leastOf c_mostOf c_lifted c_squares c_square c_dark c_light c_like c_isCrowded c_pairs c_first c_second c_votes c_shifts c_shiftX c_shiftY c_regionAt c_regions c_regionShift c_regionPairs c_regionFirst c_findings c_regionOf c_offset c_begun c_held c_isIn c_numbered c_left c_right c_top c_low c_missed) H := hP
  have hD : va_D A (mW o ad kc c_worked c_width c_height c_grey c_setting c_leastOf c_mostOf c_lifted c_squares c_square c_dark c_light c_like c_isCrowded c_pairs c_first c_second c_votes c_shifts c_shiftX c_shiftY c_regionAt c_regions c_regionShift c_regionPairs c_regionFirst c_findings c_regionOf c_offset c_begun c_held c_isIn c_numbered c_left c_right c_top c_low c_missed) := hD
  refine lv_if_eq (tgt := 20) hx hb dX8_picture_7 (by decide) (fun q_13 => ?_) (fun q_13 => ?_)
  · have h := it_t q_13 h
    refine lv_bipush (v := (-2)) hx hb dX8_picture_20 (by decide) ?_
    cases h
    exact ret_i hx hb hr rfl hQ hlocks hK hP hD hS dX8_picture_22
  · have h := it_f q_13 h
    refine lv_iload_n hx hb dX8_picture_10 rfl (lv_at hl 2 rfl) ?_
    refine lv_iconst (v := 1) hx hb dX8_picture_11 (by decide) ?_
    refine lv_bipush (v := 16) hx hb dX8_picture_12 (by decide) ?_
    obtain ⟨r_2, hq, h⟩ := bd1_e h
    refine cp_Si (rest := []) [] S hN cb_X8_within ml_X8_96 ⟨Nat.le_of_ble_eq_true rfl, Nat.le_of_ble_eq_true rfl⟩ (c_X8_within l G kc x2 1 16 hq) hK hP hD hS hA rfl rfl rfl rfl rfl (Nat.le_of_ble_eq_true rfl) hl.1 dX8_picture_14 (fun H locs hP hD hS => ?_)
    have hP : VP G (mW o ad kc c_worked c_width c_height c_grey c_setting c_leastOf c_mostOf c_lifted c_squares c_square c_dark c_light c_like c_isCrowded c_pairs c_first c_second c_votes c_shifts c_shiftX c_shiftY c_regionAt c_regions c_regionShift c_regionPairs c_regionFirst c_findings c_regionOf c_offset c_begun c_held c_isIn c_numbered c_left c_right c_top c_low c_missed) H := hP
    have hD : va_D A (mW o ad kc c_worked c_width c_height c_grey c_setting c_leastOf c_mostOf c_lifted c_squares c_square c_dark c_light c_like c_isCrowded c_pairs c_first c_second c_votes c_shifts c_shiftX c_shiftY c_regionAt c_regions c_regionShift c_regionPairs c_regionFirst c_findings c_regionOf c_offset c_begun c_held c_isIn c_numbered c_left c_right c_top c_low c_missed) := hD
    refine lv_if_ne (tgt := 23) hx hb dX8_picture_17 (by decide) (fun q_12 => ?_) (fun q_12 => ?_)
    · have h := it_f q_12 h
      refine lv_aload_n hx hb dX8_picture_23 rfl (lv_at hl 0 rfl) ?_
      refine lv_iload_n hx hb dX8_picture_24 rfl (lv_at hl 1 rfl) ?_
      refine r_put S pf_X8_7 hK hP hD hS 0 rfl (Nat.le_of_ble_eq_true rfl) dX8_picture_25 (fun H locs hP hD hS => ?_)
      have hP : VP G (mW o ad kc c_worked x1 c_height c_grey c_setting c_leastOf c_mostOf c_lifted c_squares c_square c_dark c_light c_like c_isCrowded c_pairs c_first c_second c_votes c_shifts c_shiftX c_shiftY c_regionAt c_regions c_regionShift c_regionPairs c_regionFirst c_findings c_regionOf c_offset c_begun c_held c_isIn c_numbered c_left c_right c_top c_low c_missed) H := hP
      have hD : va_D A (mW o ad kc c_worked x1 c_height c_grey c_setting c_leastOf c_mostOf c_lifted c_squares c_square c_dark c_light c_like c_isCrowded c_pairs c_first c_second c_votes c_shifts c_shiftX c_shiftY c_regionAt c_regions c_regionShift c_regionPairs c_regionFirst c_findings c_regionOf c_offset c_begun c_held c_isIn c_numbered c_left c_right c_top c_low c_missed) := hD
      refine lv_aload_n hx hb dX8_picture_28 rfl (lv_at hl 0 rfl) ?_
      refine lv_iload_n hx hb dX8_picture_29 rfl (lv_at hl 2 rfl) ?_
      refine r_put S pf_X8_13 hK hP hD hS 0 rfl (Nat.le_of_ble_eq_true rfl) dX8_picture_30 (fun H locs hP hD hS => ?_)
      have hP : VP G (mW o ad kc c_worked x1 x2 c_grey c_setting c_leastOf c_mostOf c_lifted c_squares c_square c_dark c_light c_like c_isCrowded c_pairs c_first c_second c_votes c_shifts c_shiftX c_shiftY c_regionAt c_regions c_regionShift c_regionPairs c_regionFirst c_findings c_regionOf c_offset c_begun c_held c_isIn c_numbered c_left c_right c_top c_low c_missed) H := hP
      have hD : va_D A (mW o ad kc c_worked x1 x2 c_grey c_setting c_leastOf c_mostOf c_lifted c_squares c_square c_dark c_light c_like c_isCrowded c_pairs c_first c_second c_votes c_shifts c_shiftX c_shiftY c_regionAt c_regions c_regionShift c_regionPairs c_regionFirst c_findings c_regionOf c_offset c_begun c_held c_isIn c_numbered c_left c_right c_top c_low c_missed) := hD
      refine lv_iconst (v := 0) hx hb dX8_picture_33 (by decide) ?_
      refine lv_istore_n (lv' := [(3, .int 0), (0, .ref o), (1, .int x1), (2, .int x2)]) hx hb dX8_picture_34 rfl hl (by decide) rfl (fun ls hl => ?_)
      refine jn_w (t := fun k => f_X8_picture_L35 FU  k FU 0 c_grey) (fun (k : Int32 → (Nat → Int32) → Option (Int32 × Int32 × Int32 × Int32 × (Nat → Int32))) => ∀ (x3_3 : Int32) (c_grey_4 : (Nat → Int32)) (H : Heap) (locs : List Loc) (ls : Array Slot), VP G (mW o ad kc c_worked x1 x2 c_grey_4 c_setting c_leastOf c_mostOf c_lifted c_squares c_square c_dark c_light c_like c_isCrowded c_pairs c_first c_second c_votes c_shifts c_shiftX c_shiftY c_regionAt c_regions c_regionShift c_regionPairs c_regionFirst c_findings c_regionOf c_offset c_begun c_held c_isIn c_numbered c_left c_right c_top c_low c_missed) H → va_D A (mW o ad kc c_worked x1 x2 c_grey_4 c_setting c_leastOf c_mostOf c_lifted c_squares c_square c_dark c_light c_like c_isCrowded c_pairs c_first c_second c_votes c_shifts c_shiftX c_shiftY c_regionAt c_regions c_regionShift c_regionPairs c_regionFirst c_findings c_regionOf c_offset c_begun c_held c_isIn c_numbered c_left c_right c_top c_low c_missed) → va_S A s.heap H locs → lv_has ls 4 [(0, .ref o), (1, .int x1), (2, .int x2)] → k x3_3 c_grey_4 = some (r, c_worked', c_width', c_height', c_grey') → WW p l e (rmq 1 22) s m args below meth c Q H locs 55 ls []) h ?_ ?_
      · intro x3_3 c_grey_4 H locs ls hP hD hS hl h
        refine lv_aload_n hx hb dX8_picture_55 rfl (lv_at hl 0 rfl) ?_
        refine lv_iload_n hx hb dX8_picture_56 rfl (lv_at hl 1 rfl) ?_
        refine lv_iload_n hx hb dX8_picture_57 rfl (lv_at hl 2 rfl) ?_
        refine lv_imul hx hb dX8_picture_58 ?_
        obtain ⟨r_8, c_worked_9, hq, h⟩ := bd2_e h
        refine cs_Vi (rest := []) (ci := 7) S hN cb_X8_changed ml_X8_100 ⟨Nat.le_of_ble_eq_true rfl, Nat.le_of_ble_eq_true rfl⟩ (c_X8_changed l G kc o ad (x1 * x2) hq) hK hP hD hS hA 0 rfl rfl rfl rfl rfl (Nat.le_of_ble_eq_true rfl) hl.1 dX8_picture_59 (fun H locs hP hD hS => ?_)
        cases h
        exact ret_i hx hb hr rfl hQ hlocks hK hP hD hS dX8_picture_62
      · intro k_5 K_6 h
        have L_7 : ∀ (n : Nat) (x3_3 : Int32) (c_grey_4 : (Nat → Int32)) (H : Heap) (locs : List Loc) (ls : Array Slot), VP G (mW o ad kc c_worked x1 x2 c_grey_4 c_setting c_leastOf c_mostOf c_lifted c_squares c_square c_dark c_light c_like c_isCrowded c_pairs c_first c_second c_votes c_shifts c_shiftX c_shiftY c_regionAt c_regions c_regionShift c_regionPairs c_regionFirst c_findings c_regionOf c_offset c_begun c_held c_isIn c_numbered c_left c_right c_top c_low c_missed) H → va_D A (mW o ad kc c_worked x1 x2 c_grey_4 c_setting c_leastOf c_mostOf c_lifted c_squares c_square c_dark c_light c_like c_isCrowded c_pairs c_first c_second c_votes c_shifts c_shiftX c_shiftY c_regionAt c_regions c_regionShift c_regionPairs c_regionFirst c_findings c_regionOf c_offset c_begun c_held c_isIn c_numbered c_left c_right c_top c_low c_missed) → va_S A s.heap H locs → lv_has ls 4 [(0, .ref o), (1, .int x1), (2, .int x2), (3, .int x3_3)] → f_X8_picture_L35 FU  k_5 n x3_3 c_grey_4 = some (r, c_worked', c_width', c_height', c_grey') → WW p l e (rmq 1 22) s m args below meth c Q H locs 35 ls [] := by
          intro n
          induction n with
          | zero => intro x3_3 c_grey_4 H locs ls hP hD hS hl h; rw [f_X8_picture_L35] at h; cases h
          | succ n ih =>
            intro x3_3 c_grey_4 H locs ls hP hD hS hl h
            rw [f_X8_picture_L35] at h
            refine lv_iload_n hx hb dX8_picture_35 rfl (lv_at hl 3 rfl) ?_
            refine lv_sipush (v := 256) hx hb dX8_picture_36 (by decide) ?_
            refine lv_icmp_ge (tgt := 55) hx hb dX8_picture_39 (by decide) (fun q_11 => ?_) (fun q_11 => ?_)
            · have h := it_t q_11 h
              exact K_6 x3_3 c_grey_4 _ _ _ hP hD hS (lv_sub hl [0, 1, 2] rfl) h
            · have h := it_f q_11 h
              refine lv_aload_n hx hb dX8_picture_42 rfl (lv_at hl 0 rfl) ?_
              refine r_get S gf_X8_16 hK hP 0 rfl rfl dX8_picture_43 ?_
              refine lv_iload_n hx hb dX8_picture_46 rfl (lv_at hl 3 rfl) ?_
              refine lv_iconst (v := 0) hx hb dX8_picture_47 (by decide) ?_
              refine r_iast hx hb hK hP hD hS 1 rfl dX8_picture_48 h (fun c_grey_10 H locs hP hD hS h => ?_)
              have hP : VP G (mW o ad kc c_worked x1 x2 c_grey_10 c_setting c_leastOf c_mostOf c_lifted c_squares c_square c_dark c_light c_like c_isCrowded c_pairs c_first c_second c_votes c_shifts c_shiftX c_shiftY c_regionAt c_regions c_regionShift c_regionPairs c_regionFirst c_findings c_regionOf c_offset c_begun c_held c_isIn c_numbered c_left c_right c_top c_low c_missed) H := hP
              have hD : va_D A (mW o ad kc c_worked x1 x2 c_grey_10 c_setting c_leastOf c_mostOf c_lifted c_squares c_square c_dark c_light c_like c_isCrowded c_pairs c_first c_second c_votes c_shifts c_shiftX c_shiftY c_regionAt c_regions c_regionShift c_regionPairs c_regionFirst c_findings c_regionOf c_offset c_begun c_held c_isIn c_numbered c_left c_right c_top c_low c_missed) := hD
              refine lv_iinc (v := (x3_3 + 1)) (lv' := [(3, .int (x3_3 + 1)), (0, .ref o), (1, .int x1), (2, .int x2)]) hx hb dX8_picture_49 hl (k := 3) rfl rfl (by decide) rfl (fun ls hl => ?_)
              refine lv_goto (tgt := 35) hx hb dX8_picture_52 (by decide) ?_
              exact ih (x3_3 + 1) c_grey_10 _ _ _ hP hD hS (lv_sub hl [1, 2, 3, 0] rfl) h
        exact L_7 FU 0 c_grey _ _ _ hP hD hS (lv_sub hl [1, 2, 3, 0] rfl) h
    · have h := it_t q_12 h
      refine lv_bipush (v := (-2)) hx hb dX8_picture_20 (by decide) ?_
      cases h
      exact ret_i hx hb hr rfl hQ hlocks hK hP hD hS dX8_picture_22
set_option maxHeartbeats 1000000 in
set_option maxRecDepth 100000 in
theorem c_X8_dot (l : Launch) (G : va_G) (kc : Nat → ClassId) (o : Nat) (ad : Nat → Nat) {c_worked : Int32} {c_width : Int32} {c_height : Int32} {c_grey : (Nat → Int32)} {c_setting : (Nat → Int32)} {c_leastOf : (Nat → Int32)} {c_mostOf : (Nat → Int32)} {c_lifted : (Nat → Int32)} {c_squares : Int32} {c_square : (Nat → Int32)} {c_dark : (Nat → Int32)} {c_light : (Nat → Int32)} {c_like : (Nat → Int32)} {c_isCrowded : (Nat → Int32)} {c_pairs : Int32} {c_first : (Nat → Int32)} {c_second : (Nat → Int32)} {c_votes : (Nat → Int32)} {c_shifts : Int32} {c_shiftX : (Nat → Int32)} {c_shiftY : (Nat → Int32)} {c_regionAt : (Nat → Int32)} {c_regions : Int32} {c_regionShift : (Nat → Int32)} {c_regionPairs : (Nat → Int32)} {c_regionFirst : (Nat → Int32)} {c_findings : Int32} {c_regionOf : (Nat → Int32)} {c_offset : (Nat → Int32)} {c_begun : (Nat → Int32)} {c_held : (Nat → Int32)} {c_isIn : (Nat → Int32)} {c_numbered : (Nat → Int32)} {c_left : Int32} {c_right : Int32} {c_top : Int32} {c_low : Int32} {c_missed : Int32} (x1 : Int32) (x2 : Int32) (x3 : Int32) {r : Int32} {c_worked' : Int32} {c_grey' : (Nat → Int32)} {FU : Nat} (h : f_X8_dot FU c_worked c_width c_height c_grey x1 x2 x3 = some (r, c_worked', c_grey')) : CTi l G kc yX8_dot cX8_dot 5 (some .int) (rmq 2 44) [.ref o, .int x1, .int x2, .int x3] (mW o ad kc c_worked c_width c_height c_grey c_setting c_leastOf c_mostOf c_lifted c_squares c_square c_dark c_light c_like c_isCrowded c_pairs c_first c_second c_votes c_shifts c_shiftX c_shiftY c_regionAt c_regions c_regionShift c_regionPairs c_regionFirst c_findings c_regionOf c_offset c_begun c_held c_isIn c_numbered c_left c_right c_top c_low c_missed) (mW o ad kc (c_worked') c_width c_height (c_grey') c_setting c_leastOf c_mostOf c_lifted c_squares c_square c_dark c_light c_like c_isCrowded c_pairs c_first c_second c_votes c_shifts c_shiftX c_shiftY c_regionAt c_regions c_regionShift c_regionPairs c_regionFirst c_findings c_regionOf c_offset c_begun c_held c_isIn c_numbered c_left c_right c_top c_low c_missed) r := by
  refine CTi.mk (by decide) (Nat.le_of_ble_eq_true rfl) ?_
  intro p e s m args below meth c A ls Q hQ S hr hlocks hN hA hK hl hP hD hS
  have hx := S.1
  have hb := S.2.1
  have hl : lv_has ls 5 [(0, .ref o), (1, .int x1), (2, .int x2), (3, .int x3)] := hl
  unfold f_X8_dot at h
  refine lv_aload_n hx hb dX8_dot_0 rfl (lv_at hl 0 rfl) ?_
  refine lv_iload_n hx hb dX8_dot_1 rfl (lv_at hl 1 rfl) ?_
  refine lv_iload_n hx hb dX8_dot_2 rfl (lv_at hl 2 rfl) ?_
  obtain ⟨r_1, hq, h⟩ := bd1_e h
  refine cs_Vi (rest := []) (ci := 7) S hN cb_X8_isPlace ml_X8_104 ⟨Nat.le_of_ble_eq_true rfl, Nat.le_of_ble_eq_true rfl⟩ (c_X8_isPlace l G kc o ad x1 x2 hq) hK hP hD hS hA 0 rfl rfl rfl rfl rfl (Nat.le_of_ble_eq_true rfl) hl.1 dX8_dot_3 (fun H locs hP hD hS => ?_)
  refine lv_if_ne (tgt := 11) hx hb dX8_dot_6 (by decide) (fun q_8 => ?_) (fun q_8 => ?_)
  · have h := it_f q_8 h
    refine lv_iload_n hx hb dX8_dot_11 rfl (lv_at hl 3 rfl) ?_
    refine lv_iconst (v := 0) hx hb dX8_dot_12 (by decide) ?_
    refine lv_bipush (v := 99) hx hb dX8_dot_13 (by decide) ?_
    obtain ⟨r_2, hq, h⟩ := bd1_e h
    refine cp_Si (rest := []) [] S hN cb_X8_within ml_X8_96 ⟨Nat.le_of_ble_eq_true rfl, Nat.le_of_ble_eq_true rfl⟩ (c_X8_within l G kc x3 0 99 hq) hK hP hD hS hA rfl rfl rfl rfl rfl (Nat.le_of_ble_eq_true rfl) hl.1 dX8_dot_15 (fun H locs hP hD hS => ?_)
    have hP : VP G (mW o ad kc c_worked c_width c_height c_grey c_setting c_leastOf c_mostOf c_lifted c_squares c_square c_dark c_light c_like c_isCrowded c_pairs c_first c_second c_votes c_shifts c_shiftX c_shiftY c_regionAt c_regions c_regionShift c_regionPairs c_regionFirst c_findings c_regionOf c_offset c_begun c_held c_isIn c_numbered c_left c_right c_top c_low c_missed) H := hP
    have hD : va_D A (mW o ad kc c_worked c_width c_height c_grey c_setting c_leastOf c_mostOf c_lifted c_squares c_square c_dark c_light c_like c_isCrowded c_pairs c_first c_second c_votes c_shifts c_shiftX c_shiftY c_regionAt c_regions c_regionShift c_regionPairs c_regionFirst c_findings c_regionOf c_offset c_begun c_held c_isIn c_numbered c_left c_right c_top c_low c_missed) := hD
    refine lv_if_ne (tgt := 24) hx hb dX8_dot_18 (by decide) (fun q_7 => ?_) (fun q_7 => ?_)
    · have h := it_f q_7 h
      refine lv_aload_n hx hb dX8_dot_24 rfl (lv_at hl 0 rfl) ?_
      refine r_get S gf_X8_16 hK hP 0 rfl rfl dX8_dot_25 ?_
      refine lv_bipush (v := 16) hx hb dX8_dot_28 (by decide) ?_
      refine lv_iload_n hx hb dX8_dot_30 rfl (lv_at hl 2 rfl) ?_
      refine lv_imul hx hb dX8_dot_31 ?_
      refine lv_iload_n hx hb dX8_dot_32 rfl (lv_at hl 1 rfl) ?_
      refine lv_iadd hx hb dX8_dot_33 ?_
      refine r_iald hx hb hK hP 1 rfl dX8_dot_34 h (fun y_3 h => ?_)
      refine lv_istore (lv' := [(4, .int y_3), (0, .ref o), (1, .int x1), (2, .int x2), (3, .int x3)]) hx hb dX8_dot_35 hl (by decide) rfl (fun ls hl => ?_)
      refine lv_aload_n hx hb dX8_dot_37 rfl (lv_at hl 1 rfl) ?_
      refine r_get S gf_X8_16 hK hP 0 rfl rfl dX8_dot_38 ?_
      refine lv_bipush (v := 16) hx hb dX8_dot_41 (by decide) ?_
      refine lv_iload_n hx hb dX8_dot_43 rfl (lv_at hl 3 rfl) ?_
      refine lv_imul hx hb dX8_dot_44 ?_
      refine lv_iload_n hx hb dX8_dot_45 rfl (lv_at hl 2 rfl) ?_
      refine lv_iadd hx hb dX8_dot_46 ?_
      refine lv_iload_n hx hb dX8_dot_47 rfl (lv_at hl 4 rfl) ?_
      refine r_iast hx hb hK hP hD hS 1 rfl dX8_dot_48 h (fun c_grey_4 H locs hP hD hS h => ?_)
      have hP : VP G (mW o ad kc c_worked c_width c_height c_grey_4 c_setting c_leastOf c_mostOf c_lifted c_squares c_square c_dark c_light c_like c_isCrowded c_pairs c_first c_second c_votes c_shifts c_shiftX c_shiftY c_regionAt c_regions c_regionShift c_regionPairs c_regionFirst c_findings c_regionOf c_offset c_begun c_held c_isIn c_numbered c_left c_right c_top c_low c_missed) H := hP
      have hD : va_D A (mW o ad kc c_worked c_width c_height c_grey_4 c_setting c_leastOf c_mostOf c_lifted c_squares c_square c_dark c_light c_like c_isCrowded c_pairs c_first c_second c_votes c_shifts c_shiftX c_shiftY c_regionAt c_regions c_regionShift c_regionPairs c_regionFirst c_findings c_regionOf c_offset c_begun c_held c_isIn c_numbered c_left c_right c_top c_low c_missed) := hD
      refine lv_aload_n hx hb dX8_dot_49 rfl (lv_at hl 1 rfl) ?_
      refine lv_iload hx hb dX8_dot_50 (lv_at hl 0 rfl) ?_
      obtain ⟨r_5, c_worked_6, hq, h⟩ := bd2_e h
      refine cs_Vi (rest := []) (ci := 7) S hN cb_X8_changed ml_X8_100 ⟨Nat.le_of_ble_eq_true rfl, Nat.le_of_ble_eq_true rfl⟩ (c_X8_changed l G kc o ad y_3 hq) hK hP hD hS hA 0 rfl rfl rfl rfl rfl (Nat.le_of_ble_eq_true rfl) hl.1 dX8_dot_52 (fun H locs hP hD hS => ?_)
      cases h
      exact ret_i hx hb hr rfl hQ hlocks hK hP hD hS dX8_dot_55
    · have h := it_t q_7 h
      refine lv_bipush (v := (-2)) hx hb dX8_dot_21 (by decide) ?_
      cases h
      exact ret_i hx hb hr rfl hQ hlocks hK hP hD hS dX8_dot_23
  · have h := it_t q_8 h
    refine lv_iconst (v := (-1)) hx hb dX8_dot_9 (by decide) ?_
    cases h
    exact ret_i hx hb hr rfl hQ hlocks hK hP hD hS dX8_dot_10
set_option maxHeartbeats 1000000 in
set_option maxRecDepth 100000 in
theorem c_X8_at (l : Launch) (G : va_G) (kc : Nat → ClassId) (o : Nat) (ad : Nat → Nat) {c_worked : Int32} {c_width : Int32} {c_height : Int32} {c_grey : (Nat → Int32)} {c_setting : (Nat → Int32)} {c_leastOf : (Nat → Int32)} {c_mostOf : (Nat → Int32)} {c_lifted : (Nat → Int32)} {c_squares : Int32} {c_square : (Nat → Int32)} {c_dark : (Nat → Int32)} {c_light : (Nat → Int32)} {c_like : (Nat → Int32)} {c_isCrowded : (Nat → Int32)} {c_pairs : Int32} {c_first : (Nat → Int32)} {c_second : (Nat → Int32)} {c_votes : (Nat → Int32)} {c_shifts : Int32} {c_shiftX : (Nat → Int32)} {c_shiftY : (Nat → Int32)} {c_regionAt : (Nat → Int32)} {c_regions : Int32} {c_regionShift : (Nat → Int32)} {c_regionPairs : (Nat → Int32)} {c_regionFirst : (Nat → Int32)} {c_findings : Int32} {c_regionOf : (Nat → Int32)} {c_offset : (Nat → Int32)} {c_begun : (Nat → Int32)} {c_held : (Nat → Int32)} {c_isIn : (Nat → Int32)} {c_numbered : (Nat → Int32)} {c_left : Int32} {c_right : Int32} {c_top : Int32} {c_low : Int32} {c_missed : Int32} (x1 : Int32) (x2 : Int32) {r : Int32} {FU : Nat} (h : f_X8_at FU c_width c_height c_grey x1 x2 = some r) : CTi l G kc yX8_at cX8_at 3 (some .int) (rmq 2 44) [.ref o, .int x1, .int x2] (mW o ad kc c_worked c_width c_height c_grey c_setting c_leastOf c_mostOf c_lifted c_squares c_square c_dark c_light c_like c_isCrowded c_pairs c_first c_second c_votes c_shifts c_shiftX c_shiftY c_regionAt c_regions c_regionShift c_regionPairs c_regionFirst c_findings c_regionOf c_offset c_begun c_held c_isIn c_numbered c_left c_right c_top c_low c_missed) (mW o ad kc c_worked c_width c_height c_grey c_setting c_leastOf c_mostOf c_lifted c_squares c_square c_dark c_light c_like c_isCrowded c_pairs c_first c_second c_votes c_shifts c_shiftX c_shiftY c_regionAt c_regions c_regionShift c_regionPairs c_regionFirst c_findings c_regionOf c_offset c_begun c_held c_isIn c_numbered c_left c_right c_top c_low c_missed) r := by
  refine CTi.mk (by decide) (Nat.le_of_ble_eq_true rfl) ?_
  intro p e s m args below meth c A ls Q hQ S hr hlocks hN hA hK hl hP hD hS
  have hx := S.1
  have hb := S.2.1
  have hl : lv_has ls 3 [(0, .ref o), (1, .int x1), (2, .int x2)] := hl
  unfold f_X8_at at h
  refine lv_aload_n hx hb dX8_at_0 rfl (lv_at hl 0 rfl) ?_
  refine lv_iload_n hx hb dX8_at_1 rfl (lv_at hl 1 rfl) ?_
  refine lv_iload_n hx hb dX8_at_2 rfl (lv_at hl 2 rfl) ?_
  obtain ⟨r_1, hq, h⟩ := bd1_e h
  refine cs_Vi (rest := []) (ci := 7) S hN cb_X8_isPlace ml_X8_104 ⟨Nat.le_of_ble_eq_true rfl, Nat.le_of_ble_eq_true rfl⟩ (c_X8_isPlace l G kc o ad x1 x2 hq) hK hP hD hS hA 0 rfl rfl rfl rfl rfl (Nat.le_of_ble_eq_true rfl) hl.1 dX8_at_3 (fun H locs hP hD hS => ?_)
  refine lv_if_eq (tgt := 23) hx hb dX8_at_6 (by decide) (fun q_3 => ?_) (fun q_3 => ?_)
  · have h := it_t q_3 h
    refine lv_iconst (v := (-1)) hx hb dX8_at_23 (by decide) ?_
    cases h
    exact ret_i hx hb hr rfl hQ hlocks hK hP hD hS dX8_at_24
  · have h := it_f q_3 h
    refine lv_aload_n hx hb dX8_at_9 rfl (lv_at hl 0 rfl) ?_
    refine r_get S gf_X8_16 hK hP 0 rfl rfl dX8_at_10 ?_
    refine lv_bipush (v := 16) hx hb dX8_at_13 (by decide) ?_
    refine lv_iload_n hx hb dX8_at_15 rfl (lv_at hl 2 rfl) ?_
    refine lv_imul hx hb dX8_at_16 ?_
    refine lv_iload_n hx hb dX8_at_17 rfl (lv_at hl 1 rfl) ?_
    refine lv_iadd hx hb dX8_at_18 ?_
    refine r_iald hx hb hK hP 1 rfl dX8_at_19 h (fun y_2 h => ?_)
    refine lv_goto (tgt := 24) hx hb dX8_at_20 (by decide) ?_
    cases h
    exact ret_i hx hb hr rfl hQ hlocks hK hP hD hS dX8_at_24
set_option maxHeartbeats 1000000 in
set_option maxRecDepth 100000 in
theorem c_X8_isPart (l : Launch) (G : va_G) (kc : Nat → ClassId) (o : Nat) (ad : Nat → Nat) {c_worked : Int32} {c_width : Int32} {c_height : Int32} {c_grey : (Nat → Int32)} {c_setting : (Nat → Int32)} {c_leastOf : (Nat → Int32)} {c_mostOf : (Nat → Int32)} {c_lifted : (Nat → Int32)} {c_squares : Int32} {c_square : (Nat → Int32)} {c_dark : (Nat → Int32)} {c_light : (Nat → Int32)} {c_like : (Nat → Int32)} {c_isCrowded : (Nat → Int32)} {c_pairs : Int32} {c_first : (Nat → Int32)} {c_second : (Nat → Int32)} {c_votes : (Nat → Int32)} {c_shifts : Int32} {c_shiftX : (Nat → Int32)} {c_shiftY : (Nat → Int32)} {c_regionAt : (Nat → Int32)} {c_regions : Int32} {c_regionShift : (Nat → Int32)} {c_regionPairs : (Nat → Int32)} {c_regionFirst : (Nat → Int32)} {c_findings : Int32} {c_regionOf : (Nat → Int32)} {c_offset : (Nat → Int32)} {c_begun : (Nat → Int32)} {c_held : (Nat → Int32)} {c_isIn : (Nat → Int32)} {c_numbered : (Nat → Int32)} {c_left : Int32} {c_right : Int32} {c_top : Int32} {c_low : Int32} {c_missed : Int32} (x1 : Int32) (x2 : Int32) (x3 : Int32) (x4 : Int32) {r : Int32} {FU : Nat} (h : f_X8_isPart FU c_width c_height x1 x2 x3 x4 = some r) : CTi l G kc yX8_isPart cX8_isPart 5 (some .boolean) (rmq 0 0) [.ref o, .int x1, .int x2, .int x3, .int x4] (mW o ad kc c_worked c_width c_height c_grey c_setting c_leastOf c_mostOf c_lifted c_squares c_square c_dark c_light c_like c_isCrowded c_pairs c_first c_second c_votes c_shifts c_shiftX c_shiftY c_regionAt c_regions c_regionShift c_regionPairs c_regionFirst c_findings c_regionOf c_offset c_begun c_held c_isIn c_numbered c_left c_right c_top c_low c_missed) (mW o ad kc c_worked c_width c_height c_grey c_setting c_leastOf c_mostOf c_lifted c_squares c_square c_dark c_light c_like c_isCrowded c_pairs c_first c_second c_votes c_shifts c_shiftX c_shiftY c_regionAt c_regions c_regionShift c_regionPairs c_regionFirst c_findings c_regionOf c_offset c_begun c_held c_isIn c_numbered c_left c_right c_top c_low c_missed) r := by
  refine CTi.mk (by decide) (Nat.le_of_ble_eq_true rfl) ?_
  intro p e s m args below meth c A ls Q hQ S hr hlocks hN hA hK hl hP hD hS
  have hx := S.1
  have hb := S.2.1
  have hl : lv_has ls 5 [(0, .ref o), (1, .int x1), (2, .int x2), (3, .int x3), (4, .int x4)] := hl
  unfold f_X8_isPart at h
  refine lv_iload_n hx hb dX8_isPart_0 rfl (lv_at hl 3 rfl) ?_
  refine lv_if_le (tgt := 34) hx hb dX8_isPart_1 (by decide) (fun q_4 => ?_) (fun q_4 => ?_)
  · have h := it_t q_4 h
    refine lv_iconst (v := 0) hx hb dX8_isPart_34 (by decide) ?_
    cases h
    exact ret_i hx hb hr rfl hQ hlocks hK hP hD hS dX8_isPart_35
  · have h := it_f q_4 h
    refine lv_iload hx hb dX8_isPart_4 (lv_at hl 4 rfl) ?_
    refine lv_if_le (tgt := 34) hx hb dX8_isPart_6 (by decide) (fun q_3 => ?_) (fun q_3 => ?_)
    · have h := it_t q_3 h
      refine lv_iconst (v := 0) hx hb dX8_isPart_34 (by decide) ?_
      cases h
      exact ret_i hx hb hr rfl hQ hlocks hK hP hD hS dX8_isPart_35
    · have h := it_f q_3 h
      refine lv_iload_n hx hb dX8_isPart_9 rfl (lv_at hl 3 rfl) ?_
      refine lv_aload_n hx hb dX8_isPart_10 rfl (lv_at hl 0 rfl) ?_
      refine r_get S gf_X8_7 hK hP 0 rfl rfl dX8_isPart_11 ?_
      refine lv_iload_n hx hb dX8_isPart_14 rfl (lv_at hl 1 rfl) ?_
      refine lv_isub hx hb dX8_isPart_15 ?_
      refine lv_icmp_gt (tgt := 34) hx hb dX8_isPart_16 (by decide) (fun q_2 => ?_) (fun q_2 => ?_)
      · have h := it_t q_2 h
        refine lv_iconst (v := 0) hx hb dX8_isPart_34 (by decide) ?_
        cases h
        exact ret_i hx hb hr rfl hQ hlocks hK hP hD hS dX8_isPart_35
      · have h := it_f q_2 h
        refine lv_iload hx hb dX8_isPart_19 (lv_at hl 4 rfl) ?_
        refine lv_aload_n hx hb dX8_isPart_21 rfl (lv_at hl 0 rfl) ?_
        refine r_get S gf_X8_13 hK hP 0 rfl rfl dX8_isPart_22 ?_
        refine lv_iload_n hx hb dX8_isPart_25 rfl (lv_at hl 2 rfl) ?_
        refine lv_isub hx hb dX8_isPart_26 ?_
        refine lv_icmp_gt (tgt := 34) hx hb dX8_isPart_27 (by decide) (fun q_1 => ?_) (fun q_1 => ?_)
        · have h := it_t q_1 h
          refine lv_iconst (v := 0) hx hb dX8_isPart_34 (by decide) ?_
          cases h
          exact ret_i hx hb hr rfl hQ hlocks hK hP hD hS dX8_isPart_35
        · have h := it_f q_1 h
          refine lv_iconst (v := 1) hx hb dX8_isPart_30 (by decide) ?_
          refine lv_goto (tgt := 35) hx hb dX8_isPart_31 (by decide) ?_
          cases h
          exact ret_i hx hb hr rfl hQ hlocks hK hP hD hS dX8_isPart_35
set_option maxHeartbeats 1000000 in
set_option maxRecDepth 100000 in
theorem c_X8_raise (l : Launch) (G : va_G) (kc : Nat → ClassId) (o : Nat) (ad : Nat → Nat) {c_worked : Int32} {c_width : Int32} {c_height : Int32} {c_grey : (Nat → Int32)} {c_setting : (Nat → Int32)} {c_leastOf : (Nat → Int32)} {c_mostOf : (Nat → Int32)} {c_lifted : (Nat → Int32)} {c_squares : Int32} {c_square : (Nat → Int32)} {c_dark : (Nat → Int32)} {c_light : (Nat → Int32)} {c_like : (Nat → Int32)} {c_isCrowded : (Nat → Int32)} {c_pairs : Int32} {c_first : (Nat → Int32)} {c_second : (Nat → Int32)} {c_votes : (Nat → Int32)} {c_shifts : Int32} {c_shiftX : (Nat → Int32)} {c_shiftY : (Nat → Int32)} {c_regionAt : (Nat → Int32)} {c_regions : Int32} {c_regionShift : (Nat → Int32)} {c_regionPairs : (Nat → Int32)} {c_regionFirst : (Nat → Int32)} {c_findings : Int32} {c_regionOf : (Nat → Int32)} {c_offset : (Nat → Int32)} {c_begun : (Nat → Int32)} {c_held : (Nat → Int32)} {c_isIn : (Nat → Int32)} {c_numbered : (Nat → Int32)} {c_left : Int32} {c_right : Int32} {c_top : Int32} {c_low : Int32} {c_missed : Int32} (x1 : Int32) (x2 : Int32) (x3 : Int32) (x4 : Int32) (x5 : Int32) {r : Int32} {c_worked' : Int32} {c_grey' : (Nat → Int32)} {FU : Nat} (h : f_X8_raise FU c_worked c_width c_height c_grey x1 x2 x3 x4 x5 = some (r, c_worked', c_grey')) : CTi l G kc yX8_raise cX8_raise 11 (some .int) (rmq 2 44) [.ref o, .int x1, .int x2, .int x3, .int x4, .int x5] (mW o ad kc c_worked c_width c_height c_grey c_setting c_leastOf c_mostOf c_lifted c_squares c_square c_dark c_light c_like c_isCrowded c_pairs c_first c_second c_votes c_shifts c_shiftX c_shiftY c_regionAt c_regions c_regionShift c_regionPairs c_regionFirst c_findings c_regionOf c_offset c_begun c_held c_isIn c_numbered c_left c_right c_top c_low c_missed) (mW o ad kc (c_worked') c_width c_height (c_grey') c_setting c_leastOf c_mostOf c_lifted c_squares c_square c_dark c_light c_like c_isCrowded c_pairs c_first c_second c_votes c_shifts c_shiftX c_shiftY c_regionAt c_regions c_regionShift c_regionPairs c_regionFirst c_findings c_regionOf c_offset c_begun c_held c_isIn c_numbered c_left c_right c_top c_low c_missed) r := by
  refine CTi.mk (by decide) (Nat.le_of_ble_eq_true rfl) ?_
  intro p e s m args below meth c A ls Q hQ S hr hlocks hN hA hK hl hP hD hS
  have hx := S.1
  have hb := S.2.1
  have hl : lv_has ls 11 [(0, .ref o), (1, .int x1), (2, .int x2), (3, .int x3), (4, .int x4), (5, .int x5)] := hl
  unfold f_X8_raise at h
  refine lv_aload_n hx hb dX8_raise_0 rfl (lv_at hl 0 rfl) ?_
  refine lv_iload_n hx hb dX8_raise_1 rfl (lv_at hl 1 rfl) ?_
  refine lv_iload_n hx hb dX8_raise_2 rfl (lv_at hl 2 rfl) ?_
  obtain ⟨r_1, hq, h⟩ := bd1_e h
  refine cs_Vi (rest := []) (ci := 7) S hN cb_X8_isPlace ml_X8_104 ⟨Nat.le_of_ble_eq_true rfl, Nat.le_of_ble_eq_true rfl⟩ (c_X8_isPlace l G kc o ad x1 x2 hq) hK hP hD hS hA 0 rfl rfl rfl rfl rfl (Nat.le_of_ble_eq_true rfl) hl.1 dX8_raise_3 (fun H locs hP hD hS => ?_)
  refine lv_if_ne (tgt := 11) hx hb dX8_raise_6 (by decide) (fun q_33 => ?_) (fun q_33 => ?_)
  · have h := it_f q_33 h
    refine lv_aload_n hx hb dX8_raise_11 rfl (lv_at hl 0 rfl) ?_
    refine lv_iload_n hx hb dX8_raise_12 rfl (lv_at hl 1 rfl) ?_
    refine lv_iload_n hx hb dX8_raise_13 rfl (lv_at hl 2 rfl) ?_
    refine lv_iload_n hx hb dX8_raise_14 rfl (lv_at hl 3 rfl) ?_
    refine lv_iload hx hb dX8_raise_15 (lv_at hl 4 rfl) ?_
    obtain ⟨r_2, hq, h⟩ := bd1_e h
    refine cs_Vi (rest := []) (ci := 7) S hN cb_X8_isPart ml_X8_108 ⟨Nat.le_of_ble_eq_true rfl, Nat.le_of_ble_eq_true rfl⟩ (c_X8_isPart l G kc o ad x1 x2 x3 x4 hq) hK hP hD hS hA 0 rfl rfl rfl rfl rfl (Nat.le_of_ble_eq_true rfl) hl.1 dX8_raise_17 (fun H locs hP hD hS => ?_)
    refine lv_if_eq (tgt := 35) hx hb dX8_raise_20 (by decide) (fun q_32 => ?_) (fun q_32 => ?_)
    · have h := it_t q_32 h
      refine lv_bipush (v := (-2)) hx hb dX8_raise_35 (by decide) ?_
      cases h
      exact ret_i hx hb hr rfl hQ hlocks hK hP hD hS dX8_raise_37
    · have h := it_f q_32 h
      refine lv_iload hx hb dX8_raise_23 (lv_at hl 5 rfl) ?_
      refine lv_bipush (v := (-99)) hx hb dX8_raise_25 (by decide) ?_
      refine lv_bipush (v := 99) hx hb dX8_raise_27 (by decide) ?_
      obtain ⟨r_3, hq, h⟩ := bd1_e h
      refine cp_Si (rest := []) [] S hN cb_X8_within ml_X8_96 ⟨Nat.le_of_ble_eq_true rfl, Nat.le_of_ble_eq_true rfl⟩ (c_X8_within l G kc x5 (-99) 99 hq) hK hP hD hS hA rfl rfl rfl rfl rfl (Nat.le_of_ble_eq_true rfl) hl.1 dX8_raise_29 (fun H locs hP hD hS => ?_)
      have hP : VP G (mW o ad kc c_worked c_width c_height c_grey c_setting c_leastOf c_mostOf c_lifted c_squares c_square c_dark c_light c_like c_isCrowded c_pairs c_first c_second c_votes c_shifts c_shiftX c_shiftY c_regionAt c_regions c_regionShift c_regionPairs c_regionFirst c_findings c_regionOf c_offset c_begun c_held c_isIn c_numbered c_left c_right c_top c_low c_missed) H := hP
      have hD : va_D A (mW o ad kc c_worked c_width c_height c_grey c_setting c_leastOf c_mostOf c_lifted c_squares c_square c_dark c_light c_like c_isCrowded c_pairs c_first c_second c_votes c_shifts c_shiftX c_shiftY c_regionAt c_regions c_regionShift c_regionPairs c_regionFirst c_findings c_regionOf c_offset c_begun c_held c_isIn c_numbered c_left c_right c_top c_low c_missed) := hD
      refine lv_if_ne (tgt := 38) hx hb dX8_raise_32 (by decide) (fun q_31 => ?_) (fun q_31 => ?_)
      · have h := it_f q_31 h
        refine lv_iconst (v := 0) hx hb dX8_raise_38 (by decide) ?_
        refine lv_istore (lv' := [(6, .int 0), (0, .ref o), (1, .int x1), (2, .int x2), (3, .int x3), (4, .int x4), (5, .int x5)]) hx hb dX8_raise_39 hl (by decide) rfl (fun ls hl => ?_)
        refine lv_iload_n hx hb dX8_raise_41 rfl (lv_at hl 3 rfl) ?_
        refine lv_istore (lv' := [(7, .int x2), (6, .int 0), (0, .ref o), (1, .int x1), (2, .int x2), (3, .int x3), (4, .int x4), (5, .int x5)]) hx hb dX8_raise_42 hl (by decide) rfl (fun ls hl => ?_)
        refine jn_w (t := fun k => f_X8_raise_L44 FU x1 x2 x3 x4 x5 k FU 0 x2 c_grey) (fun (k : Int32 → Int32 → (Nat → Int32) → Option (Int32 × Int32 × (Nat → Int32))) => ∀ (x6_4 : Int32) (x7_5 : Int32) (c_grey_6 : (Nat → Int32)) (H : Heap) (locs : List Loc) (ls : Array Slot), VP G (mW o ad kc c_worked c_width c_height c_grey_6 c_setting c_leastOf c_mostOf c_lifted c_squares c_square c_dark c_light c_like c_isCrowded c_pairs c_first c_second c_votes c_shifts c_shiftX c_shiftY c_regionAt c_regions c_regionShift c_regionPairs c_regionFirst c_findings c_regionOf c_offset c_begun c_held c_isIn c_numbered c_left c_right c_top c_low c_missed) H → va_D A (mW o ad kc c_worked c_width c_height c_grey_6 c_setting c_leastOf c_mostOf c_lifted c_squares c_square c_dark c_light c_like c_isCrowded c_pairs c_first c_second c_votes c_shifts c_shiftX c_shiftY c_regionAt c_regions c_regionShift c_regionPairs c_regionFirst c_findings c_regionOf c_offset c_begun c_held c_isIn c_numbered c_left c_right c_top c_low c_missed) → va_S A s.heap H locs → lv_has ls 11 [(0, .ref o), (6, .int x6_4)] → k x6_4 x7_5 c_grey_6 = some (r, c_worked', c_grey') → WW p l e (rmq 2 44) s m args below meth c Q H locs 157 ls []) h ?_ ?_
        · intro x6_4 x7_5 c_grey_6 H locs ls hP hD hS hl h
          refine lv_aload_n hx hb dX8_raise_157 rfl (lv_at hl 0 rfl) ?_
          refine lv_iload hx hb dX8_raise_158 (lv_at hl 1 rfl) ?_
          obtain ⟨r_10, c_worked_11, hq, h⟩ := bd2_e h
          refine cs_Vi (rest := []) (ci := 7) S hN cb_X8_changed ml_X8_100 ⟨Nat.le_of_ble_eq_true rfl, Nat.le_of_ble_eq_true rfl⟩ (c_X8_changed l G kc o ad x6_4 hq) hK hP hD hS hA 0 rfl rfl rfl rfl rfl (Nat.le_of_ble_eq_true rfl) hl.1 dX8_raise_160 (fun H locs hP hD hS => ?_)
          cases h
          exact ret_i hx hb hr rfl hQ hlocks hK hP hD hS dX8_raise_163
        · intro k_7 K_8 h
          have L_9 : ∀ (n : Nat) (x6_4 : Int32) (x7_5 : Int32) (c_grey_6 : (Nat → Int32)) (H : Heap) (locs : List Loc) (ls : Array Slot), VP G (mW o ad kc c_worked c_width c_height c_grey_6 c_setting c_leastOf c_mostOf c_lifted c_squares c_square c_dark c_light c_like c_isCrowded c_pairs c_first c_second c_votes c_shifts c_shiftX c_shiftY c_regionAt c_regions c_regionShift c_regionPairs c_regionFirst c_findings c_regionOf c_offset c_begun c_held c_isIn c_numbered c_left c_right c_top c_low c_missed) H → va_D A (mW o ad kc c_worked c_width c_height c_grey_6 c_setting c_leastOf c_mostOf c_lifted c_squares c_square c_dark c_light c_like c_isCrowded c_pairs c_first c_second c_votes c_shifts c_shiftX c_shiftY c_regionAt c_regions c_regionShift c_regionPairs c_regionFirst c_findings c_regionOf c_offset c_begun c_held c_isIn c_numbered c_left c_right c_top c_low c_missed) → va_S A s.heap H locs → lv_has ls 11 [(0, .ref o), (1, .int x1), (2, .int x2), (3, .int x3), (4, .int x4), (5, .int x5), (6, .int x6_4), (7, .int x7_5)] → f_X8_raise_L44 FU x1 x2 x3 x4 x5 k_7 n x6_4 x7_5 c_grey_6 = some (r, c_worked', c_grey') → WW p l e (rmq 2 44) s m args below meth c Q H locs 44 ls [] := by
            intro n
            induction n with
            | zero => intro x6_4 x7_5 c_grey_6 H locs ls hP hD hS hl h; rw [f_X8_raise_L44] at h; cases h
            | succ n ih =>
              intro x6_4 x7_5 c_grey_6 H locs ls hP hD hS hl h
              rw [f_X8_raise_L44] at h
              refine lv_iload hx hb dX8_raise_44 (lv_at hl 7 rfl) ?_
              refine lv_iload_n hx hb dX8_raise_46 rfl (lv_at hl 2 rfl) ?_
              refine lv_iload hx hb dX8_raise_47 (lv_at hl 4 rfl) ?_
              refine lv_iadd hx hb dX8_raise_49 ?_
              refine lv_icmp_ge (tgt := 157) hx hb dX8_raise_50 (by decide) (fun q_30 => ?_) (fun q_30 => ?_)
              · have h := it_t q_30 h
                exact K_8 x6_4 x7_5 c_grey_6 _ _ _ hP hD hS (lv_sub hl [0, 6] rfl) h
              · have h := it_f q_30 h
                refine lv_iload_n hx hb dX8_raise_53 rfl (lv_at hl 1 rfl) ?_
                refine lv_istore (lv' := [(8, .int x1), (0, .ref o), (1, .int x1), (2, .int x2), (3, .int x3), (4, .int x4), (5, .int x5), (6, .int x6_4), (7, .int x7_5)]) hx hb dX8_raise_54 hl (by decide) rfl (fun ls hl => ?_)
                refine jn_w (t := fun k => f_X8_raise_L56 FU x1 x3 x5 x7_5 k FU x6_4 x1 c_grey_6) (fun (k : Int32 → Int32 → (Nat → Int32) → Option (Int32 × Int32 × (Nat → Int32))) => ∀ (x6_12 : Int32) (x8_13 : Int32) (c_grey_14 : (Nat → Int32)) (H : Heap) (locs : List Loc) (ls : Array Slot), VP G (mW o ad kc c_worked c_width c_height c_grey_14 c_setting c_leastOf c_mostOf c_lifted c_squares c_square c_dark c_light c_like c_isCrowded c_pairs c_first c_second c_votes c_shifts c_shiftX c_shiftY c_regionAt c_regions c_regionShift c_regionPairs c_regionFirst c_findings c_regionOf c_offset c_begun c_held c_isIn c_numbered c_left c_right c_top c_low c_missed) H → va_D A (mW o ad kc c_worked c_width c_height c_grey_14 c_setting c_leastOf c_mostOf c_lifted c_squares c_square c_dark c_light c_like c_isCrowded c_pairs c_first c_second c_votes c_shifts c_shiftX c_shiftY c_regionAt c_regions c_regionShift c_regionPairs c_regionFirst c_findings c_regionOf c_offset c_begun c_held c_isIn c_numbered c_left c_right c_top c_low c_missed) → va_S A s.heap H locs → lv_has ls 11 [(0, .ref o), (1, .int x1), (2, .int x2), (3, .int x3), (4, .int x4), (5, .int x5), (6, .int x6_12), (7, .int x7_5)] → k x6_12 x8_13 c_grey_14 = some (r, c_worked', c_grey') → WW p l e (rmq 2 44) s m args below meth c Q H locs 151 ls []) h ?_ ?_
                · intro x6_12 x8_13 c_grey_14 H locs ls hP hD hS hl h
                  refine lv_iinc (v := (x7_5 + 1)) (lv' := [(7, .int (x7_5 + 1)), (0, .ref o), (1, .int x1), (2, .int x2), (3, .int x3), (4, .int x4), (5, .int x5), (6, .int x6_12)]) hx hb dX8_raise_151 hl (k := 7) rfl rfl (by decide) rfl (fun ls hl => ?_)
                  refine lv_goto (tgt := 44) hx hb dX8_raise_154 (by decide) ?_
                  exact ih x6_12 (x7_5 + 1) c_grey_14 _ _ _ hP hD hS (lv_sub hl [1, 2, 3, 4, 5, 6, 7, 0] rfl) h
                · intro k_15 K_16 h
                  have L_17 : ∀ (n : Nat) (x6_12 : Int32) (x8_13 : Int32) (c_grey_14 : (Nat → Int32)) (H : Heap) (locs : List Loc) (ls : Array Slot), VP G (mW o ad kc c_worked c_width c_height c_grey_14 c_setting c_leastOf c_mostOf c_lifted c_squares c_square c_dark c_light c_like c_isCrowded c_pairs c_first c_second c_votes c_shifts c_shiftX c_shiftY c_regionAt c_regions c_regionShift c_regionPairs c_regionFirst c_findings c_regionOf c_offset c_begun c_held c_isIn c_numbered c_left c_right c_top c_low c_missed) H → va_D A (mW o ad kc c_worked c_width c_height c_grey_14 c_setting c_leastOf c_mostOf c_lifted c_squares c_square c_dark c_light c_like c_isCrowded c_pairs c_first c_second c_votes c_shifts c_shiftX c_shiftY c_regionAt c_regions c_regionShift c_regionPairs c_regionFirst c_findings c_regionOf c_offset c_begun c_held c_isIn c_numbered c_left c_right c_top c_low c_missed) → va_S A s.heap H locs → lv_has ls 11 [(0, .ref o), (1, .int x1), (2, .int x2), (3, .int x3), (4, .int x4), (5, .int x5), (6, .int x6_12), (7, .int x7_5), (8, .int x8_13)] → f_X8_raise_L56 FU x1 x3 x5 x7_5 k_15 n x6_12 x8_13 c_grey_14 = some (r, c_worked', c_grey') → WW p l e (rmq 2 44) s m args below meth c Q H locs 56 ls [] := by
                    intro n
                    induction n with
                    | zero => intro x6_12 x8_13 c_grey_14 H locs ls hP hD hS hl h; rw [f_X8_raise_L56] at h; cases h
                    | succ n ih =>
                      intro x6_12 x8_13 c_grey_14 H locs ls hP hD hS hl h
                      rw [f_X8_raise_L56] at h
                      refine lv_iload hx hb dX8_raise_56 (lv_at hl 8 rfl) ?_
                      refine lv_iload_n hx hb dX8_raise_58 rfl (lv_at hl 1 rfl) ?_
                      refine lv_iload_n hx hb dX8_raise_59 rfl (lv_at hl 3 rfl) ?_
                      refine lv_iadd hx hb dX8_raise_60 ?_
                      refine lv_icmp_ge (tgt := 151) hx hb dX8_raise_61 (by decide) (fun q_29 => ?_) (fun q_29 => ?_)
                      · have h := it_t q_29 h
                        exact K_16 x6_12 x8_13 c_grey_14 _ _ _ hP hD hS (lv_sub hl [0, 1, 2, 3, 4, 5, 6, 7] rfl) h
                      · have h := it_f q_29 h
                        refine lv_aload_n hx hb dX8_raise_64 rfl (lv_at hl 0 rfl) ?_
                        refine r_get S gf_X8_16 hK hP 0 rfl rfl dX8_raise_65 ?_
                        refine lv_bipush (v := 16) hx hb dX8_raise_68 (by decide) ?_
                        refine lv_iload hx hb dX8_raise_70 (lv_at hl 7 rfl) ?_
                        refine lv_imul hx hb dX8_raise_72 ?_
                        refine lv_iload hx hb dX8_raise_73 (lv_at hl 8 rfl) ?_
                        refine lv_iadd hx hb dX8_raise_75 ?_
                        refine r_iald hx hb hK hP 1 rfl dX8_raise_76 h (fun y_18 h => ?_)
                        refine lv_istore (lv' := [(9, .int y_18), (0, .ref o), (1, .int x1), (2, .int x2), (3, .int x3), (4, .int x4), (5, .int x5), (6, .int x6_12), (7, .int x7_5), (8, .int x8_13)]) hx hb dX8_raise_77 hl (by decide) rfl (fun ls hl => ?_)
                        refine lv_iload hx hb dX8_raise_79 (lv_at hl 0 rfl) ?_
                        refine lv_iload hx hb dX8_raise_81 (lv_at hl 6 rfl) ?_
                        refine lv_iadd hx hb dX8_raise_83 ?_
                        refine jn_w (fun (k : Int32 → Option (Int32 × Int32 × (Nat → Int32))) => ∀ (t_19 : Int32) (H : Heap) (locs : List Loc) (ls : Array Slot), VP G (mW o ad kc c_worked c_width c_height c_grey_14 c_setting c_leastOf c_mostOf c_lifted c_squares c_square c_dark c_light c_like c_isCrowded c_pairs c_first c_second c_votes c_shifts c_shiftX c_shiftY c_regionAt c_regions c_regionShift c_regionPairs c_regionFirst c_findings c_regionOf c_offset c_begun c_held c_isIn c_numbered c_left c_right c_top c_low c_missed) H → va_D A (mW o ad kc c_worked c_width c_height c_grey_14 c_setting c_leastOf c_mostOf c_lifted c_squares c_square c_dark c_light c_like c_isCrowded c_pairs c_first c_second c_votes c_shifts c_shiftX c_shiftY c_regionAt c_regions c_regionShift c_regionPairs c_regionFirst c_findings c_regionOf c_offset c_begun c_held c_isIn c_numbered c_left c_right c_top c_low c_missed) → va_S A s.heap H locs → lv_has ls 11 [(0, .ref o), (1, .int x1), (2, .int x2), (3, .int x3), (4, .int x4), (5, .int x5), (6, .int x6_12), (7, .int x7_5), (8, .int x8_13), (9, .int y_18)] → k t_19 = some (r, c_worked', c_grey') → WW p l e (rmq 2 44) s m args below meth c Q H locs 111 ls [.int t_19]) h ?_ ?_
                        · intro t_19 H locs ls hP hD hS hl h
                          refine lv_istore (lv' := [(10, .int t_19), (0, .ref o), (1, .int x1), (2, .int x2), (3, .int x3), (4, .int x4), (5, .int x5), (6, .int x6_12), (7, .int x7_5), (8, .int x8_13), (9, .int y_18)]) hx hb dX8_raise_111 hl (by decide) rfl (fun ls hl => ?_)
                          refine lv_aload_n hx hb dX8_raise_113 rfl (lv_at hl 1 rfl) ?_
                          refine r_get S gf_X8_16 hK hP 0 rfl rfl dX8_raise_114 ?_
                          refine lv_bipush (v := 16) hx hb dX8_raise_117 (by decide) ?_
                          refine lv_iload hx hb dX8_raise_119 (lv_at hl 8 rfl) ?_
                          refine lv_imul hx hb dX8_raise_121 ?_
                          refine lv_iload hx hb dX8_raise_122 (lv_at hl 9 rfl) ?_
                          refine lv_iadd hx hb dX8_raise_124 ?_
                          refine lv_iload hx hb dX8_raise_125 (lv_at hl 0 rfl) ?_
                          refine r_iast hx hb hK hP hD hS 1 rfl dX8_raise_127 h (fun c_grey_22 H locs hP hD hS h => ?_)
                          have hP : VP G (mW o ad kc c_worked c_width c_height c_grey_22 c_setting c_leastOf c_mostOf c_lifted c_squares c_square c_dark c_light c_like c_isCrowded c_pairs c_first c_second c_votes c_shifts c_shiftX c_shiftY c_regionAt c_regions c_regionShift c_regionPairs c_regionFirst c_findings c_regionOf c_offset c_begun c_held c_isIn c_numbered c_left c_right c_top c_low c_missed) H := hP
                          have hD : va_D A (mW o ad kc c_worked c_width c_height c_grey_22 c_setting c_leastOf c_mostOf c_lifted c_squares c_square c_dark c_light c_like c_isCrowded c_pairs c_first c_second c_votes c_shifts c_shiftX c_shiftY c_regionAt c_regions c_regionShift c_regionPairs c_regionFirst c_findings c_regionOf c_offset c_begun c_held c_isIn c_numbered c_left c_right c_top c_low c_missed) := hD
                          refine lv_iload hx hb dX8_raise_128 (lv_at hl 7 rfl) ?_
                          refine lv_iload hx hb dX8_raise_130 (lv_at hl 0 rfl) ?_
                          refine lv_iload hx hb dX8_raise_132 (lv_at hl 10 rfl) ?_
                          refine jn_w (fun (k : Int32 → Option (Int32 × Int32 × (Nat → Int32))) => ∀ (t_23 : Int32) (H : Heap) (locs : List Loc) (ls : Array Slot), VP G (mW o ad kc c_worked c_width c_height c_grey_22 c_setting c_leastOf c_mostOf c_lifted c_squares c_square c_dark c_light c_like c_isCrowded c_pairs c_first c_second c_votes c_shifts c_shiftX c_shiftY c_regionAt c_regions c_regionShift c_regionPairs c_regionFirst c_findings c_regionOf c_offset c_begun c_held c_isIn c_numbered c_left c_right c_top c_low c_missed) H → va_D A (mW o ad kc c_worked c_width c_height c_grey_22 c_setting c_leastOf c_mostOf c_lifted c_squares c_square c_dark c_light c_like c_isCrowded c_pairs c_first c_second c_votes c_shifts c_shiftX c_shiftY c_regionAt c_regions c_regionShift c_regionPairs c_regionFirst c_findings c_regionOf c_offset c_begun c_held c_isIn c_numbered c_left c_right c_top c_low c_missed) → va_S A s.heap H locs → lv_has ls 11 [(0, .ref o), (1, .int x1), (2, .int x2), (3, .int x3), (4, .int x4), (5, .int x5), (7, .int x7_5), (8, .int x8_13)] → k t_23 = some (r, c_worked', c_grey') → WW p l e (rmq 2 44) s m args below meth c Q H locs 142 ls [.int t_23, .int x6_12]) h ?_ ?_
                          · intro t_23 H locs ls hP hD hS hl h
                            refine lv_iadd hx hb dX8_raise_142 ?_
                            refine lv_istore (lv' := [(6, .int (x6_12 + t_23)), (0, .ref o), (1, .int x1), (2, .int x2), (3, .int x3), (4, .int x4), (5, .int x5), (7, .int x7_5), (8, .int x8_13)]) hx hb dX8_raise_143 hl (by decide) rfl (fun ls hl => ?_)
                            refine lv_iinc (v := (x8_13 + 1)) (lv' := [(8, .int (x8_13 + 1)), (6, .int (x6_12 + t_23)), (0, .ref o), (1, .int x1), (2, .int x2), (3, .int x3), (4, .int x4), (5, .int x5), (7, .int x7_5)]) hx hb dX8_raise_145 hl (k := 8) rfl rfl (by decide) rfl (fun ls hl => ?_)
                            refine lv_goto (tgt := 56) hx hb dX8_raise_148 (by decide) ?_
                            exact ih (x6_12 + t_23) (x8_13 + 1) c_grey_22 _ _ _ hP hD hS (lv_sub hl [2, 3, 4, 5, 6, 7, 1, 8, 0] rfl) h
                          · intro j_24 J_25 h
                            refine lv_icmp_ne (tgt := 141) hx hb dX8_raise_134 (by decide) (fun q_26 => ?_) (fun q_26 => ?_)
                            · have h := it_f q_26 h
                              refine lv_iconst (v := 1) hx hb dX8_raise_141 (by decide) ?_
                              exact J_25 1 _ _ _ hP hD hS (lv_sub hl [1, 2, 3, 4, 5, 6, 8, 9] rfl) h
                            · have h := it_t q_26 h
                              refine lv_iconst (v := 0) hx hb dX8_raise_137 (by decide) ?_
                              refine lv_goto (tgt := 142) hx hb dX8_raise_138 (by decide) ?_
                              exact J_25 0 _ _ _ hP hD hS (lv_sub hl [1, 2, 3, 4, 5, 6, 8, 9] rfl) h
                        · intro j_20 J_21 h
                          refine lv_if_ge (tgt := 91) hx hb dX8_raise_84 (by decide) (fun q_28 => ?_) (fun q_28 => ?_)
                          · have h := it_t q_28 h
                            refine lv_iload hx hb dX8_raise_91 (lv_at hl 0 rfl) ?_
                            refine lv_iload hx hb dX8_raise_93 (lv_at hl 6 rfl) ?_
                            refine lv_iadd hx hb dX8_raise_95 ?_
                            refine lv_bipush (v := 99) hx hb dX8_raise_96 (by decide) ?_
                            refine lv_icmp_le (tgt := 106) hx hb dX8_raise_98 (by decide) (fun q_27 => ?_) (fun q_27 => ?_)
                            · have h := it_t q_27 h
                              refine lv_iload hx hb dX8_raise_106 (lv_at hl 0 rfl) ?_
                              refine lv_iload hx hb dX8_raise_108 (lv_at hl 6 rfl) ?_
                              refine lv_iadd hx hb dX8_raise_110 ?_
                              exact J_21 (y_18 + x5) _ _ _ hP hD hS (lv_sub hl [1, 2, 3, 4, 5, 6, 7, 8, 9, 0] rfl) h
                            · have h := it_f q_27 h
                              refine lv_bipush (v := 99) hx hb dX8_raise_101 (by decide) ?_
                              refine lv_goto (tgt := 111) hx hb dX8_raise_103 (by decide) ?_
                              exact J_21 99 _ _ _ hP hD hS (lv_sub hl [1, 2, 3, 4, 5, 6, 7, 8, 9, 0] rfl) h
                          · have h := it_f q_28 h
                            refine lv_iconst (v := 0) hx hb dX8_raise_87 (by decide) ?_
                            refine lv_goto (tgt := 111) hx hb dX8_raise_88 (by decide) ?_
                            exact J_21 0 _ _ _ hP hD hS (lv_sub hl [1, 2, 3, 4, 5, 6, 7, 8, 9, 0] rfl) h
                  exact L_17 FU x6_4 x1 c_grey_6 _ _ _ hP hD hS (lv_sub hl [1, 2, 3, 4, 5, 6, 7, 8, 0] rfl) h
          exact L_9 FU 0 x2 c_grey _ _ _ hP hD hS (lv_sub hl [2, 3, 4, 5, 6, 7, 1, 0] rfl) h
      · have h := it_t q_31 h
        refine lv_bipush (v := (-2)) hx hb dX8_raise_35 (by decide) ?_
        cases h
        exact ret_i hx hb hr rfl hQ hlocks hK hP hD hS dX8_raise_37
  · have h := it_t q_33 h
    refine lv_iconst (v := (-1)) hx hb dX8_raise_9 (by decide) ?_
    cases h
    exact ret_i hx hb hr rfl hQ hlocks hK hP hD hS dX8_raise_10
set_option maxHeartbeats 1000000 in
set_option maxRecDepth 100000 in
theorem c_X8_paste (l : Launch) (G : va_G) (kc : Nat → ClassId) (o : Nat) (ad : Nat → Nat) {c_worked : Int32} {c_width : Int32} {c_height : Int32} {c_grey : (Nat → Int32)} {c_setting : (Nat → Int32)} {c_leastOf : (Nat → Int32)} {c_mostOf : (Nat → Int32)} {c_lifted : (Nat → Int32)} {c_squares : Int32} {c_square : (Nat → Int32)} {c_dark : (Nat → Int32)} {c_light : (Nat → Int32)} {c_like : (Nat → Int32)} {c_isCrowded : (Nat → Int32)} {c_pairs : Int32} {c_first : (Nat → Int32)} {c_second : (Nat → Int32)} {c_votes : (Nat → Int32)} {c_shifts : Int32} {c_shiftX : (Nat → Int32)} {c_shiftY : (Nat → Int32)} {c_regionAt : (Nat → Int32)} {c_regions : Int32} {c_regionShift : (Nat → Int32)} {c_regionPairs : (Nat → Int32)} {c_regionFirst : (Nat → Int32)} {c_findings : Int32} {c_regionOf : (Nat → Int32)} {c_offset : (Nat → Int32)} {c_begun : (Nat → Int32)} {c_held : (Nat → Int32)} {c_isIn : (Nat → Int32)} {c_numbered : (Nat → Int32)} {c_left : Int32} {c_right : Int32} {c_top : Int32} {c_low : Int32} {c_missed : Int32} (x1 : Int32) (x2 : Int32) (x3 : Int32) (x4 : Int32) (x5 : Int32) (x6 : Int32) {r : Int32} {c_worked' : Int32} {c_grey' : (Nat → Int32)} {c_lifted' : (Nat → Int32)} {FU : Nat} (h : f_X8_paste FU c_worked c_width c_height c_grey c_lifted x1 x2 x3 x4 x5 x6 = some (r, c_worked', c_grey', c_lifted')) : CTi l G kc yX8_paste cX8_paste 12 (some .int) (rmq 2 44) [.ref o, .int x1, .int x2, .int x3, .int x4, .int x5, .int x6] (mW o ad kc c_worked c_width c_height c_grey c_setting c_leastOf c_mostOf c_lifted c_squares c_square c_dark c_light c_like c_isCrowded c_pairs c_first c_second c_votes c_shifts c_shiftX c_shiftY c_regionAt c_regions c_regionShift c_regionPairs c_regionFirst c_findings c_regionOf c_offset c_begun c_held c_isIn c_numbered c_left c_right c_top c_low c_missed) (mW o ad kc (c_worked') c_width c_height (c_grey') c_setting c_leastOf c_mostOf (c_lifted') c_squares c_square c_dark c_light c_like c_isCrowded c_pairs c_first c_second c_votes c_shifts c_shiftX c_shiftY c_regionAt c_regions c_regionShift c_regionPairs c_regionFirst c_findings c_regionOf c_offset c_begun c_held c_isIn c_numbered c_left c_right c_top c_low c_missed) r := by
  refine CTi.mk (by decide) (Nat.le_of_ble_eq_true rfl) ?_
  intro p e s m args below meth c A ls Q hQ S hr hlocks hN hA hK hl hP hD hS
  have hx := S.1
  have hb := S.2.1
  have hl : lv_has ls 12 [(0, .ref o), (1, .int x1), (2, .int x2), (3, .int x3), (4, .int x4), (5, .int x5), (6, .int x6)] := hl
  unfold f_X8_paste at h
  refine lv_aload_n hx hb dX8_paste_0 rfl (lv_at hl 0 rfl) ?_
  refine lv_iload_n hx hb dX8_paste_1 rfl (lv_at hl 1 rfl) ?_
  refine lv_iload_n hx hb dX8_paste_2 rfl (lv_at hl 2 rfl) ?_
  obtain ⟨r_1, hq, h⟩ := bd1_e h
  refine cs_Vi (rest := []) (ci := 7) S hN cb_X8_isPlace ml_X8_104 ⟨Nat.le_of_ble_eq_true rfl, Nat.le_of_ble_eq_true rfl⟩ (c_X8_isPlace l G kc o ad x1 x2 hq) hK hP hD hS hA 0 rfl rfl rfl rfl rfl (Nat.le_of_ble_eq_true rfl) hl.1 dX8_paste_3 (fun H locs hP hD hS => ?_)
  refine lv_if_eq (tgt := 20) hx hb dX8_paste_6 (by decide) (fun q_39 => ?_) (fun q_39 => ?_)
  · have h := it_t q_39 h
    refine lv_iconst (v := (-1)) hx hb dX8_paste_20 (by decide) ?_
    cases h
    exact ret_i hx hb hr rfl hQ hlocks hK hP hD hS dX8_paste_21
  · have h := it_f q_39 h
    refine lv_aload_n hx hb dX8_paste_9 rfl (lv_at hl 0 rfl) ?_
    refine lv_iload hx hb dX8_paste_10 (lv_at hl 5 rfl) ?_
    refine lv_iload hx hb dX8_paste_12 (lv_at hl 6 rfl) ?_
    obtain ⟨r_2, hq, h⟩ := bd1_e h
    refine cs_Vi (rest := []) (ci := 7) S hN cb_X8_isPlace ml_X8_104 ⟨Nat.le_of_ble_eq_true rfl, Nat.le_of_ble_eq_true rfl⟩ (c_X8_isPlace l G kc o ad x5 x6 hq) hK hP hD hS hA 0 rfl rfl rfl rfl rfl (Nat.le_of_ble_eq_true rfl) hl.1 dX8_paste_14 (fun H locs hP hD hS => ?_)
    refine lv_if_ne (tgt := 22) hx hb dX8_paste_17 (by decide) (fun q_38 => ?_) (fun q_38 => ?_)
    · have h := it_f q_38 h
      refine lv_aload_n hx hb dX8_paste_22 rfl (lv_at hl 0 rfl) ?_
      refine lv_iload_n hx hb dX8_paste_23 rfl (lv_at hl 1 rfl) ?_
      refine lv_iload_n hx hb dX8_paste_24 rfl (lv_at hl 2 rfl) ?_
      refine lv_iload_n hx hb dX8_paste_25 rfl (lv_at hl 3 rfl) ?_
      refine lv_iload hx hb dX8_paste_26 (lv_at hl 4 rfl) ?_
      obtain ⟨r_3, hq, h⟩ := bd1_e h
      refine cs_Vi (rest := []) (ci := 7) S hN cb_X8_isPart ml_X8_108 ⟨Nat.le_of_ble_eq_true rfl, Nat.le_of_ble_eq_true rfl⟩ (c_X8_isPart l G kc o ad x1 x2 x3 x4 hq) hK hP hD hS hA 0 rfl rfl rfl rfl rfl (Nat.le_of_ble_eq_true rfl) hl.1 dX8_paste_28 (fun H locs hP hD hS => ?_)
      refine lv_if_eq (tgt := 48) hx hb dX8_paste_31 (by decide) (fun q_37 => ?_) (fun q_37 => ?_)
      · have h := it_t q_37 h
        refine lv_bipush (v := (-2)) hx hb dX8_paste_48 (by decide) ?_
        cases h
        exact ret_i hx hb hr rfl hQ hlocks hK hP hD hS dX8_paste_50
      · have h := it_f q_37 h
        refine lv_aload_n hx hb dX8_paste_34 rfl (lv_at hl 0 rfl) ?_
        refine lv_iload hx hb dX8_paste_35 (lv_at hl 5 rfl) ?_
        refine lv_iload hx hb dX8_paste_37 (lv_at hl 6 rfl) ?_
        refine lv_iload_n hx hb dX8_paste_39 rfl (lv_at hl 3 rfl) ?_
        refine lv_iload hx hb dX8_paste_40 (lv_at hl 4 rfl) ?_
        obtain ⟨r_4, hq, h⟩ := bd1_e h
        refine cs_Vi (rest := []) (ci := 7) S hN cb_X8_isPart ml_X8_108 ⟨Nat.le_of_ble_eq_true rfl, Nat.le_of_ble_eq_true rfl⟩ (c_X8_isPart l G kc o ad x5 x6 x3 x4 hq) hK hP hD hS hA 0 rfl rfl rfl rfl rfl (Nat.le_of_ble_eq_true rfl) hl.1 dX8_paste_42 (fun H locs hP hD hS => ?_)
        refine lv_if_ne (tgt := 51) hx hb dX8_paste_45 (by decide) (fun q_36 => ?_) (fun q_36 => ?_)
        · have h := it_f q_36 h
          refine lv_iconst (v := 0) hx hb dX8_paste_51 (by decide) ?_
          refine lv_istore (lv' := [(7, .int 0), (0, .ref o), (1, .int x1), (2, .int x2), (3, .int x3), (4, .int x4), (5, .int x5), (6, .int x6)]) hx hb dX8_paste_52 hl (by decide) rfl (fun ls hl => ?_)
          refine jn_w (t := fun k => f_X8_paste_L54 FU c_grey k FU 0 c_lifted) (fun (k : Int32 → (Nat → Int32) → Option (Int32 × Int32 × (Nat → Int32) × (Nat → Int32))) => ∀ (x7_5 : Int32) (c_lifted_6 : (Nat → Int32)) (H : Heap) (locs : List Loc) (ls : Array Slot), VP G (mW o ad kc c_worked c_width c_height c_grey c_setting c_leastOf c_mostOf c_lifted_6 c_squares c_square c_dark c_light c_like c_isCrowded c_pairs c_first c_second c_votes c_shifts c_shiftX c_shiftY c_regionAt c_regions c_regionShift c_regionPairs c_regionFirst c_findings c_regionOf c_offset c_begun c_held c_isIn c_numbered c_left c_right c_top c_low c_missed) H → va_D A (mW o ad kc c_worked c_width c_height c_grey c_setting c_leastOf c_mostOf c_lifted_6 c_squares c_square c_dark c_light c_like c_isCrowded c_pairs c_first c_second c_votes c_shifts c_shiftX c_shiftY c_regionAt c_regions c_regionShift c_regionPairs c_regionFirst c_findings c_regionOf c_offset c_begun c_held c_isIn c_numbered c_left c_right c_top c_low c_missed) → va_S A s.heap H locs → lv_has ls 12 [(0, .ref o), (1, .int x1), (2, .int x2), (3, .int x3), (4, .int x4), (5, .int x5), (6, .int x6)] → k x7_5 c_lifted_6 = some (r, c_worked', c_grey', c_lifted') → WW p l e (rmq 2 44) s m args below meth c Q H locs 82 ls []) h ?_ ?_
          · intro x7_5 c_lifted_6 H locs ls hP hD hS hl h
            refine lv_iconst (v := 0) hx hb dX8_paste_82 (by decide) ?_
            refine lv_istore (lv' := [(7, .int 0), (0, .ref o), (1, .int x1), (2, .int x2), (3, .int x3), (4, .int x4), (5, .int x5), (6, .int x6)]) hx hb dX8_paste_83 hl (by decide) rfl (fun ls hl => ?_)
            refine lv_iconst (v := 0) hx hb dX8_paste_85 (by decide) ?_
            refine lv_istore (lv' := [(8, .int 0), (7, .int 0), (0, .ref o), (1, .int x1), (2, .int x2), (3, .int x3), (4, .int x4), (5, .int x5), (6, .int x6)]) hx hb dX8_paste_86 hl (by decide) rfl (fun ls hl => ?_)
            refine jn_w (t := fun k => f_X8_paste_L88 FU x1 x2 x3 x4 x5 x6 c_lifted_6 k FU 0 0 c_grey) (fun (k : Int32 → Int32 → (Nat → Int32) → Option (Int32 × Int32 × (Nat → Int32) × (Nat → Int32))) => ∀ (x7_10 : Int32) (x8_11 : Int32) (c_grey_12 : (Nat → Int32)) (H : Heap) (locs : List Loc) (ls : Array Slot), VP G (mW o ad kc c_worked c_width c_height c_grey_12 c_setting c_leastOf c_mostOf c_lifted_6 c_squares c_square c_dark c_light c_like c_isCrowded c_pairs c_first c_second c_votes c_shifts c_shiftX c_shiftY c_regionAt c_regions c_regionShift c_regionPairs c_regionFirst c_findings c_regionOf c_offset c_begun c_held c_isIn c_numbered c_left c_right c_top c_low c_missed) H → va_D A (mW o ad kc c_worked c_width c_height c_grey_12 c_setting c_leastOf c_mostOf c_lifted_6 c_squares c_square c_dark c_light c_like c_isCrowded c_pairs c_first c_second c_votes c_shifts c_shiftX c_shiftY c_regionAt c_regions c_regionShift c_regionPairs c_regionFirst c_findings c_regionOf c_offset c_begun c_held c_isIn c_numbered c_left c_right c_top c_low c_missed) → va_S A s.heap H locs → lv_has ls 12 [(0, .ref o), (7, .int x7_10)] → k x7_10 x8_11 c_grey_12 = some (r, c_worked', c_grey', c_lifted') → WW p l e (rmq 2 44) s m args below meth c Q H locs 182 ls []) h ?_ ?_
            · intro x7_10 x8_11 c_grey_12 H locs ls hP hD hS hl h
              refine lv_aload_n hx hb dX8_paste_182 rfl (lv_at hl 0 rfl) ?_
              refine lv_iload hx hb dX8_paste_183 (lv_at hl 1 rfl) ?_
              obtain ⟨r_16, c_worked_17, hq, h⟩ := bd2_e h
              refine cs_Vi (rest := []) (ci := 7) S hN cb_X8_changed ml_X8_100 ⟨Nat.le_of_ble_eq_true rfl, Nat.le_of_ble_eq_true rfl⟩ (c_X8_changed l G kc o ad x7_10 hq) hK hP hD hS hA 0 rfl rfl rfl rfl rfl (Nat.le_of_ble_eq_true rfl) hl.1 dX8_paste_185 (fun H locs hP hD hS => ?_)
              cases h
              exact ret_i hx hb hr rfl hQ hlocks hK hP hD hS dX8_paste_188
            · intro k_13 K_14 h
              have L_15 : ∀ (n : Nat) (x7_10 : Int32) (x8_11 : Int32) (c_grey_12 : (Nat → Int32)) (H : Heap) (locs : List Loc) (ls : Array Slot), VP G (mW o ad kc c_worked c_width c_height c_grey_12 c_setting c_leastOf c_mostOf c_lifted_6 c_squares c_square c_dark c_light c_like c_isCrowded c_pairs c_first c_second c_votes c_shifts c_shiftX c_shiftY c_regionAt c_regions c_regionShift c_regionPairs c_regionFirst c_findings c_regionOf c_offset c_begun c_held c_isIn c_numbered c_left c_right c_top c_low c_missed) H → va_D A (mW o ad kc c_worked c_width c_height c_grey_12 c_setting c_leastOf c_mostOf c_lifted_6 c_squares c_square c_dark c_light c_like c_isCrowded c_pairs c_first c_second c_votes c_shifts c_shiftX c_shiftY c_regionAt c_regions c_regionShift c_regionPairs c_regionFirst c_findings c_regionOf c_offset c_begun c_held c_isIn c_numbered c_left c_right c_top c_low c_missed) → va_S A s.heap H locs → lv_has ls 12 [(0, .ref o), (1, .int x1), (2, .int x2), (3, .int x3), (4, .int x4), (5, .int x5), (6, .int x6), (7, .int x7_10), (8, .int x8_11)] → f_X8_paste_L88 FU x1 x2 x3 x4 x5 x6 c_lifted_6 k_13 n x7_10 x8_11 c_grey_12 = some (r, c_worked', c_grey', c_lifted') → WW p l e (rmq 2 44) s m args below meth c Q H locs 88 ls [] := by
                intro n
                induction n with
                | zero => intro x7_10 x8_11 c_grey_12 H locs ls hP hD hS hl h; rw [f_X8_paste_L88] at h; cases h
                | succ n ih =>
                  intro x7_10 x8_11 c_grey_12 H locs ls hP hD hS hl h
                  rw [f_X8_paste_L88] at h
                  refine lv_iload hx hb dX8_paste_88 (lv_at hl 8 rfl) ?_
                  refine lv_iload hx hb dX8_paste_90 (lv_at hl 4 rfl) ?_
                  refine lv_icmp_ge (tgt := 182) hx hb dX8_paste_92 (by decide) (fun q_32 => ?_) (fun q_32 => ?_)
                  · have h := it_t q_32 h
                    exact K_14 x7_10 x8_11 c_grey_12 _ _ _ hP hD hS (lv_sub hl [0, 7] rfl) h
                  · have h := it_f q_32 h
                    refine lv_iconst (v := 0) hx hb dX8_paste_95 (by decide) ?_
                    refine lv_istore (lv' := [(9, .int 0), (0, .ref o), (1, .int x1), (2, .int x2), (3, .int x3), (4, .int x4), (5, .int x5), (6, .int x6), (7, .int x7_10), (8, .int x8_11)]) hx hb dX8_paste_96 hl (by decide) rfl (fun ls hl => ?_)
                    refine jn_w (t := fun k => f_X8_paste_L98 FU x1 x2 x3 x5 x6 x8_11 c_lifted_6 k FU x7_10 0 c_grey_12) (fun (k : Int32 → Int32 → (Nat → Int32) → Option (Int32 × Int32 × (Nat → Int32) × (Nat → Int32))) => ∀ (x7_18 : Int32) (x9_19 : Int32) (c_grey_20 : (Nat → Int32)) (H : Heap) (locs : List Loc) (ls : Array Slot), VP G (mW o ad kc c_worked c_width c_height c_grey_20 c_setting c_leastOf c_mostOf c_lifted_6 c_squares c_square c_dark c_light c_like c_isCrowded c_pairs c_first c_second c_votes c_shifts c_shiftX c_shiftY c_regionAt c_regions c_regionShift c_regionPairs c_regionFirst c_findings c_regionOf c_offset c_begun c_held c_isIn c_numbered c_left c_right c_top c_low c_missed) H → va_D A (mW o ad kc c_worked c_width c_height c_grey_20 c_setting c_leastOf c_mostOf c_lifted_6 c_squares c_square c_dark c_light c_like c_isCrowded c_pairs c_first c_second c_votes c_shifts c_shiftX c_shiftY c_regionAt c_regions c_regionShift c_regionPairs c_regionFirst c_findings c_regionOf c_offset c_begun c_held c_isIn c_numbered c_left c_right c_top c_low c_missed) → va_S A s.heap H locs → lv_has ls 12 [(0, .ref o), (1, .int x1), (2, .int x2), (3, .int x3), (4, .int x4), (5, .int x5), (6, .int x6), (7, .int x7_18), (8, .int x8_11)] → k x7_18 x9_19 c_grey_20 = some (r, c_worked', c_grey', c_lifted') → WW p l e (rmq 2 44) s m args below meth c Q H locs 176 ls []) h ?_ ?_
                    · intro x7_18 x9_19 c_grey_20 H locs ls hP hD hS hl h
                      refine lv_iinc (v := (x8_11 + 1)) (lv' := [(8, .int (x8_11 + 1)), (0, .ref o), (1, .int x1), (2, .int x2), (3, .int x3), (4, .int x4), (5, .int x5), (6, .int x6), (7, .int x7_18)]) hx hb dX8_paste_176 hl (k := 8) rfl rfl (by decide) rfl (fun ls hl => ?_)
                      refine lv_goto (tgt := 88) hx hb dX8_paste_179 (by decide) ?_
                      exact ih x7_18 (x8_11 + 1) c_grey_20 _ _ _ hP hD hS (lv_sub hl [1, 2, 3, 4, 5, 6, 7, 8, 0] rfl) h
                    · intro k_21 K_22 h
                      have L_23 : ∀ (n : Nat) (x7_18 : Int32) (x9_19 : Int32) (c_grey_20 : (Nat → Int32)) (H : Heap) (locs : List Loc) (ls : Array Slot), VP G (mW o ad kc c_worked c_width c_height c_grey_20 c_setting c_leastOf c_mostOf c_lifted_6 c_squares c_square c_dark c_light c_like c_isCrowded c_pairs c_first c_second c_votes c_shifts c_shiftX c_shiftY c_regionAt c_regions c_regionShift c_regionPairs c_regionFirst c_findings c_regionOf c_offset c_begun c_held c_isIn c_numbered c_left c_right c_top c_low c_missed) H → va_D A (mW o ad kc c_worked c_width c_height c_grey_20 c_setting c_leastOf c_mostOf c_lifted_6 c_squares c_square c_dark c_light c_like c_isCrowded c_pairs c_first c_second c_votes c_shifts c_shiftX c_shiftY c_regionAt c_regions c_regionShift c_regionPairs c_regionFirst c_findings c_regionOf c_offset c_begun c_held c_isIn c_numbered c_left c_right c_top c_low c_missed) → va_S A s.heap H locs → lv_has ls 12 [(0, .ref o), (1, .int x1), (2, .int x2), (3, .int x3), (4, .int x4), (5, .int x5), (6, .int x6), (7, .int x7_18), (8, .int x8_11), (9, .int x9_19)] → f_X8_paste_L98 FU x1 x2 x3 x5 x6 x8_11 c_lifted_6 k_21 n x7_18 x9_19 c_grey_20 = some (r, c_worked', c_grey', c_lifted') → WW p l e (rmq 2 44) s m args below meth c Q H locs 98 ls [] := by
                        intro n
                        induction n with
                        | zero => intro x7_18 x9_19 c_grey_20 H locs ls hP hD hS hl h; rw [f_X8_paste_L98] at h; cases h
                        | succ n ih =>
                          intro x7_18 x9_19 c_grey_20 H locs ls hP hD hS hl h
                          rw [f_X8_paste_L98] at h
                          refine lv_iload hx hb dX8_paste_98 (lv_at hl 9 rfl) ?_
                          refine lv_iload_n hx hb dX8_paste_100 rfl (lv_at hl 3 rfl) ?_
                          refine lv_icmp_ge (tgt := 176) hx hb dX8_paste_101 (by decide) (fun q_31 => ?_) (fun q_31 => ?_)
                          · have h := it_t q_31 h
                            exact K_22 x7_18 x9_19 c_grey_20 _ _ _ hP hD hS (lv_sub hl [0, 1, 2, 3, 4, 5, 6, 7, 8] rfl) h
                          · have h := it_f q_31 h
                            refine lv_bipush (v := 16) hx hb dX8_paste_104 (by decide) ?_
                            refine lv_iload hx hb dX8_paste_106 (lv_at hl 6 rfl) ?_
                            refine lv_iload hx hb dX8_paste_108 (lv_at hl 8 rfl) ?_
                            refine lv_iadd hx hb dX8_paste_110 ?_
                            refine lv_imul hx hb dX8_paste_111 ?_
                            refine lv_iload hx hb dX8_paste_112 (lv_at hl 5 rfl) ?_
                            refine lv_iadd hx hb dX8_paste_114 ?_
                            refine lv_iload hx hb dX8_paste_115 (lv_at hl 9 rfl) ?_
                            refine lv_iadd hx hb dX8_paste_117 ?_
                            refine lv_istore (lv' := [(10, .int (((16 * (x6 + x8_11)) + x5) + x9_19)), (0, .ref o), (1, .int x1), (2, .int x2), (3, .int x3), (4, .int x4), (5, .int x5), (6, .int x6), (7, .int x7_18), (8, .int x8_11), (9, .int x9_19)]) hx hb dX8_paste_118 hl (by decide) rfl (fun ls hl => ?_)
                            refine lv_aload_n hx hb dX8_paste_120 rfl (lv_at hl 1 rfl) ?_
                            refine r_get S gf_X8_29 hK hP 0 rfl rfl dX8_paste_121 ?_
                            refine lv_bipush (v := 16) hx hb dX8_paste_124 (by decide) ?_
                            refine lv_iload_n hx hb dX8_paste_126 rfl (lv_at hl 3 rfl) ?_
                            refine lv_iload hx hb dX8_paste_127 (lv_at hl 9 rfl) ?_
                            refine lv_iadd hx hb dX8_paste_129 ?_
                            refine lv_imul hx hb dX8_paste_130 ?_
                            refine lv_iload_n hx hb dX8_paste_131 rfl (lv_at hl 2 rfl) ?_
                            refine lv_iadd hx hb dX8_paste_132 ?_
                            refine lv_iload hx hb dX8_paste_133 (lv_at hl 10 rfl) ?_
                            refine lv_iadd hx hb dX8_paste_135 ?_
                            refine r_iald hx hb hK hP 5 rfl dX8_paste_136 h (fun y_24 h => ?_)
                            refine lv_istore (lv' := [(11, .int y_24), (10, .int (((16 * (x6 + x8_11)) + x5) + x9_19)), (0, .ref o), (1, .int x1), (2, .int x2), (3, .int x3), (4, .int x4), (5, .int x5), (6, .int x6), (7, .int x7_18), (8, .int x8_11), (9, .int x9_19)]) hx hb dX8_paste_137 hl (by decide) rfl (fun ls hl => ?_)
                            refine lv_iload hx hb dX8_paste_139 (lv_at hl 9 rfl) ?_
                            refine lv_aload_n hx hb dX8_paste_141 rfl (lv_at hl 2 rfl) ?_
                            refine r_get S gf_X8_16 hK hP 0 rfl rfl dX8_paste_142 ?_
                            refine lv_iload hx hb dX8_paste_145 (lv_at hl 1 rfl) ?_
                            refine r_iald hx hb hK hP 1 rfl dX8_paste_147 h (fun y_25 h => ?_)
                            refine lv_iload hx hb dX8_paste_148 (lv_at hl 0 rfl) ?_
                            refine jn_w (fun (k : Int32 → Option (Int32 × Int32 × (Nat → Int32) × (Nat → Int32))) => ∀ (t_26 : Int32) (H : Heap) (locs : List Loc) (ls : Array Slot), VP G (mW o ad kc c_worked c_width c_height c_grey_20 c_setting c_leastOf c_mostOf c_lifted_6 c_squares c_square c_dark c_light c_like c_isCrowded c_pairs c_first c_second c_votes c_shifts c_shiftX c_shiftY c_regionAt c_regions c_regionShift c_regionPairs c_regionFirst c_findings c_regionOf c_offset c_begun c_held c_isIn c_numbered c_left c_right c_top c_low c_missed) H → va_D A (mW o ad kc c_worked c_width c_height c_grey_20 c_setting c_leastOf c_mostOf c_lifted_6 c_squares c_square c_dark c_light c_like c_isCrowded c_pairs c_first c_second c_votes c_shifts c_shiftX c_shiftY c_regionAt c_regions c_regionShift c_regionPairs c_regionFirst c_findings c_regionOf c_offset c_begun c_held c_isIn c_numbered c_left c_right c_top c_low c_missed) → va_S A s.heap H locs → lv_has ls 12 [(0, .ref o), (1, .int x1), (2, .int x2), (3, .int x3), (4, .int x4), (5, .int x5), (6, .int x6), (8, .int x8_11), (9, .int x9_19), (10, .int (((16 * (x6 + x8_11)) + x5) + x9_19)), (11, .int y_24)] → k t_26 = some (r, c_worked', c_grey', c_lifted') → WW p l e (rmq 2 44) s m args below meth c Q H locs 158 ls [.int t_26, .int x7_18]) h ?_ ?_
                            · intro t_26 H locs ls hP hD hS hl h
                              refine lv_iadd hx hb dX8_paste_158 ?_
                              refine lv_istore (lv' := [(7, .int (x7_18 + t_26)), (0, .ref o), (1, .int x1), (2, .int x2), (3, .int x3), (4, .int x4), (5, .int x5), (6, .int x6), (8, .int x8_11), (9, .int x9_19), (10, .int (((16 * (x6 + x8_11)) + x5) + x9_19)), (11, .int y_24)]) hx hb dX8_paste_159 hl (by decide) rfl (fun ls hl => ?_)
                              refine lv_aload_n hx hb dX8_paste_161 rfl (lv_at hl 1 rfl) ?_
                              refine r_get S gf_X8_16 hK hP 0 rfl rfl dX8_paste_162 ?_
                              refine lv_iload hx hb dX8_paste_165 (lv_at hl 10 rfl) ?_
                              refine lv_iload hx hb dX8_paste_167 (lv_at hl 11 rfl) ?_
                              refine r_iast hx hb hK hP hD hS 1 rfl dX8_paste_169 h (fun c_grey_29 H locs hP hD hS h => ?_)
                              have hP : VP G (mW o ad kc c_worked c_width c_height c_grey_29 c_setting c_leastOf c_mostOf c_lifted_6 c_squares c_square c_dark c_light c_like c_isCrowded c_pairs c_first c_second c_votes c_shifts c_shiftX c_shiftY c_regionAt c_regions c_regionShift c_regionPairs c_regionFirst c_findings c_regionOf c_offset c_begun c_held c_isIn c_numbered c_left c_right c_top c_low c_missed) H := hP
                              have hD : va_D A (mW o ad kc c_worked c_width c_height c_grey_29 c_setting c_leastOf c_mostOf c_lifted_6 c_squares c_square c_dark c_light c_like c_isCrowded c_pairs c_first c_second c_votes c_shifts c_shiftX c_shiftY c_regionAt c_regions c_regionShift c_regionPairs c_regionFirst c_findings c_regionOf c_offset c_begun c_held c_isIn c_numbered c_left c_right c_top c_low c_missed) := hD
                              refine lv_iinc (v := (x9_19 + 1)) (lv' := [(9, .int (x9_19 + 1)), (7, .int (x7_18 + t_26)), (0, .ref o), (1, .int x1), (2, .int x2), (3, .int x3), (4, .int x4), (5, .int x5), (6, .int x6), (8, .int x8_11), (10, .int (((16 * (x6 + x8_11)) + x5) + x9_19)), (11, .int y_24)]) hx hb dX8_paste_170 hl (k := 9) rfl rfl (by decide) rfl (fun ls hl => ?_)
                              refine lv_goto (tgt := 98) hx hb dX8_paste_173 (by decide) ?_
                              exact ih (x7_18 + t_26) (x9_19 + 1) c_grey_29 _ _ _ hP hD hS (lv_sub hl [2, 3, 4, 5, 6, 7, 8, 1, 9, 0] rfl) h
                            · intro j_27 J_28 h
                              refine lv_icmp_ne (tgt := 157) hx hb dX8_paste_150 (by decide) (fun q_30 => ?_) (fun q_30 => ?_)
                              · have h := it_f q_30 h
                                refine lv_iconst (v := 1) hx hb dX8_paste_157 (by decide) ?_
                                exact J_28 1 _ _ _ hP hD hS (lv_sub hl [2, 3, 4, 5, 6, 7, 8, 10, 11, 1, 0] rfl) h
                              · have h := it_t q_30 h
                                refine lv_iconst (v := 0) hx hb dX8_paste_153 (by decide) ?_
                                refine lv_goto (tgt := 158) hx hb dX8_paste_154 (by decide) ?_
                                exact J_28 0 _ _ _ hP hD hS (lv_sub hl [2, 3, 4, 5, 6, 7, 8, 10, 11, 1, 0] rfl) h
                      exact L_23 FU x7_10 0 c_grey_12 _ _ _ hP hD hS (lv_sub hl [1, 2, 3, 4, 5, 6, 7, 8, 9, 0] rfl) h
              exact L_15 FU 0 0 c_grey _ _ _ hP hD hS (lv_sub hl [2, 3, 4, 5, 6, 7, 8, 1, 0] rfl) h
          · intro k_7 K_8 h
            have L_9 : ∀ (n : Nat) (x7_5 : Int32) (c_lifted_6 : (Nat → Int32)) (H : Heap) (locs : List Loc) (ls : Array Slot), VP G (mW o ad kc c_worked c_width c_height c_grey c_setting c_leastOf c_mostOf c_lifted_6 c_squares c_square c_dark c_light c_like c_isCrowded c_pairs c_first c_second c_votes c_shifts c_shiftX c_shiftY c_regionAt c_regions c_regionShift c_regionPairs c_regionFirst c_findings c_regionOf c_offset c_begun c_held c_isIn c_numbered c_left c_right c_top c_low c_missed) H → va_D A (mW o ad kc c_worked c_width c_height c_grey c_setting c_leastOf c_mostOf c_lifted_6 c_squares c_square c_dark c_light c_like c_isCrowded c_pairs c_first c_second c_votes c_shifts c_shiftX c_shiftY c_regionAt c_regions c_regionShift c_regionPairs c_regionFirst c_findings c_regionOf c_offset c_begun c_held c_isIn c_numbered c_left c_right c_top c_low c_missed) → va_S A s.heap H locs → lv_has ls 12 [(0, .ref o), (1, .int x1), (2, .int x2), (3, .int x3), (4, .int x4), (5, .int x5), (6, .int x6), (7, .int x7_5)] → f_X8_paste_L54 FU c_grey k_7 n x7_5 c_lifted_6 = some (r, c_worked', c_grey', c_lifted') → WW p l e (rmq 2 44) s m args below meth c Q H locs 54 ls [] := by
              intro n
              induction n with
              | zero => intro x7_5 c_lifted_6 H locs ls hP hD hS hl h; rw [f_X8_paste_L54] at h; cases h
              | succ n ih =>
                intro x7_5 c_lifted_6 H locs ls hP hD hS hl h
                rw [f_X8_paste_L54] at h
                refine lv_iload hx hb dX8_paste_54 (lv_at hl 7 rfl) ?_
                refine lv_sipush (v := 256) hx hb dX8_paste_56 (by decide) ?_
                refine lv_icmp_ge (tgt := 82) hx hb dX8_paste_59 (by decide) (fun q_35 => ?_) (fun q_35 => ?_)
                · have h := it_t q_35 h
                  exact K_8 x7_5 c_lifted_6 _ _ _ hP hD hS (lv_sub hl [0, 1, 2, 3, 4, 5, 6] rfl) h
                · have h := it_f q_35 h
                  refine lv_aload_n hx hb dX8_paste_62 rfl (lv_at hl 0 rfl) ?_
                  refine r_get S gf_X8_29 hK hP 0 rfl rfl dX8_paste_63 ?_
                  refine lv_iload hx hb dX8_paste_66 (lv_at hl 7 rfl) ?_
                  refine lv_aload_n hx hb dX8_paste_68 rfl (lv_at hl 0 rfl) ?_
                  refine r_get S gf_X8_16 hK hP 0 rfl rfl dX8_paste_69 ?_
                  refine lv_iload hx hb dX8_paste_72 (lv_at hl 7 rfl) ?_
                  refine r_iald hx hb hK hP 1 rfl dX8_paste_74 h (fun y_33 h => ?_)
                  refine r_iast hx hb hK hP hD hS 5 rfl dX8_paste_75 h (fun c_lifted_34 H locs hP hD hS h => ?_)
                  have hP : VP G (mW o ad kc c_worked c_width c_height c_grey c_setting c_leastOf c_mostOf c_lifted_34 c_squares c_square c_dark c_light c_like c_isCrowded c_pairs c_first c_second c_votes c_shifts c_shiftX c_shiftY c_regionAt c_regions c_regionShift c_regionPairs c_regionFirst c_findings c_regionOf c_offset c_begun c_held c_isIn c_numbered c_left c_right c_top c_low c_missed) H := hP
                  have hD : va_D A (mW o ad kc c_worked c_width c_height c_grey c_setting c_leastOf c_mostOf c_lifted_34 c_squares c_square c_dark c_light c_like c_isCrowded c_pairs c_first c_second c_votes c_shifts c_shiftX c_shiftY c_regionAt c_regions c_regionShift c_regionPairs c_regionFirst c_findings c_regionOf c_offset c_begun c_held c_isIn c_numbered c_left c_right c_top c_low c_missed) := hD
                  refine lv_iinc (v := (x7_5 + 1)) (lv' := [(7, .int (x7_5 + 1)), (0, .ref o), (1, .int x1), (2, .int x2), (3, .int x3), (4, .int x4), (5, .int x5), (6, .int x6)]) hx hb dX8_paste_76 hl (k := 7) rfl rfl (by decide) rfl (fun ls hl => ?_)
                  refine lv_goto (tgt := 54) hx hb dX8_paste_79 (by decide) ?_
                  exact ih (x7_5 + 1) c_lifted_34 _ _ _ hP hD hS (lv_sub hl [1, 2, 3, 4, 5, 6, 7, 0] rfl) h
            exact L_9 FU 0 c_lifted _ _ _ hP hD hS (lv_sub hl [1, 2, 3, 4, 5, 6, 7, 0] rfl) h
        · have h := it_t q_36 h
          refine lv_bipush (v := (-2)) hx hb dX8_paste_48 (by decide) ?_
          cases h
          exact ret_i hx hb hr rfl hQ hlocks hK hP hD hS dX8_paste_50
    · have h := it_t q_38 h
      refine lv_iconst (v := (-1)) hx hb dX8_paste_20 (by decide) ?_
      cases h
      exact ret_i hx hb hr rfl hQ hlocks hK hP hD hS dX8_paste_21
set_option maxHeartbeats 1000000 in
set_option maxRecDepth 100000 in
theorem c_X8_isSetting (l : Launch) (G : va_G) (kc : Nat → ClassId) (o : Nat) (ad : Nat → Nat) {c_worked : Int32} {c_width : Int32} {c_height : Int32} {c_grey : (Nat → Int32)} {c_setting : (Nat → Int32)} {c_leastOf : (Nat → Int32)} {c_mostOf : (Nat → Int32)} {c_lifted : (Nat → Int32)} {c_squares : Int32} {c_square : (Nat → Int32)} {c_dark : (Nat → Int32)} {c_light : (Nat → Int32)} {c_like : (Nat → Int32)} {c_isCrowded : (Nat → Int32)} {c_pairs : Int32} {c_first : (Nat → Int32)} {c_second : (Nat → Int32)} {c_votes : (Nat → Int32)} {c_shifts : Int32} {c_shiftX : (Nat → Int32)} {c_shiftY : (Nat → Int32)} {c_regionAt : (Nat → Int32)} {c_regions : Int32} {c_regionShift : (Nat → Int32)} {c_regionPairs : (Nat → Int32)} {c_regionFirst : (Nat → Int32)} {c_findings : Int32} {c_regionOf : (Nat → Int32)} {c_offset : (Nat → Int32)} {c_begun : (Nat → Int32)} {c_held : (Nat → Int32)} {c_isIn : (Nat → Int32)} {c_numbered : (Nat → Int32)} {c_left : Int32} {c_right : Int32} {c_top : Int32} {c_low : Int32} {c_missed : Int32} (x1 : Int32) (x2 : Int32) {r : Int32} {FU : Nat} (h : f_X8_isSetting FU c_leastOf c_mostOf x1 x2 = some r) : CTi l G kc yX8_isSetting cX8_isSetting 3 (some .boolean) (rmq 1 22) [.ref o, .int x1, .int x2] (mW o ad kc c_worked c_width c_height c_grey c_setting c_leastOf c_mostOf c_lifted c_squares c_square c_dark c_light c_like c_isCrowded c_pairs c_first c_second c_votes c_shifts c_shiftX c_shiftY c_regionAt c_regions c_regionShift c_regionPairs c_regionFirst c_findings c_regionOf c_offset c_begun c_held c_isIn c_numbered c_left c_right c_top c_low c_missed) (mW o ad kc c_worked c_width c_height c_grey c_setting c_leastOf c_mostOf c_lifted c_squares c_square c_dark c_light c_like c_isCrowded c_pairs c_first c_second c_votes c_shifts c_shiftX c_shiftY c_regionAt c_regions c_regionShift c_regionPairs c_regionFirst c_findings c_regionOf c_offset c_begun c_held c_isIn c_numbered c_left c_right c_top c_low c_missed) r := by
  refine CTi.mk (by decide) (Nat.le_of_ble_eq_true rfl) ?_
  intro p e s m args below meth c A ls Q hQ S hr hlocks hN hA hK hl hP hD hS
  have hx := S.1
  have hb := S.2.1
  have hl : lv_has ls 3 [(0, .ref o), (1, .int x1), (2, .int x2)] := hl
  unfold f_X8_isSetting at h
  refine lv_iload_n hx hb dX8_isSetting_0 rfl (lv_at hl 1 rfl) ?_
  refine lv_iconst (v := 0) hx hb dX8_isSetting_1 (by decide) ?_
  refine lv_bipush (v := 7) hx hb dX8_isSetting_2 (by decide) ?_
  obtain ⟨r_1, hq, h⟩ := bd1_e h
  refine cp_Si (rest := []) [] S hN cb_X8_within ml_X8_96 ⟨Nat.le_of_ble_eq_true rfl, Nat.le_of_ble_eq_true rfl⟩ (c_X8_within l G kc x1 0 7 hq) hK hP hD hS hA rfl rfl rfl rfl rfl (Nat.le_of_ble_eq_true rfl) hl.1 dX8_isSetting_4 (fun H locs hP hD hS => ?_)
  have hP : VP G (mW o ad kc c_worked c_width c_height c_grey c_setting c_leastOf c_mostOf c_lifted c_squares c_square c_dark c_light c_like c_isCrowded c_pairs c_first c_second c_votes c_shifts c_shiftX c_shiftY c_regionAt c_regions c_regionShift c_regionPairs c_regionFirst c_findings c_regionOf c_offset c_begun c_held c_isIn c_numbered c_left c_right c_top c_low c_missed) H := hP
  have hD : va_D A (mW o ad kc c_worked c_width c_height c_grey c_setting c_leastOf c_mostOf c_lifted c_squares c_square c_dark c_light c_like c_isCrowded c_pairs c_first c_second c_votes c_shifts c_shiftX c_shiftY c_regionAt c_regions c_regionShift c_regionPairs c_regionFirst c_findings c_regionOf c_offset c_begun c_held c_isIn c_numbered c_left c_right c_top c_low c_missed) := hD
  refine lv_if_eq (tgt := 33) hx hb dX8_isSetting_7 (by decide) (fun q_6 => ?_) (fun q_6 => ?_)
  · have h := it_t q_6 h
    refine lv_iconst (v := 0) hx hb dX8_isSetting_33 (by decide) ?_
    cases h
    exact ret_i hx hb hr rfl hQ hlocks hK hP hD hS dX8_isSetting_34
  · have h := it_f q_6 h
    refine lv_iload_n hx hb dX8_isSetting_10 rfl (lv_at hl 2 rfl) ?_
    refine lv_aload_n hx hb dX8_isSetting_11 rfl (lv_at hl 0 rfl) ?_
    refine r_get S gf_X8_23 hK hP 0 rfl rfl dX8_isSetting_12 ?_
    refine lv_iload_n hx hb dX8_isSetting_15 rfl (lv_at hl 1 rfl) ?_
    refine r_iald hx hb hK hP 3 rfl dX8_isSetting_16 h (fun y_2 h => ?_)
    refine lv_aload_n hx hb dX8_isSetting_17 rfl (lv_at hl 0 rfl) ?_
    refine r_get S gf_X8_26 hK hP 0 rfl rfl dX8_isSetting_18 ?_
    refine lv_iload_n hx hb dX8_isSetting_21 rfl (lv_at hl 1 rfl) ?_
    refine r_iald hx hb hK hP 4 rfl dX8_isSetting_22 h (fun y_3 h => ?_)
    obtain ⟨r_4, hq, h⟩ := bd1_e h
    refine cp_Si (rest := []) [] S hN cb_X8_within ml_X8_96 ⟨Nat.le_of_ble_eq_true rfl, Nat.le_of_ble_eq_true rfl⟩ (c_X8_within l G kc x2 y_2 y_3 hq) hK hP hD hS hA rfl rfl rfl rfl rfl (Nat.le_of_ble_eq_true rfl) hl.1 dX8_isSetting_23 (fun H locs hP hD hS => ?_)
    have hP : VP G (mW o ad kc c_worked c_width c_height c_grey c_setting c_leastOf c_mostOf c_lifted c_squares c_square c_dark c_light c_like c_isCrowded c_pairs c_first c_second c_votes c_shifts c_shiftX c_shiftY c_regionAt c_regions c_regionShift c_regionPairs c_regionFirst c_findings c_regionOf c_offset c_begun c_held c_isIn c_numbered c_left c_right c_top c_low c_missed) H := hP
    have hD : va_D A (mW o ad kc c_worked c_width c_height c_grey c_setting c_leastOf c_mostOf c_lifted c_squares c_square c_dark c_light c_like c_isCrowded c_pairs c_first c_second c_votes c_shifts c_shiftX c_shiftY c_regionAt c_regions c_regionShift c_regionPairs c_regionFirst c_findings c_regionOf c_offset c_begun c_held c_isIn c_numbered c_left c_right c_top c_low c_missed) := hD
    refine lv_if_eq (tgt := 33) hx hb dX8_isSetting_26 (by decide) (fun q_5 => ?_) (fun q_5 => ?_)
    · have h := it_t q_5 h
      refine lv_iconst (v := 0) hx hb dX8_isSetting_33 (by decide) ?_
      cases h
      exact ret_i hx hb hr rfl hQ hlocks hK hP hD hS dX8_isSetting_34
    · have h := it_f q_5 h
      refine lv_iconst (v := 1) hx hb dX8_isSetting_29 (by decide) ?_
      refine lv_goto (tgt := 34) hx hb dX8_isSetting_30 (by decide) ?_
      cases h
      exact ret_i hx hb hr rfl hQ hlocks hK hP hD hS dX8_isSetting_34
set_option maxHeartbeats 1000000 in
set_option maxRecDepth 100000 in
theorem c_X8_tune (l : Launch) (G : va_G) (kc : Nat → ClassId) (o : Nat) (ad : Nat → Nat) {c_worked : Int32} {c_width : Int32} {c_height : Int32} {c_grey : (Nat → Int32)} {c_setting : (Nat → Int32)} {c_leastOf : (Nat → Int32)} {c_mostOf : (Nat → Int32)} {c_lifted : (Nat → Int32)} {c_squares : Int32} {c_square : (Nat → Int32)} {c_dark : (Nat → Int32)} {c_light : (Nat → Int32)} {c_like : (Nat → Int32)} {c_isCrowded : (Nat → Int32)} {c_pairs : Int32} {c_first : (Nat → Int32)} {c_second : (Nat → Int32)} {c_votes : (Nat → Int32)} {c_shifts : Int32} {c_shiftX : (Nat → Int32)} {c_shiftY : (Nat → Int32)} {c_regionAt : (Nat → Int32)} {c_regions : Int32} {c_regionShift : (Nat → Int32)} {c_regionPairs : (Nat → Int32)} {c_regionFirst : (Nat → Int32)} {c_findings : Int32} {c_regionOf : (Nat → Int32)} {c_offset : (Nat → Int32)} {c_begun : (Nat → Int32)} {c_held : (Nat → Int32)} {c_isIn : (Nat → Int32)} {c_numbered : (Nat → Int32)} {c_left : Int32} {c_right : Int32} {c_top : Int32} {c_low : Int32} {c_missed : Int32} (x1 : Int32) (x2 : Int32) {r : Int32} {c_worked' : Int32} {c_setting' : (Nat → Int32)} {FU : Nat} (h : f_X8_tune FU c_worked c_setting c_leastOf c_mostOf x1 x2 = some (r, c_worked', c_setting')) : CTi l G kc yX8_tune cX8_tune 4 (some .int) (rmq 2 44) [.ref o, .int x1, .int x2] (mW o ad kc c_worked c_width c_height c_grey c_setting c_leastOf c_mostOf c_lifted c_squares c_square c_dark c_light c_like c_isCrowded c_pairs c_first c_second c_votes c_shifts c_shiftX c_shiftY c_regionAt c_regions c_regionShift c_regionPairs c_regionFirst c_findings c_regionOf c_offset c_begun c_held c_isIn c_numbered c_left c_right c_top c_low c_missed) (mW o ad kc (c_worked') c_width c_height c_grey (c_setting') c_leastOf c_mostOf c_lifted c_squares c_square c_dark c_light c_like c_isCrowded c_pairs c_first c_second c_votes c_shifts c_shiftX c_shiftY c_regionAt c_regions c_regionShift c_regionPairs c_regionFirst c_findings c_regionOf c_offset c_begun c_held c_isIn c_numbered c_left c_right c_top c_low c_missed) r := by
  refine CTi.mk (by decide) (Nat.le_of_ble_eq_true rfl) ?_
  intro p e s m args below meth c A ls Q hQ S hr hlocks hN hA hK hl hP hD hS
  have hx := S.1
  have hb := S.2.1
  have hl : lv_has ls 4 [(0, .ref o), (1, .int x1), (2, .int x2)] := hl
  unfold f_X8_tune at h
  refine lv_aload_n hx hb dX8_tune_0 rfl (lv_at hl 0 rfl) ?_
  refine lv_iload_n hx hb dX8_tune_1 rfl (lv_at hl 1 rfl) ?_
  refine lv_iload_n hx hb dX8_tune_2 rfl (lv_at hl 2 rfl) ?_
  obtain ⟨r_1, hq, h⟩ := bd1_e h
  refine cs_Vi (rest := []) (ci := 7) S hN cb_X8_isSetting ml_X8_112 ⟨Nat.le_of_ble_eq_true rfl, Nat.le_of_ble_eq_true rfl⟩ (c_X8_isSetting l G kc o ad x1 x2 hq) hK hP hD hS hA 0 rfl rfl rfl rfl rfl (Nat.le_of_ble_eq_true rfl) hl.1 dX8_tune_3 (fun H locs hP hD hS => ?_)
  refine lv_if_ne (tgt := 12) hx hb dX8_tune_6 (by decide) (fun q_6 => ?_) (fun q_6 => ?_)
  · have h := it_f q_6 h
    refine lv_aload_n hx hb dX8_tune_12 rfl (lv_at hl 0 rfl) ?_
    refine r_get S gf_X8_20 hK hP 0 rfl rfl dX8_tune_13 ?_
    refine lv_iload_n hx hb dX8_tune_16 rfl (lv_at hl 1 rfl) ?_
    refine r_iald hx hb hK hP 2 rfl dX8_tune_17 h (fun y_2 h => ?_)
    refine lv_istore_n (lv' := [(3, .int y_2), (0, .ref o), (1, .int x1), (2, .int x2)]) hx hb dX8_tune_18 rfl hl (by decide) rfl (fun ls hl => ?_)
    refine lv_aload_n hx hb dX8_tune_19 rfl (lv_at hl 1 rfl) ?_
    refine r_get S gf_X8_20 hK hP 0 rfl rfl dX8_tune_20 ?_
    refine lv_iload_n hx hb dX8_tune_23 rfl (lv_at hl 2 rfl) ?_
    refine lv_iload_n hx hb dX8_tune_24 rfl (lv_at hl 3 rfl) ?_
    refine r_iast hx hb hK hP hD hS 2 rfl dX8_tune_25 h (fun c_setting_3 H locs hP hD hS h => ?_)
    have hP : VP G (mW o ad kc c_worked c_width c_height c_grey c_setting_3 c_leastOf c_mostOf c_lifted c_squares c_square c_dark c_light c_like c_isCrowded c_pairs c_first c_second c_votes c_shifts c_shiftX c_shiftY c_regionAt c_regions c_regionShift c_regionPairs c_regionFirst c_findings c_regionOf c_offset c_begun c_held c_isIn c_numbered c_left c_right c_top c_low c_missed) H := hP
    have hD : va_D A (mW o ad kc c_worked c_width c_height c_grey c_setting_3 c_leastOf c_mostOf c_lifted c_squares c_square c_dark c_light c_like c_isCrowded c_pairs c_first c_second c_votes c_shifts c_shiftX c_shiftY c_regionAt c_regions c_regionShift c_regionPairs c_regionFirst c_findings c_regionOf c_offset c_begun c_held c_isIn c_numbered c_left c_right c_top c_low c_missed) := hD
    refine lv_aload_n hx hb dX8_tune_26 rfl (lv_at hl 1 rfl) ?_
    refine lv_iload_n hx hb dX8_tune_27 rfl (lv_at hl 0 rfl) ?_
    obtain ⟨r_4, c_worked_5, hq, h⟩ := bd2_e h
    refine cs_Vi (rest := []) (ci := 7) S hN cb_X8_changed ml_X8_100 ⟨Nat.le_of_ble_eq_true rfl, Nat.le_of_ble_eq_true rfl⟩ (c_X8_changed l G kc o ad y_2 hq) hK hP hD hS hA 0 rfl rfl rfl rfl rfl (Nat.le_of_ble_eq_true rfl) hl.1 dX8_tune_28 (fun H locs hP hD hS => ?_)
    cases h
    exact ret_i hx hb hr rfl hQ hlocks hK hP hD hS dX8_tune_31
  · have h := it_t q_6 h
    refine lv_bipush (v := (-2)) hx hb dX8_tune_9 (by decide) ?_
    cases h
    exact ret_i hx hb hr rfl hQ hlocks hK hP hD hS dX8_tune_11
set_option maxHeartbeats 1000000 in
set_option maxRecDepth 100000 in
theorem c_X8_numbers (l : Launch) (G : va_G) (kc : Nat → ClassId) (o : Nat) (ad : Nat → Nat) {c_worked : Int32} {c_width : Int32} {c_height : Int32} {c_grey : (Nat → Int32)} {c_setting : (Nat → Int32)} {c_leastOf : (Nat → Int32)} {c_mostOf : (Nat → Int32)} {c_lifted : (Nat → Int32)} {c_squares : Int32} {c_square : (Nat → Int32)} {c_dark : (Nat → Int32)} {c_light : (Nat → Int32)} {c_like : (Nat → Int32)} {c_isCrowded : (Nat → Int32)} {c_pairs : Int32} {c_first : (Nat → Int32)} {c_second : (Nat → Int32)} {c_votes : (Nat → Int32)} {c_shifts : Int32} {c_shiftX : (Nat → Int32)} {c_shiftY : (Nat → Int32)} {c_regionAt : (Nat → Int32)} {c_regions : Int32} {c_regionShift : (Nat → Int32)} {c_regionPairs : (Nat → Int32)} {c_regionFirst : (Nat → Int32)} {c_findings : Int32} {c_regionOf : (Nat → Int32)} {c_offset : (Nat → Int32)} {c_begun : (Nat → Int32)} {c_held : (Nat → Int32)} {c_isIn : (Nat → Int32)} {c_numbered : (Nat → Int32)} {c_left : Int32} {c_right : Int32} {c_top : Int32} {c_low : Int32} {c_missed : Int32}  {r : Int32} {FU : Nat} (h : f_X8_numbers FU c_setting = some r) : CTi l G kc yX8_numbers cX8_numbers 1 (some .int) (rmq 0 0) [.ref o] (mW o ad kc c_worked c_width c_height c_grey c_setting c_leastOf c_mostOf c_lifted c_squares c_square c_dark c_light c_like c_isCrowded c_pairs c_first c_second c_votes c_shifts c_shiftX c_shiftY c_regionAt c_regions c_regionShift c_regionPairs c_regionFirst c_findings c_regionOf c_offset c_begun c_held c_isIn c_numbered c_left c_right c_top c_low c_missed) (mW o ad kc c_worked c_width c_height c_grey c_setting c_leastOf c_mostOf c_lifted c_squares c_square c_dark c_light c_like c_isCrowded c_pairs c_first c_second c_votes c_shifts c_shiftX c_shiftY c_regionAt c_regions c_regionShift c_regionPairs c_regionFirst c_findings c_regionOf c_offset c_begun c_held c_isIn c_numbered c_left c_right c_top c_low c_missed) r := by
  refine CTi.mk (by decide) (Nat.le_of_ble_eq_true rfl) ?_
  intro p e s m args below meth c A ls Q hQ S hr hlocks hN hA hK hl hP hD hS
  have hx := S.1
  have hb := S.2.1
  have hl : lv_has ls 1 [(0, .ref o)] := hl
  unfold f_X8_numbers at h
  refine lv_aload_n hx hb dX8_numbers_0 rfl (lv_at hl 0 rfl) ?_
  refine r_get S gf_X8_20 hK hP 0 rfl rfl dX8_numbers_1 ?_
  refine lv_iconst (v := 0) hx hb dX8_numbers_4 (by decide) ?_
  refine r_iald hx hb hK hP 2 rfl dX8_numbers_5 h (fun y_1 h => ?_)
  refine lv_aload_n hx hb dX8_numbers_6 rfl (lv_at hl 0 rfl) ?_
  refine r_get S gf_X8_20 hK hP 0 rfl rfl dX8_numbers_7 ?_
  refine lv_iconst (v := 0) hx hb dX8_numbers_10 (by decide) ?_
  refine r_iald hx hb hK hP 2 rfl dX8_numbers_11 h (fun y_2 h => ?_)
  refine lv_imul hx hb dX8_numbers_12 ?_
  cases h
  exact ret_i hx hb hr rfl hQ hlocks hK hP hD hS dX8_numbers_13
set_option maxHeartbeats 1000000 in
set_option maxRecDepth 100000 in
theorem c_X8_greyIn (l : Launch) (G : va_G) (kc : Nat → ClassId) (o : Nat) (ad : Nat → Nat) {c_worked : Int32} {c_width : Int32} {c_height : Int32} {c_grey : (Nat → Int32)} {c_setting : (Nat → Int32)} {c_leastOf : (Nat → Int32)} {c_mostOf : (Nat → Int32)} {c_lifted : (Nat → Int32)} {c_squares : Int32} {c_square : (Nat → Int32)} {c_dark : (Nat → Int32)} {c_light : (Nat → Int32)} {c_like : (Nat → Int32)} {c_isCrowded : (Nat → Int32)} {c_pairs : Int32} {c_first : (Nat → Int32)} {c_second : (Nat → Int32)} {c_votes : (Nat → Int32)} {c_shifts : Int32} {c_shiftX : (Nat → Int32)} {c_shiftY : (Nat → Int32)} {c_regionAt : (Nat → Int32)} {c_regions : Int32} {c_regionShift : (Nat → Int32)} {c_regionPairs : (Nat → Int32)} {c_regionFirst : (Nat → Int32)} {c_findings : Int32} {c_regionOf : (Nat → Int32)} {c_offset : (Nat → Int32)} {c_begun : (Nat → Int32)} {c_held : (Nat → Int32)} {c_isIn : (Nat → Int32)} {c_numbered : (Nat → Int32)} {c_left : Int32} {c_right : Int32} {c_top : Int32} {c_low : Int32} {c_missed : Int32} (x1 : Int32) (x2 : Int32) {r : Int32} {FU : Nat} (h : f_X8_greyIn FU c_grey c_setting c_square x1 x2 = some r) : CTi l G kc yX8_greyIn cX8_greyIn 3 (some .int) (rmq 0 0) [.ref o, .int x1, .int x2] (mW o ad kc c_worked c_width c_height c_grey c_setting c_leastOf c_mostOf c_lifted c_squares c_square c_dark c_light c_like c_isCrowded c_pairs c_first c_second c_votes c_shifts c_shiftX c_shiftY c_regionAt c_regions c_regionShift c_regionPairs c_regionFirst c_findings c_regionOf c_offset c_begun c_held c_isIn c_numbered c_left c_right c_top c_low c_missed) (mW o ad kc c_worked c_width c_height c_grey c_setting c_leastOf c_mostOf c_lifted c_squares c_square c_dark c_light c_like c_isCrowded c_pairs c_first c_second c_votes c_shifts c_shiftX c_shiftY c_regionAt c_regions c_regionShift c_regionPairs c_regionFirst c_findings c_regionOf c_offset c_begun c_held c_isIn c_numbered c_left c_right c_top c_low c_missed) r := by
  refine CTi.mk (by decide) (Nat.le_of_ble_eq_true rfl) ?_
  intro p e s m args below meth c A ls Q hQ S hr hlocks hN hA hK hl hP hD hS
  have hx := S.1
  have hb := S.2.1
  have hl : lv_has ls 3 [(0, .ref o), (1, .int x1), (2, .int x2)] := hl
  unfold f_X8_greyIn at h
  refine lv_aload_n hx hb dX8_greyIn_0 rfl (lv_at hl 0 rfl) ?_
  refine r_get S gf_X8_16 hK hP 0 rfl rfl dX8_greyIn_1 ?_
  refine lv_aload_n hx hb dX8_greyIn_4 rfl (lv_at hl 0 rfl) ?_
  refine r_get S gf_X8_32 hK hP 0 rfl rfl dX8_greyIn_5 ?_
  refine lv_iload_n hx hb dX8_greyIn_8 rfl (lv_at hl 1 rfl) ?_
  refine r_iald hx hb hK hP 6 rfl dX8_greyIn_9 h (fun y_1 h => ?_)
  refine lv_bipush (v := 16) hx hb dX8_greyIn_10 (by decide) ?_
  refine lv_iload_n hx hb dX8_greyIn_12 rfl (lv_at hl 2 rfl) ?_
  refine lv_aload_n hx hb dX8_greyIn_13 rfl (lv_at hl 0 rfl) ?_
  refine r_get S gf_X8_20 hK hP 0 rfl rfl dX8_greyIn_14 ?_
  refine lv_iconst (v := 0) hx hb dX8_greyIn_17 (by decide) ?_
  refine r_iald hx hb hK hP 2 rfl dX8_greyIn_18 h (fun y_2 h => ?_)
  refine r_idiv hx hb dX8_greyIn_19 h (fun z_3 h => ?_)
  refine lv_imul hx hb dX8_greyIn_20 ?_
  refine lv_iadd hx hb dX8_greyIn_21 ?_
  refine lv_iload_n hx hb dX8_greyIn_22 rfl (lv_at hl 2 rfl) ?_
  refine lv_aload_n hx hb dX8_greyIn_23 rfl (lv_at hl 0 rfl) ?_
  refine r_get S gf_X8_20 hK hP 0 rfl rfl dX8_greyIn_24 ?_
  refine lv_iconst (v := 0) hx hb dX8_greyIn_27 (by decide) ?_
  refine r_iald hx hb hK hP 2 rfl dX8_greyIn_28 h (fun y_4 h => ?_)
  refine r_irem hx hb dX8_greyIn_29 h (fun z_5 h => ?_)
  refine lv_iadd hx hb dX8_greyIn_30 ?_
  refine r_iald hx hb hK hP 1 rfl dX8_greyIn_31 h (fun y_6 h => ?_)
  cases h
  exact ret_i hx hb hr rfl hQ hlocks hK hP hD hS dX8_greyIn_32
set_option maxHeartbeats 1000000 in
set_option maxRecDepth 100000 in
theorem c_X8_numberIn (l : Launch) (G : va_G) (kc : Nat → ClassId) (o : Nat) (ad : Nat → Nat) {c_worked : Int32} {c_width : Int32} {c_height : Int32} {c_grey : (Nat → Int32)} {c_setting : (Nat → Int32)} {c_leastOf : (Nat → Int32)} {c_mostOf : (Nat → Int32)} {c_lifted : (Nat → Int32)} {c_squares : Int32} {c_square : (Nat → Int32)} {c_dark : (Nat → Int32)} {c_light : (Nat → Int32)} {c_like : (Nat → Int32)} {c_isCrowded : (Nat → Int32)} {c_pairs : Int32} {c_first : (Nat → Int32)} {c_second : (Nat → Int32)} {c_votes : (Nat → Int32)} {c_shifts : Int32} {c_shiftX : (Nat → Int32)} {c_shiftY : (Nat → Int32)} {c_regionAt : (Nat → Int32)} {c_regions : Int32} {c_regionShift : (Nat → Int32)} {c_regionPairs : (Nat → Int32)} {c_regionFirst : (Nat → Int32)} {c_findings : Int32} {c_regionOf : (Nat → Int32)} {c_offset : (Nat → Int32)} {c_begun : (Nat → Int32)} {c_held : (Nat → Int32)} {c_isIn : (Nat → Int32)} {c_numbered : (Nat → Int32)} {c_left : Int32} {c_right : Int32} {c_top : Int32} {c_low : Int32} {c_missed : Int32} (x1 : Int32) (x2 : Int32) {r : Int32} {FU : Nat} (h : f_X8_numberIn FU c_grey c_setting c_square c_dark x1 x2 = some r) : CTi l G kc yX8_numberIn cX8_numberIn 4 (some .int) (rmq 1 22) [.ref o, .int x1, .int x2] (mW o ad kc c_worked c_width c_height c_grey c_setting c_leastOf c_mostOf c_lifted c_squares c_square c_dark c_light c_like c_isCrowded c_pairs c_first c_second c_votes c_shifts c_shiftX c_shiftY c_regionAt c_regions c_regionShift c_regionPairs c_regionFirst c_findings c_regionOf c_offset c_begun c_held c_isIn c_numbered c_left c_right c_top c_low c_missed) (mW o ad kc c_worked c_width c_height c_grey c_setting c_leastOf c_mostOf c_lifted c_squares c_square c_dark c_light c_like c_isCrowded c_pairs c_first c_second c_votes c_shifts c_shiftX c_shiftY c_regionAt c_regions c_regionShift c_regionPairs c_regionFirst c_findings c_regionOf c_offset c_begun c_held c_isIn c_numbered c_left c_right c_top c_low c_missed) r := by
  refine CTi.mk (by decide) (Nat.le_of_ble_eq_true rfl) ?_
  intro p e s m args below meth c A ls Q hQ S hr hlocks hN hA hK hl hP hD hS
  have hx := S.1
  have hb := S.2.1
  have hl : lv_has ls 4 [(0, .ref o), (1, .int x1), (2, .int x2)] := hl
  unfold f_X8_numberIn at h
  refine lv_aload_n hx hb dX8_numberIn_0 rfl (lv_at hl 0 rfl) ?_
  refine lv_iload_n hx hb dX8_numberIn_1 rfl (lv_at hl 1 rfl) ?_
  refine lv_iload_n hx hb dX8_numberIn_2 rfl (lv_at hl 2 rfl) ?_
  obtain ⟨r_1, hq, h⟩ := bd1_e h
  refine cs_Vi (rest := []) (ci := 7) S hN cb_X8_greyIn ml_X8_115 ⟨Nat.le_of_ble_eq_true rfl, Nat.le_of_ble_eq_true rfl⟩ (c_X8_greyIn l G kc o ad x1 x2 hq) hK hP hD hS hA 0 rfl rfl rfl rfl rfl (Nat.le_of_ble_eq_true rfl) hl.1 dX8_numberIn_3 (fun H locs hP hD hS => ?_)
  refine lv_aload_n hx hb dX8_numberIn_6 rfl (lv_at hl 0 rfl) ?_
  refine r_get S gf_X8_20 hK hP 0 rfl rfl dX8_numberIn_7 ?_
  refine lv_iconst (v := 2) hx hb dX8_numberIn_10 (by decide) ?_
  refine r_iald hx hb hK hP 2 rfl dX8_numberIn_11 h (fun y_2 h => ?_)
  refine lv_iconst (v := 1) hx hb dX8_numberIn_12 (by decide) ?_
  refine jn_w (fun (k : Int32 → Option (Int32)) => ∀ (t_3 : Int32) (H : Heap) (locs : List Loc) (ls : Array Slot), VP G (mW o ad kc c_worked c_width c_height c_grey c_setting c_leastOf c_mostOf c_lifted c_squares c_square c_dark c_light c_like c_isCrowded c_pairs c_first c_second c_votes c_shifts c_shiftX c_shiftY c_regionAt c_regions c_regionShift c_regionPairs c_regionFirst c_findings c_regionOf c_offset c_begun c_held c_isIn c_numbered c_left c_right c_top c_low c_missed) H → va_D A (mW o ad kc c_worked c_width c_height c_grey c_setting c_leastOf c_mostOf c_lifted c_squares c_square c_dark c_light c_like c_isCrowded c_pairs c_first c_second c_votes c_shifts c_shiftX c_shiftY c_regionAt c_regions c_regionShift c_regionPairs c_regionFirst c_findings c_regionOf c_offset c_begun c_held c_isIn c_numbered c_left c_right c_top c_low c_missed) → va_S A s.heap H locs → lv_has ls 4 [(0, .ref o)] → k t_3 = some r → WW p l e (rmq 1 22) s m args below meth c Q H locs 26 ls [.int t_3, .int r_1]) h ?_ ?_
  · intro t_3 H locs ls hP hD hS hl h
    refine lv_isub hx hb dX8_numberIn_26 ?_
    refine lv_istore_n (lv' := [(3, .int (r_1 - t_3)), (0, .ref o)]) hx hb dX8_numberIn_27 rfl hl (by decide) rfl (fun ls hl => ?_)
    refine lv_iload_n hx hb dX8_numberIn_28 rfl (lv_at hl 0 rfl) ?_
    refine lv_aload_n hx hb dX8_numberIn_29 rfl (lv_at hl 1 rfl) ?_
    refine r_get S gf_X8_20 hK hP 0 rfl rfl dX8_numberIn_30 ?_
    refine lv_iconst (v := 1) hx hb dX8_numberIn_33 (by decide) ?_
    refine r_iald hx hb hK hP 2 rfl dX8_numberIn_34 h (fun y_6 h => ?_)
    refine r_idiv hx hb dX8_numberIn_35 h (fun z_7 h => ?_)
    cases h
    exact ret_i hx hb hr rfl hQ hlocks hK hP hD hS dX8_numberIn_36
  · intro j_4 J_5 h
    refine lv_icmp_ne (tgt := 25) hx hb dX8_numberIn_13 (by decide) (fun q_9 => ?_) (fun q_9 => ?_)
    · have h := it_f q_9 h
      refine lv_iconst (v := 0) hx hb dX8_numberIn_25 (by decide) ?_
      exact J_5 0 _ _ _ hP hD hS (lv_sub hl [0] rfl) h
    · have h := it_t q_9 h
      refine lv_aload_n hx hb dX8_numberIn_16 rfl (lv_at hl 0 rfl) ?_
      refine r_get S gf_X8_35 hK hP 0 rfl rfl dX8_numberIn_17 ?_
      refine lv_iload_n hx hb dX8_numberIn_20 rfl (lv_at hl 1 rfl) ?_
      refine r_iald hx hb hK hP 7 rfl dX8_numberIn_21 h (fun y_8 h => ?_)
      refine lv_goto (tgt := 26) hx hb dX8_numberIn_22 (by decide) ?_
      exact J_5 y_8 _ _ _ hP hD hS (lv_sub hl [0] rfl) h
