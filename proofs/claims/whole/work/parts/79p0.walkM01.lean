set_option maxHeartbeats 1000000 in
set_option maxRecDepth 100000 in
theorem c_X8_isFlat (l : Launch) (G : va_G) (kc : Nat → ClassId) (o : Nat) (ad : Nat → Nat) {c_worked : Int32} {c_width : Int32} {c_height : Int32} {c_grey : (Nat → Int32)} {c_setting : (Nat → Int32)} {c_leastOf : (Nat → Int32)} {c_mostOf : (Nat → Int32)} {c_lifted : (Nat → Int32)} {c_squares : Int32} {c_square : (Nat → Int32)} {c_dark : (Nat → Int32)} {c_light : (Nat → Int32)} {c_like : (Nat → Int32)} {c_isCrowded : (Nat → Int32)} {c_pairs : Int32} {c_first : (Nat → Int32)} {c_second : (Nat → Int32)} {c_votes : (Nat → Int32)} {c_shifts : Int32} {c_shiftX : (Nat → Int32)} {c_shiftY : (Nat → Int32)} {c_regionAt : (Nat → Int32)} {c_regions : Int32} {c_regionShift : (Nat → Int32)} {c_regionPairs : (Nat → Int32)} {c_regionFirst : (Nat → Int32)} {c_findings : Int32} {c_regionOf : (Nat → Int32)} {c_offset : (Nat → Int32)} {c_begun : (Nat → Int32)} {c_held : (Nat → Int32)} {c_isIn : (Nat → Int32)} {c_numbered : (Nat → Int32)} {c_left : Int32} {c_right : Int32} {c_top : Int32} {c_low : Int32} {c_missed : Int32} (x1 : Int32) {r : Int32} {FU : Nat} (h : f_X8_isFlat FU c_setting c_dark c_light x1 = some r) : CTi l G kc yX8_isFlat cX8_isFlat 2 (some .boolean) (rmq 0 0) [.ref o, .int x1] (mW o ad kc c_worked c_width c_height c_grey c_setting c_leastOf c_mostOf c_lifted c_squares c_square c_dark c_light c_like c_isCrowded c_pairs c_first c_second c_votes c_shifts c_shiftX c_shiftY c_regionAt c_regions c_regionShift c_regionPairs c_regionFirst c_findings c_regionOf c_offset c_begun c_held c_isIn c_numbered c_left c_right c_top c_low c_missed) (mW o ad kc c_worked c_width c_height c_grey c_setting c_leastOf c_mostOf c_lifted c_squares c_square c_dark c_light c_like c_isCrowded c_pairs c_first c_second c_votes c_shifts c_shiftX c_shiftY c_regionAt c_regions c_regionShift c_regionPairs c_regionFirst c_findings c_regionOf c_offset c_begun c_held c_isIn c_numbered c_left c_right c_top c_low c_missed) r := by
  refine CTi.mk (by decide) (Nat.le_of_ble_eq_true rfl) ?_
  intro p e s m args below meth c A ls Q hQ S hr hlocks hN hA hK hl hP hD hS
  have hx := S.1
  have hb := S.2.1
  have hl : lv_has ls 2 [(0, .ref o), (1, .int x1)] := hl
  unfold f_X8_isFlat at h
  refine lv_aload_n hx hb dX8_isFlat_0 rfl (lv_at hl 0 rfl) ?_
  refine r_get S gf_X8_38 hK hP 0 rfl rfl dX8_isFlat_1 ?_
  refine lv_iload_n hx hb dX8_isFlat_4 rfl (lv_at hl 1 rfl) ?_
  refine r_iald hx hb hK hP 8 rfl dX8_isFlat_5 h (fun y_1 h => ?_)
  refine lv_aload_n hx hb dX8_isFlat_6 rfl (lv_at hl 0 rfl) ?_
  refine r_get S gf_X8_35 hK hP 0 rfl rfl dX8_isFlat_7 ?_
  refine lv_iload_n hx hb dX8_isFlat_10 rfl (lv_at hl 1 rfl) ?_
  refine r_iald hx hb hK hP 7 rfl dX8_isFlat_11 h (fun y_2 h => ?_)
  refine lv_isub hx hb dX8_isFlat_12 ?_
  refine lv_aload_n hx hb dX8_isFlat_13 rfl (lv_at hl 0 rfl) ?_
  refine r_get S gf_X8_20 hK hP 0 rfl rfl dX8_isFlat_14 ?_
  refine lv_iconst (v := 3) hx hb dX8_isFlat_17 (by decide) ?_
  refine r_iald hx hb hK hP 2 rfl dX8_isFlat_18 h (fun y_3 h => ?_)
  refine lv_icmp_gt (tgt := 26) hx hb dX8_isFlat_19 (by decide) (fun q_4 => ?_) (fun q_4 => ?_)
  · have h := it_t q_4 h
    refine lv_iconst (v := 0) hx hb dX8_isFlat_26 (by decide) ?_
    cases h
    exact ret_i hx hb hr rfl hQ hlocks hK hP hD hS dX8_isFlat_27
  · have h := it_f q_4 h
    refine lv_iconst (v := 1) hx hb dX8_isFlat_22 (by decide) ?_
    refine lv_goto (tgt := 27) hx hb dX8_isFlat_23 (by decide) ?_
    cases h
    exact ret_i hx hb hr rfl hQ hlocks hK hP hD hS dX8_isFlat_27
set_option maxHeartbeats 1000000 in
set_option maxRecDepth 100000 in
theorem c_X8_compared (l : Launch) (G : va_G) (kc : Nat → ClassId) (o : Nat) (ad : Nat → Nat) {c_worked : Int32} {c_width : Int32} {c_height : Int32} {c_grey : (Nat → Int32)} {c_setting : (Nat → Int32)} {c_leastOf : (Nat → Int32)} {c_mostOf : (Nat → Int32)} {c_lifted : (Nat → Int32)} {c_squares : Int32} {c_square : (Nat → Int32)} {c_dark : (Nat → Int32)} {c_light : (Nat → Int32)} {c_like : (Nat → Int32)} {c_isCrowded : (Nat → Int32)} {c_pairs : Int32} {c_first : (Nat → Int32)} {c_second : (Nat → Int32)} {c_votes : (Nat → Int32)} {c_shifts : Int32} {c_shiftX : (Nat → Int32)} {c_shiftY : (Nat → Int32)} {c_regionAt : (Nat → Int32)} {c_regions : Int32} {c_regionShift : (Nat → Int32)} {c_regionPairs : (Nat → Int32)} {c_regionFirst : (Nat → Int32)} {c_findings : Int32} {c_regionOf : (Nat → Int32)} {c_offset : (Nat → Int32)} {c_begun : (Nat → Int32)} {c_held : (Nat → Int32)} {c_isIn : (Nat → Int32)} {c_numbered : (Nat → Int32)} {c_left : Int32} {c_right : Int32} {c_top : Int32} {c_low : Int32} {c_missed : Int32} (x1 : Int32) (x2 : Int32) {r : Int32} {FU : Nat} (h : f_X8_compared FU c_grey c_setting c_square c_dark x1 x2 = some r) : CTi l G kc yX8_compared cX8_compared 5 (some .int) (rmq 2 45) [.ref o, .int x1, .int x2] (mW o ad kc c_worked c_width c_height c_grey c_setting c_leastOf c_mostOf c_lifted c_squares c_square c_dark c_light c_like c_isCrowded c_pairs c_first c_second c_votes c_shifts c_shiftX c_shiftY c_regionAt c_regions c_regionShift c_regionPairs c_regionFirst c_findings c_regionOf c_offset c_begun c_held c_isIn c_numbered c_left c_right c_top c_low c_missed) (mW o ad kc c_worked c_width c_height c_grey c_setting c_leastOf c_mostOf c_lifted c_squares c_square c_dark c_light c_like c_isCrowded c_pairs c_first c_second c_votes c_shifts c_shiftX c_shiftY c_regionAt c_regions c_regionShift c_regionPairs c_regionFirst c_findings c_regionOf c_offset c_begun c_held c_isIn c_numbered c_left c_right c_top c_low c_missed) r := by
  refine CTi.mk (by decide) (Nat.le_of_ble_eq_true rfl) ?_
  intro p e s m args below meth c A ls Q hQ S hr hlocks hN hA hK hl hP hD hS
  have hx := S.1
  have hb := S.2.1
  have hl : lv_has ls 5 [(0, .ref o), (1, .int x1), (2, .int x2)] := hl
  unfold f_X8_compared at h
  refine lv_iconst (v := 0) hx hb dX8_compared_0 (by decide) ?_
  refine lv_istore_n (lv' := [(3, .int 0), (0, .ref o), (1, .int x1), (2, .int x2)]) hx hb dX8_compared_1 rfl hl (by decide) rfl (fun ls hl => ?_)
  refine jn_w (t := fun k => f_X8_compared_L2 FU x1 x2 c_grey c_setting c_square c_dark k FU 0) (fun (k : Int32 → Option (Int32)) => ∀ (x3_1 : Int32) (H : Heap) (locs : List Loc) (ls : Array Slot), VP G (mW o ad kc c_worked c_width c_height c_grey c_setting c_leastOf c_mostOf c_lifted c_squares c_square c_dark c_light c_like c_isCrowded c_pairs c_first c_second c_votes c_shifts c_shiftX c_shiftY c_regionAt c_regions c_regionShift c_regionPairs c_regionFirst c_findings c_regionOf c_offset c_begun c_held c_isIn c_numbered c_left c_right c_top c_low c_missed) H → va_D A (mW o ad kc c_worked c_width c_height c_grey c_setting c_leastOf c_mostOf c_lifted c_squares c_square c_dark c_light c_like c_isCrowded c_pairs c_first c_second c_votes c_shifts c_shiftX c_shiftY c_regionAt c_regions c_regionShift c_regionPairs c_regionFirst c_findings c_regionOf c_offset c_begun c_held c_isIn c_numbered c_left c_right c_top c_low c_missed) → va_S A s.heap H locs → lv_has ls 5 [] → k x3_1 = some r → WW p l e (rmq 2 45) s m args below meth c Q H locs 39 ls []) h ?_ ?_
  · intro x3_1 H locs ls hP hD hS hl h
    refine lv_iconst (v := 0) hx hb dX8_compared_39 (by decide) ?_
    cases h
    exact ret_i hx hb hr rfl hQ hlocks hK hP hD hS dX8_compared_40
  · intro k_2 K_3 h
    have L_4 : ∀ (n : Nat) (x3_1 : Int32) (H : Heap) (locs : List Loc) (ls : Array Slot), VP G (mW o ad kc c_worked c_width c_height c_grey c_setting c_leastOf c_mostOf c_lifted c_squares c_square c_dark c_light c_like c_isCrowded c_pairs c_first c_second c_votes c_shifts c_shiftX c_shiftY c_regionAt c_regions c_regionShift c_regionPairs c_regionFirst c_findings c_regionOf c_offset c_begun c_held c_isIn c_numbered c_left c_right c_top c_low c_missed) H → va_D A (mW o ad kc c_worked c_width c_height c_grey c_setting c_leastOf c_mostOf c_lifted c_squares c_square c_dark c_light c_like c_isCrowded c_pairs c_first c_second c_votes c_shifts c_shiftX c_shiftY c_regionAt c_regions c_regionShift c_regionPairs c_regionFirst c_findings c_regionOf c_offset c_begun c_held c_isIn c_numbered c_left c_right c_top c_low c_missed) → va_S A s.heap H locs → lv_has ls 5 [(0, .ref o), (1, .int x1), (2, .int x2), (3, .int x3_1)] → f_X8_compared_L2 FU x1 x2 c_grey c_setting c_square c_dark k_2 n x3_1 = some r → WW p l e (rmq 2 45) s m args below meth c Q H locs 2 ls [] := by
      intro n
      induction n with
      | zero => intro x3_1 H locs ls hP hD hS hl h; rw [f_X8_compared_L2] at h; cases h
      | succ n ih =>
        intro x3_1 H locs ls hP hD hS hl h
        rw [f_X8_compared_L2] at h
        refine lv_iload_n hx hb dX8_compared_2 rfl (lv_at hl 3 rfl) ?_
        refine lv_aload_n hx hb dX8_compared_3 rfl (lv_at hl 0 rfl) ?_
        obtain ⟨r_5, hq, h⟩ := bd1_e h
        refine cs_Vi (rest := [.int x3_1]) (ci := 7) S hN cb_X8_numbers ml_X8_119 ⟨Nat.le_of_ble_eq_true rfl, Nat.le_of_ble_eq_true rfl⟩ (c_X8_numbers l G kc o ad  hq) hK hP hD hS hA 0 rfl rfl rfl rfl rfl (Nat.le_of_ble_eq_true rfl) hl.1 dX8_compared_4 (fun H locs hP hD hS => ?_)
        refine lv_icmp_ge (tgt := 39) hx hb dX8_compared_7 (by decide) (fun q_9 => ?_) (fun q_9 => ?_)
        · have h := it_t q_9 h
          exact K_3 x3_1 _ _ _ hP hD hS (lv_sub hl [] rfl) h
        · have h := it_f q_9 h
          refine lv_aload_n hx hb dX8_compared_10 rfl (lv_at hl 0 rfl) ?_
          refine lv_iload_n hx hb dX8_compared_11 rfl (lv_at hl 1 rfl) ?_
          refine lv_iload_n hx hb dX8_compared_12 rfl (lv_at hl 3 rfl) ?_
          obtain ⟨r_6, hq, h⟩ := bd1_e h
          refine cs_Vi (rest := []) (ci := 7) S hN cb_X8_numberIn ml_X8_123 ⟨Nat.le_of_ble_eq_true rfl, Nat.le_of_ble_eq_true rfl⟩ (c_X8_numberIn l G kc o ad x1 x3_1 hq) hK hP hD hS hA 0 rfl rfl rfl rfl rfl (Nat.le_of_ble_eq_true rfl) hl.1 dX8_compared_13 (fun H locs hP hD hS => ?_)
          refine lv_aload_n hx hb dX8_compared_16 rfl (lv_at hl 0 rfl) ?_
          refine lv_iload_n hx hb dX8_compared_17 rfl (lv_at hl 2 rfl) ?_
          refine lv_iload_n hx hb dX8_compared_18 rfl (lv_at hl 3 rfl) ?_
          obtain ⟨r_7, hq, h⟩ := bd1_e h
          refine cs_Vi (rest := [.int r_6]) (ci := 7) S hN cb_X8_numberIn ml_X8_123 ⟨Nat.le_of_ble_eq_true rfl, Nat.le_of_ble_eq_true rfl⟩ (c_X8_numberIn l G kc o ad x2 x3_1 hq) hK hP hD hS hA 0 rfl rfl rfl rfl rfl (Nat.le_of_ble_eq_true rfl) hl.1 dX8_compared_19 (fun H locs hP hD hS => ?_)
          refine lv_isub hx hb dX8_compared_22 ?_
          refine lv_istore (lv' := [(4, .int (r_6 - r_7)), (0, .ref o), (1, .int x1), (2, .int x2), (3, .int x3_1)]) hx hb dX8_compared_23 hl (by decide) rfl (fun ls hl => ?_)
          refine lv_iload hx hb dX8_compared_25 (lv_at hl 0 rfl) ?_
          refine lv_if_eq (tgt := 33) hx hb dX8_compared_27 (by decide) (fun q_8 => ?_) (fun q_8 => ?_)
          · have h := it_t q_8 h
            refine lv_iinc (v := (x3_1 + 1)) (lv' := [(3, .int (x3_1 + 1)), (4, .int (r_6 - r_7)), (0, .ref o), (1, .int x1), (2, .int x2)]) hx hb dX8_compared_33 hl (k := 4) rfl rfl (by decide) rfl (fun ls hl => ?_)
            refine lv_goto (tgt := 2) hx hb dX8_compared_36 (by decide) ?_
            exact ih (x3_1 + 1) _ _ _ hP hD hS (lv_sub hl [2, 3, 4, 0] rfl) h
          · have h := it_f q_8 h
            refine lv_iload hx hb dX8_compared_30 (lv_at hl 0 rfl) ?_
            cases h
            exact ret_i hx hb hr rfl hQ hlocks hK hP hD hS dX8_compared_32
    exact L_4 FU 0 _ _ _ hP hD hS (lv_sub hl [1, 2, 3, 0] rfl) h
set_option maxHeartbeats 1000000 in
set_option maxRecDepth 100000 in
theorem c_X8_findSquares (l : Launch) (G : va_G) (kc : Nat → ClassId) (o : Nat) (ad : Nat → Nat) {c_worked : Int32} {c_width : Int32} {c_height : Int32} {c_grey : (Nat → Int32)} {c_setting : (Nat → Int32)} {c_leastOf : (Nat → Int32)} {c_mostOf : (Nat → Int32)} {c_lifted : (Nat → Int32)} {c_squares : Int32} {c_square : (Nat → Int32)} {c_dark : (Nat → Int32)} {c_light : (Nat → Int32)} {c_like : (Nat → Int32)} {c_isCrowded : (Nat → Int32)} {c_pairs : Int32} {c_first : (Nat → Int32)} {c_second : (Nat → Int32)} {c_votes : (Nat → Int32)} {c_shifts : Int32} {c_shiftX : (Nat → Int32)} {c_shiftY : (Nat → Int32)} {c_regionAt : (Nat → Int32)} {c_regions : Int32} {c_regionShift : (Nat → Int32)} {c_regionPairs : (Nat → Int32)} {c_regionFirst : (Nat → Int32)} {c_findings : Int32} {c_regionOf : (Nat → Int32)} {c_offset : (Nat → Int32)} {c_begun : (Nat → Int32)} {c_held : (Nat → Int32)} {c_isIn : (Nat → Int32)} {c_numbered : (Nat → Int32)} {c_left : Int32} {c_right : Int32} {c_top : Int32} {c_low : Int32} {c_missed : Int32}  {c_worked' : Int32} {c_squares' : Int32} {c_square' : (Nat → Int32)} {c_dark' : (Nat → Int32)} {c_light' : (Nat → Int32)} {c_like' : (Nat → Int32)} {FU : Nat} (h : f_X8_findSquares FU c_worked c_width c_height c_grey c_setting c_squares c_square c_dark c_light c_like = some (c_worked', c_squares', c_square', c_dark', c_light', c_like')) : CTv l G kc yX8_findSquares cX8_findSquares 5 none (rmq 3 69) [.ref o] (mW o ad kc c_worked c_width c_height c_grey c_setting c_leastOf c_mostOf c_lifted c_squares c_square c_dark c_light c_like c_isCrowded c_pairs c_first c_second c_votes c_shifts c_shiftX c_shiftY c_regionAt c_regions c_regionShift c_regionPairs c_regionFirst c_findings c_regionOf c_offset c_begun c_held c_isIn c_numbered c_left c_right c_top c_low c_missed) (mW o ad kc (c_worked') c_width c_height c_grey c_setting c_leastOf c_mostOf c_lifted (c_squares') (c_square') (c_dark') (c_light') (c_like') c_isCrowded c_pairs c_first c_second c_votes c_shifts c_shiftX c_shiftY c_regionAt c_regions c_regionShift c_regionPairs c_regionFirst c_findings c_regionOf c_offset c_begun c_held c_isIn c_numbered c_left c_right c_top c_low c_missed) := by
  refine CTv.mk (by decide) (Nat.le_of_ble_eq_true rfl) ?_
  intro p e s m args below meth c A ls Q hQ S hr hlocks hN hA hK hl hP hD hS
  have hx := S.1
  have hb := S.2.1
  have hl : lv_has ls 5 [(0, .ref o)] := hl
  unfold f_X8_findSquares at h
  refine lv_aload_n hx hb dX8_findSquares_0 rfl (lv_at hl 0 rfl) ?_
  refine r_get S gf_X8_93 hK hP 0 rfl rfl dX8_findSquares_1 ?_
  refine lv_if_le (tgt := 8) hx hb dX8_findSquares_4 (by decide) (fun q_70 => ?_) (fun q_70 => ?_)
  · have h := it_t q_70 h
    refine lv_aload_n hx hb dX8_findSquares_8 rfl (lv_at hl 0 rfl) ?_
    refine lv_iconst (v := 1) hx hb dX8_findSquares_9 (by decide) ?_
    refine r_put S pf_X8_93 hK hP hD hS 0 rfl (Nat.le_of_ble_eq_true rfl) dX8_findSquares_10 (fun H locs hP hD hS => ?_)
    have hP : VP G (mW o ad kc 1 c_width c_height c_grey c_setting c_leastOf c_mostOf c_lifted c_squares c_square c_dark c_light c_like c_isCrowded c_pairs c_first c_second c_votes c_shifts c_shiftX c_shiftY c_regionAt c_regions c_regionShift c_regionPairs c_regionFirst c_findings c_regionOf c_offset c_begun c_held c_isIn c_numbered c_left c_right c_top c_low c_missed) H := hP
    have hD : va_D A (mW o ad kc 1 c_width c_height c_grey c_setting c_leastOf c_mostOf c_lifted c_squares c_square c_dark c_light c_like c_isCrowded c_pairs c_first c_second c_votes c_shifts c_shiftX c_shiftY c_regionAt c_regions c_regionShift c_regionPairs c_regionFirst c_findings c_regionOf c_offset c_begun c_held c_isIn c_numbered c_left c_right c_top c_low c_missed) := hD
    refine lv_aload_n hx hb dX8_findSquares_13 rfl (lv_at hl 0 rfl) ?_
    refine lv_iconst (v := 0) hx hb dX8_findSquares_14 (by decide) ?_
    refine r_put S pf_X8_126 hK hP hD hS 0 rfl (Nat.le_of_ble_eq_true rfl) dX8_findSquares_15 (fun H locs hP hD hS => ?_)
    have hP : VP G (mW o ad kc 1 c_width c_height c_grey c_setting c_leastOf c_mostOf c_lifted 0 c_square c_dark c_light c_like c_isCrowded c_pairs c_first c_second c_votes c_shifts c_shiftX c_shiftY c_regionAt c_regions c_regionShift c_regionPairs c_regionFirst c_findings c_regionOf c_offset c_begun c_held c_isIn c_numbered c_left c_right c_top c_low c_missed) H := hP
    have hD : va_D A (mW o ad kc 1 c_width c_height c_grey c_setting c_leastOf c_mostOf c_lifted 0 c_square c_dark c_light c_like c_isCrowded c_pairs c_first c_second c_votes c_shifts c_shiftX c_shiftY c_regionAt c_regions c_regionShift c_regionPairs c_regionFirst c_findings c_regionOf c_offset c_begun c_held c_isIn c_numbered c_left c_right c_top c_low c_missed) := hD
    refine lv_iconst (v := 0) hx hb dX8_findSquares_18 (by decide) ?_
    refine lv_istore_n (lv' := [(1, .int 0), (0, .ref o)]) hx hb dX8_findSquares_19 rfl hl (by decide) rfl (fun ls hl => ?_)
    refine jn_w (t := fun k => f_X8_findSquares_L20 FU c_width c_height c_grey c_setting k FU 0 0 c_square c_dark c_light) (fun (k : Int32 → Int32 → (Nat → Int32) → (Nat → Int32) → (Nat → Int32) → Option (Int32 × Int32 × (Nat → Int32) × (Nat → Int32) × (Nat → Int32) × (Nat → Int32))) => ∀ (x1_1 : Int32) (c_squares_2 : Int32) (c_square_3 : (Nat → Int32)) (c_dark_4 : (Nat → Int32)) (c_light_5 : (Nat → Int32)) (H : Heap) (locs : List Loc) (ls : Array Slot), VP G (mW o ad kc 1 c_width c_height c_grey c_setting c_leastOf c_mostOf c_lifted c_squares_2 c_square_3 c_dark_4 c_light_5 c_like c_isCrowded c_pairs c_first c_second c_votes c_shifts c_shiftX c_shiftY c_regionAt c_regions c_regionShift c_regionPairs c_regionFirst c_findings c_regionOf c_offset c_begun c_held c_isIn c_numbered c_left c_right c_top c_low c_missed) H → va_D A (mW o ad kc 1 c_width c_height c_grey c_setting c_leastOf c_mostOf c_lifted c_squares_2 c_square_3 c_dark_4 c_light_5 c_like c_isCrowded c_pairs c_first c_second c_votes c_shifts c_shiftX c_shiftY c_regionAt c_regions c_regionShift c_regionPairs c_regionFirst c_findings c_regionOf c_offset c_begun c_held c_isIn c_numbered c_left c_right c_top c_low c_missed) → va_S A s.heap H locs → lv_has ls 5 [(0, .ref o)] → k x1_1 c_squares_2 c_square_3 c_dark_4 c_light_5 = some (c_worked', c_squares', c_square', c_dark', c_light', c_like') → WW p l e (rmq 3 69) s m args below meth c Q H locs 211 ls []) h ?_ ?_
    · intro x1_1 c_squares_2 c_square_3 c_dark_4 c_light_5 H locs ls hP hD hS hl h
      refine lv_iconst (v := 0) hx hb dX8_findSquares_211 (by decide) ?_
      refine lv_istore_n (lv' := [(1, .int 0), (0, .ref o)]) hx hb dX8_findSquares_212 rfl hl (by decide) rfl (fun ls hl => ?_)
      refine jn_w (t := fun k => f_X8_findSquares_L213 FU c_grey c_setting c_squares_2 c_square_3 c_dark_4 k FU 0 c_like) (fun (k : Int32 → (Nat → Int32) → Option (Int32 × Int32 × (Nat → Int32) × (Nat → Int32) × (Nat → Int32) × (Nat → Int32))) => ∀ (x1_9 : Int32) (c_like_10 : (Nat → Int32)) (H : Heap) (locs : List Loc) (ls : Array Slot), VP G (mW o ad kc 1 c_width c_height c_grey c_setting c_leastOf c_mostOf c_lifted c_squares_2 c_square_3 c_dark_4 c_light_5 c_like_10 c_isCrowded c_pairs c_first c_second c_votes c_shifts c_shiftX c_shiftY c_regionAt c_regions c_regionShift c_regionPairs c_regionFirst c_findings c_regionOf c_offset c_begun c_held c_isIn c_numbered c_left c_right c_top c_low c_missed) H → va_D A (mW o ad kc 1 c_width c_height c_grey c_setting c_leastOf c_mostOf c_lifted c_squares_2 c_square_3 c_dark_4 c_light_5 c_like_10 c_isCrowded c_pairs c_first c_second c_votes c_shifts c_shiftX c_shiftY c_regionAt c_regions c_regionShift c_regionPairs c_regionFirst c_findings c_regionOf c_offset c_begun c_held c_isIn c_numbered c_left c_right c_top c_low c_missed) → va_S A s.heap H locs → lv_has ls 5 [] → k x1_9 c_like_10 = some (c_worked', c_squares', c_square', c_dark', c_light', c_like') → WW p l e (rmq 3 69) s m args below meth c Q H locs 287 ls []) h ?_ ?_
      · intro x1_9 c_like_10 H locs ls hP hD hS hl h
        cases h
        exact ret_v hx hb hr hQ hlocks hK hP hD hS dX8_findSquares_287
      · intro k_11 K_12 h
        have L_13 : ∀ (n : Nat) (x1_9 : Int32) (c_like_10 : (Nat → Int32)) (H : Heap) (locs : List Loc) (ls : Array Slot), VP G (mW o ad kc 1 c_width c_height c_grey c_setting c_leastOf c_mostOf c_lifted c_squares_2 c_square_3 c_dark_4 c_light_5 c_like_10 c_isCrowded c_pairs c_first c_second c_votes c_shifts c_shiftX c_shiftY c_regionAt c_regions c_regionShift c_regionPairs c_regionFirst c_findings c_regionOf c_offset c_begun c_held c_isIn c_numbered c_left c_right c_top c_low c_missed) H → va_D A (mW o ad kc 1 c_width c_height c_grey c_setting c_leastOf c_mostOf c_lifted c_squares_2 c_square_3 c_dark_4 c_light_5 c_like_10 c_isCrowded c_pairs c_first c_second c_votes c_shifts c_shiftX c_shiftY c_regionAt c_regions c_regionShift c_regionPairs c_regionFirst c_findings c_regionOf c_offset c_begun c_held c_isIn c_numbered c_left c_right c_top c_low c_missed) → va_S A s.heap H locs → lv_has ls 5 [(0, .ref o), (1, .int x1_9)] → f_X8_findSquares_L213 FU c_grey c_setting c_squares_2 c_square_3 c_dark_4 k_11 n x1_9 c_like_10 = some (c_worked', c_squares', c_square', c_dark', c_light', c_like') → WW p l e (rmq 3 69) s m args below meth c Q H locs 213 ls [] := by
          intro n
          induction n with
          | zero => intro x1_9 c_like_10 H locs ls hP hD hS hl h; rw [f_X8_findSquares_L213] at h; cases h
          | succ n ih =>
            intro x1_9 c_like_10 H locs ls hP hD hS hl h
            rw [f_X8_findSquares_L213] at h
            refine lv_iload_n hx hb dX8_findSquares_213 rfl (lv_at hl 1 rfl) ?_
            refine lv_aload_n hx hb dX8_findSquares_214 rfl (lv_at hl 0 rfl) ?_
            refine r_get S gf_X8_126 hK hP 0 rfl rfl dX8_findSquares_215 ?_
            refine lv_icmp_ge (tgt := 287) hx hb dX8_findSquares_218 (by decide) (fun q_31 => ?_) (fun q_31 => ?_)
            · have h := it_t q_31 h
              exact K_12 x1_9 c_like_10 _ _ _ hP hD hS (lv_sub hl [] rfl) h
            · have h := it_f q_31 h
              refine lv_aload_n hx hb dX8_findSquares_221 rfl (lv_at hl 0 rfl) ?_
              refine r_get S gf_X8_41 hK hP 0 rfl rfl dX8_findSquares_222 ?_
              refine lv_iload_n hx hb dX8_findSquares_225 rfl (lv_at hl 1 rfl) ?_
              refine lv_iload_n hx hb dX8_findSquares_226 rfl (lv_at hl 1 rfl) ?_
              refine r_iast hx hb hK hP hD hS 9 rfl dX8_findSquares_227 h (fun c_like_14 H locs hP hD hS h => ?_)
              have hP : VP G (mW o ad kc 1 c_width c_height c_grey c_setting c_leastOf c_mostOf c_lifted c_squares_2 c_square_3 c_dark_4 c_light_5 c_like_14 c_isCrowded c_pairs c_first c_second c_votes c_shifts c_shiftX c_shiftY c_regionAt c_regions c_regionShift c_regionPairs c_regionFirst c_findings c_regionOf c_offset c_begun c_held c_isIn c_numbered c_left c_right c_top c_low c_missed) H := hP
              have hD : va_D A (mW o ad kc 1 c_width c_height c_grey c_setting c_leastOf c_mostOf c_lifted c_squares_2 c_square_3 c_dark_4 c_light_5 c_like_14 c_isCrowded c_pairs c_first c_second c_votes c_shifts c_shiftX c_shiftY c_regionAt c_regions c_regionShift c_regionPairs c_regionFirst c_findings c_regionOf c_offset c_begun c_held c_isIn c_numbered c_left c_right c_top c_low c_missed) := hD
              refine lv_iconst (v := 0) hx hb dX8_findSquares_228 (by decide) ?_
              refine lv_istore_n (lv' := [(2, .int 0), (0, .ref o), (1, .int x1_9)]) hx hb dX8_findSquares_229 rfl hl (by decide) rfl (fun ls hl => ?_)
              refine jn_w (t := fun k => f_X8_findSquares_L230 FU x1_9 c_grey c_setting c_square_3 c_dark_4 k FU 0 c_like_14) (fun (k : Int32 → (Nat → Int32) → Option (Int32 × Int32 × (Nat → Int32) × (Nat → Int32) × (Nat → Int32) × (Nat → Int32))) => ∀ (x2_15 : Int32) (c_like_16 : (Nat → Int32)) (H : Heap) (locs : List Loc) (ls : Array Slot), VP G (mW o ad kc 1 c_width c_height c_grey c_setting c_leastOf c_mostOf c_lifted c_squares_2 c_square_3 c_dark_4 c_light_5 c_like_16 c_isCrowded c_pairs c_first c_second c_votes c_shifts c_shiftX c_shiftY c_regionAt c_regions c_regionShift c_regionPairs c_regionFirst c_findings c_regionOf c_offset c_begun c_held c_isIn c_numbered c_left c_right c_top c_low c_missed) H → va_D A (mW o ad kc 1 c_width c_height c_grey c_setting c_leastOf c_mostOf c_lifted c_squares_2 c_square_3 c_dark_4 c_light_5 c_like_16 c_isCrowded c_pairs c_first c_second c_votes c_shifts c_shiftX c_shiftY c_regionAt c_regions c_regionShift c_regionPairs c_regionFirst c_findings c_regionOf c_offset c_begun c_held c_isIn c_numbered c_left c_right c_top c_low c_missed) → va_S A s.heap H locs → lv_has ls 5 [(0, .ref o), (1, .int x1_9)] → k x2_15 c_like_16 = some (c_worked', c_squares', c_square', c_dark', c_light', c_like') → WW p l e (rmq 3 69) s m args below meth c Q H locs 281 ls []) h ?_ ?_
              · intro x2_15 c_like_16 H locs ls hP hD hS hl h
                refine lv_iinc (v := (x1_9 + 1)) (lv' := [(1, .int (x1_9 + 1)), (0, .ref o)]) hx hb dX8_findSquares_281 hl (k := 1) rfl rfl (by decide) rfl (fun ls hl => ?_)
                refine lv_goto (tgt := 213) hx hb dX8_findSquares_284 (by decide) ?_
                exact ih (x1_9 + 1) c_like_16 _ _ _ hP hD hS (lv_sub hl [1, 0] rfl) h
              · intro k_17 K_18 h
                have L_19 : ∀ (n : Nat) (x2_15 : Int32) (c_like_16 : (Nat → Int32)) (H : Heap) (locs : List Loc) (ls : Array Slot), VP G (mW o ad kc 1 c_width c_height c_grey c_setting c_leastOf c_mostOf c_lifted c_squares_2 c_square_3 c_dark_4 c_light_5 c_like_16 c_isCrowded c_pairs c_first c_second c_votes c_shifts c_shiftX c_shiftY c_regionAt c_regions c_regionShift c_regionPairs c_regionFirst c_findings c_regionOf c_offset c_begun c_held c_isIn c_numbered c_left c_right c_top c_low c_missed) H → va_D A (mW o ad kc 1 c_width c_height c_grey c_setting c_leastOf c_mostOf c_lifted c_squares_2 c_square_3 c_dark_4 c_light_5 c_like_16 c_isCrowded c_pairs c_first c_second c_votes c_shifts c_shiftX c_shiftY c_regionAt c_regions c_regionShift c_regionPairs c_regionFirst c_findings c_regionOf c_offset c_begun c_held c_isIn c_numbered c_left c_right c_top c_low c_missed) → va_S A s.heap H locs → lv_has ls 5 [(0, .ref o), (1, .int x1_9), (2, .int x2_15)] → f_X8_findSquares_L230 FU x1_9 c_grey c_setting c_square_3 c_dark_4 k_17 n x2_15 c_like_16 = some (c_worked', c_squares', c_square', c_dark', c_light', c_like') → WW p l e (rmq 3 69) s m args below meth c Q H locs 230 ls [] := by
                  intro n
                  induction n with
                  | zero => intro x2_15 c_like_16 H locs ls hP hD hS hl h; rw [f_X8_findSquares_L230] at h; cases h
                  | succ n ih =>
                    intro x2_15 c_like_16 H locs ls hP hD hS hl h
                    rw [f_X8_findSquares_L230] at h
                    refine lv_iload_n hx hb dX8_findSquares_230 rfl (lv_at hl 2 rfl) ?_
                    refine lv_iload_n hx hb dX8_findSquares_231 rfl (lv_at hl 1 rfl) ?_
                    refine lv_icmp_ge (tgt := 281) hx hb dX8_findSquares_232 (by decide) (fun q_30 => ?_) (fun q_30 => ?_)
                    · have h := it_t q_30 h
                      exact K_18 x2_15 c_like_16 _ _ _ hP hD hS (lv_sub hl [0, 1] rfl) h
                    · have h := it_f q_30 h
                      refine lv_aload_n hx hb dX8_findSquares_235 rfl (lv_at hl 0 rfl) ?_
                      refine r_get S gf_X8_41 hK hP 0 rfl rfl dX8_findSquares_236 ?_
                      refine lv_iload_n hx hb dX8_findSquares_239 rfl (lv_at hl 1 rfl) ?_
                      refine r_iald hx hb hK hP 9 rfl dX8_findSquares_240 h (fun y_20 h => ?_)
                      refine lv_iload_n hx hb dX8_findSquares_241 rfl (lv_at hl 1 rfl) ?_
                      refine lv_icmp_ne (tgt := 281) hx hb dX8_findSquares_242 (by decide) (fun q_29 => ?_) (fun q_29 => ?_)
                      · have h := it_f q_29 h
                        exact K_18 x2_15 c_like_16 _ _ _ hP hD hS (lv_sub hl [0, 1] rfl) h
                      · have h := it_t q_29 h
                        refine lv_aload_n hx hb dX8_findSquares_245 rfl (lv_at hl 0 rfl) ?_
                        refine r_get S gf_X8_41 hK hP 0 rfl rfl dX8_findSquares_246 ?_
                        refine lv_iload_n hx hb dX8_findSquares_249 rfl (lv_at hl 1 rfl) ?_
                        refine lv_aload_n hx hb dX8_findSquares_250 rfl (lv_at hl 0 rfl) ?_
                        refine r_get S gf_X8_41 hK hP 0 rfl rfl dX8_findSquares_251 ?_
                        refine lv_iload_n hx hb dX8_findSquares_254 rfl (lv_at hl 2 rfl) ?_
                        refine r_iald hx hb hK hP 9 rfl dX8_findSquares_255 h (fun y_21 h => ?_)
                        refine lv_iload_n hx hb dX8_findSquares_256 rfl (lv_at hl 2 rfl) ?_
                        refine jn_w (fun (k : Int32 → Option (Int32 × Int32 × (Nat → Int32) × (Nat → Int32) × (Nat → Int32) × (Nat → Int32))) => ∀ (t_22 : Int32) (H : Heap) (locs : List Loc) (ls : Array Slot), VP G (mW o ad kc 1 c_width c_height c_grey c_setting c_leastOf c_mostOf c_lifted c_squares_2 c_square_3 c_dark_4 c_light_5 c_like_16 c_isCrowded c_pairs c_first c_second c_votes c_shifts c_shiftX c_shiftY c_regionAt c_regions c_regionShift c_regionPairs c_regionFirst c_findings c_regionOf c_offset c_begun c_held c_isIn c_numbered c_left c_right c_top c_low c_missed) H → va_D A (mW o ad kc 1 c_width c_height c_grey c_setting c_leastOf c_mostOf c_lifted c_squares_2 c_square_3 c_dark_4 c_light_5 c_like_16 c_isCrowded c_pairs c_first c_second c_votes c_shifts c_shiftX c_shiftY c_regionAt c_regions c_regionShift c_regionPairs c_regionFirst c_findings c_regionOf c_offset c_begun c_held c_isIn c_numbered c_left c_right c_top c_low c_missed) → va_S A s.heap H locs → lv_has ls 5 [(0, .ref o), (1, .int x1_9), (2, .int x2_15)] → k t_22 = some (c_worked', c_squares', c_square', c_dark', c_light', c_like') → WW p l e (rmq 3 69) s m args below meth c Q H locs 274 ls [.int t_22, .int x1_9, .ref (ad 12)]) h ?_ ?_
                        · intro t_22 H locs ls hP hD hS hl h
                          refine r_iast hx hb hK hP hD hS 9 rfl dX8_findSquares_274 h (fun c_like_25 H locs hP hD hS h => ?_)
                          have hP : VP G (mW o ad kc 1 c_width c_height c_grey c_setting c_leastOf c_mostOf c_lifted c_squares_2 c_square_3 c_dark_4 c_light_5 c_like_25 c_isCrowded c_pairs c_first c_second c_votes c_shifts c_shiftX c_shiftY c_regionAt c_regions c_regionShift c_regionPairs c_regionFirst c_findings c_regionOf c_offset c_begun c_held c_isIn c_numbered c_left c_right c_top c_low c_missed) H := hP
                          have hD : va_D A (mW o ad kc 1 c_width c_height c_grey c_setting c_leastOf c_mostOf c_lifted c_squares_2 c_square_3 c_dark_4 c_light_5 c_like_25 c_isCrowded c_pairs c_first c_second c_votes c_shifts c_shiftX c_shiftY c_regionAt c_regions c_regionShift c_regionPairs c_regionFirst c_findings c_regionOf c_offset c_begun c_held c_isIn c_numbered c_left c_right c_top c_low c_missed) := hD
                          refine lv_iinc (v := (x2_15 + 1)) (lv' := [(2, .int (x2_15 + 1)), (0, .ref o), (1, .int x1_9)]) hx hb dX8_findSquares_275 hl (k := 2) rfl rfl (by decide) rfl (fun ls hl => ?_)
                          refine lv_goto (tgt := 230) hx hb dX8_findSquares_278 (by decide) ?_
                          exact ih (x2_15 + 1) c_like_25 _ _ _ hP hD hS (lv_sub hl [1, 2, 0] rfl) h
                        · intro j_23 J_24 h
                          refine lv_icmp_ne (tgt := 273) hx hb dX8_findSquares_257 (by decide) (fun q_28 => ?_) (fun q_28 => ?_)
                          · have h := it_f q_28 h
                            refine lv_iload_n hx hb dX8_findSquares_273 rfl (lv_at hl 1 rfl) ?_
                            exact J_24 x1_9 _ _ _ hP hD hS (lv_sub hl [0, 1, 2] rfl) h
                          · have h := it_t q_28 h
                            refine lv_aload_n hx hb dX8_findSquares_260 rfl (lv_at hl 0 rfl) ?_
                            refine lv_iload_n hx hb dX8_findSquares_261 rfl (lv_at hl 1 rfl) ?_
                            refine lv_iload_n hx hb dX8_findSquares_262 rfl (lv_at hl 2 rfl) ?_
                            obtain ⟨r_26, hq, h⟩ := bd1_e h
                            refine cs_Vi (rest := [.int x1_9, .ref (ad 12)]) (ci := 7) S hN cb_X8_compared ml_X8_129 ⟨Nat.le_of_ble_eq_true rfl, Nat.le_of_ble_eq_true rfl⟩ (c_X8_compared l G kc o ad x1_9 x2_15 hq) hK hP hD hS hA 0 rfl rfl rfl rfl rfl (Nat.le_of_ble_eq_true rfl) hl.1 dX8_findSquares_263 (fun H locs hP hD hS => ?_)
                            refine lv_if_ne (tgt := 273) hx hb dX8_findSquares_266 (by decide) (fun q_27 => ?_) (fun q_27 => ?_)
                            · have h := it_f q_27 h
                              refine lv_iload_n hx hb dX8_findSquares_273 rfl (lv_at hl 1 rfl) ?_
                              exact J_24 x1_9 _ _ _ hP hD hS (lv_sub hl [0, 1, 2] rfl) h
                            · have h := it_t q_27 h
                              refine lv_iload_n hx hb dX8_findSquares_269 rfl (lv_at hl 2 rfl) ?_
                              refine lv_goto (tgt := 274) hx hb dX8_findSquares_270 (by decide) ?_
                              exact J_24 x2_15 _ _ _ hP hD hS (lv_sub hl [0, 1, 2] rfl) h
                exact L_19 FU 0 c_like_14 _ _ _ hP hD hS (lv_sub hl [1, 2, 0] rfl) h
        exact L_13 FU 0 c_like _ _ _ hP hD hS (lv_sub hl [1, 0] rfl) h
    · intro k_6 K_7 h
      have L_8 : ∀ (n : Nat) (x1_1 : Int32) (c_squares_2 : Int32) (c_square_3 : (Nat → Int32)) (c_dark_4 : (Nat → Int32)) (c_light_5 : (Nat → Int32)) (H : Heap) (locs : List Loc) (ls : Array Slot), VP G (mW o ad kc 1 c_width c_height c_grey c_setting c_leastOf c_mostOf c_lifted c_squares_2 c_square_3 c_dark_4 c_light_5 c_like c_isCrowded c_pairs c_first c_second c_votes c_shifts c_shiftX c_shiftY c_regionAt c_regions c_regionShift c_regionPairs c_regionFirst c_findings c_regionOf c_offset c_begun c_held c_isIn c_numbered c_left c_right c_top c_low c_missed) H → va_D A (mW o ad kc 1 c_width c_height c_grey c_setting c_leastOf c_mostOf c_lifted c_squares_2 c_square_3 c_dark_4 c_light_5 c_like c_isCrowded c_pairs c_first c_second c_votes c_shifts c_shiftX c_shiftY c_regionAt c_regions c_regionShift c_regionPairs c_regionFirst c_findings c_regionOf c_offset c_begun c_held c_isIn c_numbered c_left c_right c_top c_low c_missed) → va_S A s.heap H locs → lv_has ls 5 [(0, .ref o), (1, .int x1_1)] → f_X8_findSquares_L20 FU c_width c_height c_grey c_setting k_6 n x1_1 c_squares_2 c_square_3 c_dark_4 c_light_5 = some (c_worked', c_squares', c_square', c_dark', c_light', c_like') → WW p l e (rmq 3 69) s m args below meth c Q H locs 20 ls [] := by
        intro n
        induction n with
        | zero => intro x1_1 c_squares_2 c_square_3 c_dark_4 c_light_5 H locs ls hP hD hS hl h; rw [f_X8_findSquares_L20] at h; cases h
        | succ n ih =>
          intro x1_1 c_squares_2 c_square_3 c_dark_4 c_light_5 H locs ls hP hD hS hl h
          rw [f_X8_findSquares_L20] at h
          refine lv_iload_n hx hb dX8_findSquares_20 rfl (lv_at hl 1 rfl) ?_
          refine lv_aload_n hx hb dX8_findSquares_21 rfl (lv_at hl 0 rfl) ?_
          refine r_get S gf_X8_20 hK hP 0 rfl rfl dX8_findSquares_22 ?_
          refine lv_iconst (v := 0) hx hb dX8_findSquares_25 (by decide) ?_
          refine r_iald hx hb hK hP 2 rfl dX8_findSquares_26 h (fun y_32 h => ?_)
          refine lv_iadd hx hb dX8_findSquares_27 ?_
          refine lv_aload_n hx hb dX8_findSquares_28 rfl (lv_at hl 0 rfl) ?_
          refine r_get S gf_X8_13 hK hP 0 rfl rfl dX8_findSquares_29 ?_
          refine lv_icmp_gt (tgt := 211) hx hb dX8_findSquares_32 (by decide) (fun q_69 => ?_) (fun q_69 => ?_)
          · have h := it_t q_69 h
            exact K_7 x1_1 c_squares_2 c_square_3 c_dark_4 c_light_5 _ _ _ hP hD hS (lv_sub hl [0] rfl) h
          · have h := it_f q_69 h
            refine lv_iconst (v := 0) hx hb dX8_findSquares_35 (by decide) ?_
            refine lv_istore_n (lv' := [(2, .int 0), (0, .ref o), (1, .int x1_1)]) hx hb dX8_findSquares_36 rfl hl (by decide) rfl (fun ls hl => ?_)
            refine jn_w (t := fun k => f_X8_findSquares_L37 FU x1_1 c_width c_grey c_setting k FU 0 c_squares_2 c_square_3 c_dark_4 c_light_5) (fun (k : Int32 → Int32 → (Nat → Int32) → (Nat → Int32) → (Nat → Int32) → Option (Int32 × Int32 × (Nat → Int32) × (Nat → Int32) × (Nat → Int32) × (Nat → Int32))) => ∀ (x2_33 : Int32) (c_squares_34 : Int32) (c_square_35 : (Nat → Int32)) (c_dark_36 : (Nat → Int32)) (c_light_37 : (Nat → Int32)) (H : Heap) (locs : List Loc) (ls : Array Slot), VP G (mW o ad kc 1 c_width c_height c_grey c_setting c_leastOf c_mostOf c_lifted c_squares_34 c_square_35 c_dark_36 c_light_37 c_like c_isCrowded c_pairs c_first c_second c_votes c_shifts c_shiftX c_shiftY c_regionAt c_regions c_regionShift c_regionPairs c_regionFirst c_findings c_regionOf c_offset c_begun c_held c_isIn c_numbered c_left c_right c_top c_low c_missed) H → va_D A (mW o ad kc 1 c_width c_height c_grey c_setting c_leastOf c_mostOf c_lifted c_squares_34 c_square_35 c_dark_36 c_light_37 c_like c_isCrowded c_pairs c_first c_second c_votes c_shifts c_shiftX c_shiftY c_regionAt c_regions c_regionShift c_regionPairs c_regionFirst c_findings c_regionOf c_offset c_begun c_held c_isIn c_numbered c_left c_right c_top c_low c_missed) → va_S A s.heap H locs → lv_has ls 5 [(0, .ref o), (1, .int x1_1)] → k x2_33 c_squares_34 c_square_35 c_dark_36 c_light_37 = some (c_worked', c_squares', c_square', c_dark', c_light', c_like') → WW p l e (rmq 3 69) s m args below meth c Q H locs 205 ls []) h ?_ ?_
            · intro x2_33 c_squares_34 c_square_35 c_dark_36 c_light_37 H locs ls hP hD hS hl h
              refine lv_iinc (v := (x1_1 + 1)) (lv' := [(1, .int (x1_1 + 1)), (0, .ref o)]) hx hb dX8_findSquares_205 hl (k := 1) rfl rfl (by decide) rfl (fun ls hl => ?_)
              refine lv_goto (tgt := 20) hx hb dX8_findSquares_208 (by decide) ?_
              exact ih (x1_1 + 1) c_squares_34 c_square_35 c_dark_36 c_light_37 _ _ _ hP hD hS (lv_sub hl [1, 0] rfl) h
            · intro k_38 K_39 h
              have L_40 : ∀ (n : Nat) (x2_33 : Int32) (c_squares_34 : Int32) (c_square_35 : (Nat → Int32)) (c_dark_36 : (Nat → Int32)) (c_light_37 : (Nat → Int32)) (H : Heap) (locs : List Loc) (ls : Array Slot), VP G (mW o ad kc 1 c_width c_height c_grey c_setting c_leastOf c_mostOf c_lifted c_squares_34 c_square_35 c_dark_36 c_light_37 c_like c_isCrowded c_pairs c_first c_second c_votes c_shifts c_shiftX c_shiftY c_regionAt c_regions c_regionShift c_regionPairs c_regionFirst c_findings c_regionOf c_offset c_begun c_held c_isIn c_numbered c_left c_right c_top c_low c_missed) H → va_D A (mW o ad kc 1 c_width c_height c_grey c_setting c_leastOf c_mostOf c_lifted c_squares_34 c_square_35 c_dark_36 c_light_37 c_like c_isCrowded c_pairs c_first c_second c_votes c_shifts c_shiftX c_shiftY c_regionAt c_regions c_regionShift c_regionPairs c_regionFirst c_findings c_regionOf c_offset c_begun c_held c_isIn c_numbered c_left c_right c_top c_low c_missed) → va_S A s.heap H locs → lv_has ls 5 [(0, .ref o), (1, .int x1_1), (2, .int x2_33)] → f_X8_findSquares_L37 FU x1_1 c_width c_grey c_setting k_38 n x2_33 c_squares_34 c_square_35 c_dark_36 c_light_37 = some (c_worked', c_squares', c_square', c_dark', c_light', c_like') → WW p l e (rmq 3 69) s m args below meth c Q H locs 37 ls [] := by
                intro n
                induction n with
                | zero => intro x2_33 c_squares_34 c_square_35 c_dark_36 c_light_37 H locs ls hP hD hS hl h; rw [f_X8_findSquares_L37] at h; cases h
                | succ n ih =>
                  intro x2_33 c_squares_34 c_square_35 c_dark_36 c_light_37 H locs ls hP hD hS hl h
                  rw [f_X8_findSquares_L37] at h
                  refine lv_iload_n hx hb dX8_findSquares_37 rfl (lv_at hl 2 rfl) ?_
                  refine lv_aload_n hx hb dX8_findSquares_38 rfl (lv_at hl 0 rfl) ?_
                  refine r_get S gf_X8_20 hK hP 0 rfl rfl dX8_findSquares_39 ?_
                  refine lv_iconst (v := 0) hx hb dX8_findSquares_42 (by decide) ?_
                  refine r_iald hx hb hK hP 2 rfl dX8_findSquares_43 h (fun y_41 h => ?_)
                  refine lv_iadd hx hb dX8_findSquares_44 ?_
                  refine lv_aload_n hx hb dX8_findSquares_45 rfl (lv_at hl 0 rfl) ?_
                  refine r_get S gf_X8_7 hK hP 0 rfl rfl dX8_findSquares_46 ?_
                  refine lv_icmp_gt (tgt := 205) hx hb dX8_findSquares_49 (by decide) (fun q_68 => ?_) (fun q_68 => ?_)
                  · have h := it_t q_68 h
                    exact K_39 x2_33 c_squares_34 c_square_35 c_dark_36 c_light_37 _ _ _ hP hD hS (lv_sub hl [0, 1] rfl) h
                  · have h := it_f q_68 h
                    refine lv_aload_n hx hb dX8_findSquares_52 rfl (lv_at hl 0 rfl) ?_
                    refine r_get S gf_X8_32 hK hP 0 rfl rfl dX8_findSquares_53 ?_
                    refine lv_aload_n hx hb dX8_findSquares_56 rfl (lv_at hl 0 rfl) ?_
                    refine r_get S gf_X8_126 hK hP 0 rfl rfl dX8_findSquares_57 ?_
                    refine lv_bipush (v := 16) hx hb dX8_findSquares_60 (by decide) ?_
                    refine lv_iload_n hx hb dX8_findSquares_62 rfl (lv_at hl 1 rfl) ?_
                    refine lv_imul hx hb dX8_findSquares_63 ?_
                    refine lv_iload_n hx hb dX8_findSquares_64 rfl (lv_at hl 2 rfl) ?_
                    refine lv_iadd hx hb dX8_findSquares_65 ?_
                    refine r_iast hx hb hK hP hD hS 6 rfl dX8_findSquares_66 h (fun c_square_42 H locs hP hD hS h => ?_)
                    have hP : VP G (mW o ad kc 1 c_width c_height c_grey c_setting c_leastOf c_mostOf c_lifted c_squares_34 c_square_42 c_dark_36 c_light_37 c_like c_isCrowded c_pairs c_first c_second c_votes c_shifts c_shiftX c_shiftY c_regionAt c_regions c_regionShift c_regionPairs c_regionFirst c_findings c_regionOf c_offset c_begun c_held c_isIn c_numbered c_left c_right c_top c_low c_missed) H := hP
                    have hD : va_D A (mW o ad kc 1 c_width c_height c_grey c_setting c_leastOf c_mostOf c_lifted c_squares_34 c_square_42 c_dark_36 c_light_37 c_like c_isCrowded c_pairs c_first c_second c_votes c_shifts c_shiftX c_shiftY c_regionAt c_regions c_regionShift c_regionPairs c_regionFirst c_findings c_regionOf c_offset c_begun c_held c_isIn c_numbered c_left c_right c_top c_low c_missed) := hD
                    refine lv_aload_n hx hb dX8_findSquares_67 rfl (lv_at hl 0 rfl) ?_
                    refine r_get S gf_X8_35 hK hP 0 rfl rfl dX8_findSquares_68 ?_
                    refine lv_aload_n hx hb dX8_findSquares_71 rfl (lv_at hl 0 rfl) ?_
                    refine r_get S gf_X8_126 hK hP 0 rfl rfl dX8_findSquares_72 ?_
                    refine lv_bipush (v := 99) hx hb dX8_findSquares_75 (by decide) ?_
                    refine r_iast hx hb hK hP hD hS 7 rfl dX8_findSquares_77 h (fun c_dark_43 H locs hP hD hS h => ?_)
                    have hP : VP G (mW o ad kc 1 c_width c_height c_grey c_setting c_leastOf c_mostOf c_lifted c_squares_34 c_square_42 c_dark_43 c_light_37 c_like c_isCrowded c_pairs c_first c_second c_votes c_shifts c_shiftX c_shiftY c_regionAt c_regions c_regionShift c_regionPairs c_regionFirst c_findings c_regionOf c_offset c_begun c_held c_isIn c_numbered c_left c_right c_top c_low c_missed) H := hP
                    have hD : va_D A (mW o ad kc 1 c_width c_height c_grey c_setting c_leastOf c_mostOf c_lifted c_squares_34 c_square_42 c_dark_43 c_light_37 c_like c_isCrowded c_pairs c_first c_second c_votes c_shifts c_shiftX c_shiftY c_regionAt c_regions c_regionShift c_regionPairs c_regionFirst c_findings c_regionOf c_offset c_begun c_held c_isIn c_numbered c_left c_right c_top c_low c_missed) := hD
                    refine lv_aload_n hx hb dX8_findSquares_78 rfl (lv_at hl 0 rfl) ?_
                    refine r_get S gf_X8_38 hK hP 0 rfl rfl dX8_findSquares_79 ?_
                    refine lv_aload_n hx hb dX8_findSquares_82 rfl (lv_at hl 0 rfl) ?_
                    refine r_get S gf_X8_126 hK hP 0 rfl rfl dX8_findSquares_83 ?_
                    refine lv_iconst (v := 0) hx hb dX8_findSquares_86 (by decide) ?_
                    refine r_iast hx hb hK hP hD hS 8 rfl dX8_findSquares_87 h (fun c_light_44 H locs hP hD hS h => ?_)
                    have hP : VP G (mW o ad kc 1 c_width c_height c_grey c_setting c_leastOf c_mostOf c_lifted c_squares_34 c_square_42 c_dark_43 c_light_44 c_like c_isCrowded c_pairs c_first c_second c_votes c_shifts c_shiftX c_shiftY c_regionAt c_regions c_regionShift c_regionPairs c_regionFirst c_findings c_regionOf c_offset c_begun c_held c_isIn c_numbered c_left c_right c_top c_low c_missed) H := hP
                    have hD : va_D A (mW o ad kc 1 c_width c_height c_grey c_setting c_leastOf c_mostOf c_lifted c_squares_34 c_square_42 c_dark_43 c_light_44 c_like c_isCrowded c_pairs c_first c_second c_votes c_shifts c_shiftX c_shiftY c_regionAt c_regions c_regionShift c_regionPairs c_regionFirst c_findings c_regionOf c_offset c_begun c_held c_isIn c_numbered c_left c_right c_top c_low c_missed) := hD
                    refine lv_iconst (v := 0) hx hb dX8_findSquares_88 (by decide) ?_
                    refine lv_istore_n (lv' := [(3, .int 0), (0, .ref o), (1, .int x1_1), (2, .int x2_33)]) hx hb dX8_findSquares_89 rfl hl (by decide) rfl (fun ls hl => ?_)
                    refine jn_w (t := fun k => f_X8_findSquares_L90 FU c_grey c_setting c_squares_34 c_square_42 k FU 0 c_dark_43 c_light_44) (fun (k : Int32 → (Nat → Int32) → (Nat → Int32) → Option (Int32 × Int32 × (Nat → Int32) × (Nat → Int32) × (Nat → Int32) × (Nat → Int32))) => ∀ (x3_45 : Int32) (c_dark_46 : (Nat → Int32)) (c_light_47 : (Nat → Int32)) (H : Heap) (locs : List Loc) (ls : Array Slot), VP G (mW o ad kc 1 c_width c_height c_grey c_setting c_leastOf c_mostOf c_lifted c_squares_34 c_square_42 c_dark_46 c_light_47 c_like c_isCrowded c_pairs c_first c_second c_votes c_shifts c_shiftX c_shiftY c_regionAt c_regions c_regionShift c_regionPairs c_regionFirst c_findings c_regionOf c_offset c_begun c_held c_isIn c_numbered c_left c_right c_top c_low c_missed) H → va_D A (mW o ad kc 1 c_width c_height c_grey c_setting c_leastOf c_mostOf c_lifted c_squares_34 c_square_42 c_dark_46 c_light_47 c_like c_isCrowded c_pairs c_first c_second c_votes c_shifts c_shiftX c_shiftY c_regionAt c_regions c_regionShift c_regionPairs c_regionFirst c_findings c_regionOf c_offset c_begun c_held c_isIn c_numbered c_left c_right c_top c_low c_missed) → va_S A s.heap H locs → lv_has ls 5 [(0, .ref o), (1, .int x1_1), (2, .int x2_33)] → k x3_45 c_dark_46 c_light_47 = some (c_worked', c_squares', c_square', c_dark', c_light', c_like') → WW p l e (rmq 3 69) s m args below meth c Q H locs 189 ls []) h ?_ ?_
                    · intro x3_45 c_dark_46 c_light_47 H locs ls hP hD hS hl h
                      refine lv_aload_n hx hb dX8_findSquares_189 rfl (lv_at hl 0 rfl) ?_
                      refine lv_dup hx hb dX8_findSquares_190 rfl ?_
                      refine r_get S gf_X8_126 hK hP 0 rfl rfl dX8_findSquares_191 ?_
                      refine lv_iconst (v := 1) hx hb dX8_findSquares_194 (by decide) ?_
                      refine lv_iadd hx hb dX8_findSquares_195 ?_
                      refine r_put S pf_X8_126 hK hP hD hS 0 rfl (Nat.le_of_ble_eq_true rfl) dX8_findSquares_196 (fun H locs hP hD hS => ?_)
                      have hP : VP G (mW o ad kc 1 c_width c_height c_grey c_setting c_leastOf c_mostOf c_lifted (c_squares_34 + 1) c_square_42 c_dark_46 c_light_47 c_like c_isCrowded c_pairs c_first c_second c_votes c_shifts c_shiftX c_shiftY c_regionAt c_regions c_regionShift c_regionPairs c_regionFirst c_findings c_regionOf c_offset c_begun c_held c_isIn c_numbered c_left c_right c_top c_low c_missed) H := hP
                      have hD : va_D A (mW o ad kc 1 c_width c_height c_grey c_setting c_leastOf c_mostOf c_lifted (c_squares_34 + 1) c_square_42 c_dark_46 c_light_47 c_like c_isCrowded c_pairs c_first c_second c_votes c_shifts c_shiftX c_shiftY c_regionAt c_regions c_regionShift c_regionPairs c_regionFirst c_findings c_regionOf c_offset c_begun c_held c_isIn c_numbered c_left c_right c_top c_low c_missed) := hD
                      refine lv_iinc (v := (x2_33 + 1)) (lv' := [(2, .int (x2_33 + 1)), (0, .ref o), (1, .int x1_1)]) hx hb dX8_findSquares_199 hl (k := 2) rfl rfl (by decide) rfl (fun ls hl => ?_)
                      refine lv_goto (tgt := 37) hx hb dX8_findSquares_202 (by decide) ?_
                      exact ih (x2_33 + 1) (c_squares_34 + 1) c_square_42 c_dark_46 c_light_47 _ _ _ hP hD hS (lv_sub hl [1, 2, 0] rfl) h
                    · intro k_48 K_49 h
                      have L_50 : ∀ (n : Nat) (x3_45 : Int32) (c_dark_46 : (Nat → Int32)) (c_light_47 : (Nat → Int32)) (H : Heap) (locs : List Loc) (ls : Array Slot), VP G (mW o ad kc 1 c_width c_height c_grey c_setting c_leastOf c_mostOf c_lifted c_squares_34 c_square_42 c_dark_46 c_light_47 c_like c_isCrowded c_pairs c_first c_second c_votes c_shifts c_shiftX c_shiftY c_regionAt c_regions c_regionShift c_regionPairs c_regionFirst c_findings c_regionOf c_offset c_begun c_held c_isIn c_numbered c_left c_right c_top c_low c_missed) H → va_D A (mW o ad kc 1 c_width c_height c_grey c_setting c_leastOf c_mostOf c_lifted c_squares_34 c_square_42 c_dark_46 c_light_47 c_like c_isCrowded c_pairs c_first c_second c_votes c_shifts c_shiftX c_shiftY c_regionAt c_regions c_regionShift c_regionPairs c_regionFirst c_findings c_regionOf c_offset c_begun c_held c_isIn c_numbered c_left c_right c_top c_low c_missed) → va_S A s.heap H locs → lv_has ls 5 [(0, .ref o), (1, .int x1_1), (2, .int x2_33), (3, .int x3_45)] → f_X8_findSquares_L90 FU c_grey c_setting c_squares_34 c_square_42 k_48 n x3_45 c_dark_46 c_light_47 = some (c_worked', c_squares', c_square', c_dark', c_light', c_like') → WW p l e (rmq 3 69) s m args below meth c Q H locs 90 ls [] := by
                        intro n
                        induction n with
                        | zero => intro x3_45 c_dark_46 c_light_47 H locs ls hP hD hS hl h; rw [f_X8_findSquares_L90] at h; cases h
                        | succ n ih =>
                          intro x3_45 c_dark_46 c_light_47 H locs ls hP hD hS hl h
                          rw [f_X8_findSquares_L90] at h
                          refine lv_iload_n hx hb dX8_findSquares_90 rfl (lv_at hl 3 rfl) ?_
                          refine lv_aload_n hx hb dX8_findSquares_91 rfl (lv_at hl 0 rfl) ?_
                          obtain ⟨r_51, hq, h⟩ := bd1_e h
                          refine cs_Vi (rest := [.int x3_45]) (ci := 7) S hN cb_X8_numbers ml_X8_119 ⟨Nat.le_of_ble_eq_true rfl, Nat.le_of_ble_eq_true rfl⟩ (c_X8_numbers l G kc o ad  hq) hK hP hD hS hA 0 rfl rfl rfl rfl rfl (Nat.le_of_ble_eq_true rfl) hl.1 dX8_findSquares_92 (fun H locs hP hD hS => ?_)
                          refine lv_icmp_ge (tgt := 189) hx hb dX8_findSquares_95 (by decide) (fun q_67 => ?_) (fun q_67 => ?_)
                          · have h := it_t q_67 h
                            exact K_49 x3_45 c_dark_46 c_light_47 _ _ _ hP hD hS (lv_sub hl [0, 1, 2] rfl) h
                          · have h := it_f q_67 h
                            refine lv_aload_n hx hb dX8_findSquares_98 rfl (lv_at hl 0 rfl) ?_
                            refine lv_aload_n hx hb dX8_findSquares_99 rfl (lv_at hl 0 rfl) ?_
                            refine r_get S gf_X8_126 hK hP 0 rfl rfl dX8_findSquares_100 ?_
                            refine lv_iload_n hx hb dX8_findSquares_103 rfl (lv_at hl 3 rfl) ?_
                            obtain ⟨r_52, hq, h⟩ := bd1_e h
                            refine cs_Vi (rest := []) (ci := 7) S hN cb_X8_greyIn ml_X8_115 ⟨Nat.le_of_ble_eq_true rfl, Nat.le_of_ble_eq_true rfl⟩ (c_X8_greyIn l G kc o ad c_squares_34 x3_45 hq) hK hP hD hS hA 0 rfl rfl rfl rfl rfl (Nat.le_of_ble_eq_true rfl) hl.1 dX8_findSquares_104 (fun H locs hP hD hS => ?_)
                            refine lv_istore (lv' := [(4, .int r_52), (0, .ref o), (1, .int x1_1), (2, .int x2_33), (3, .int x3_45)]) hx hb dX8_findSquares_107 hl (by decide) rfl (fun ls hl => ?_)
                            refine lv_aload_n hx hb dX8_findSquares_109 rfl (lv_at hl 1 rfl) ?_
                            refine r_get S gf_X8_35 hK hP 0 rfl rfl dX8_findSquares_110 ?_
                            refine lv_aload_n hx hb dX8_findSquares_113 rfl (lv_at hl 1 rfl) ?_
                            refine r_get S gf_X8_126 hK hP 0 rfl rfl dX8_findSquares_114 ?_
                            refine lv_iload hx hb dX8_findSquares_117 (lv_at hl 0 rfl) ?_
                            refine lv_aload_n hx hb dX8_findSquares_119 rfl (lv_at hl 1 rfl) ?_
                            refine r_get S gf_X8_35 hK hP 0 rfl rfl dX8_findSquares_120 ?_
                            refine lv_aload_n hx hb dX8_findSquares_123 rfl (lv_at hl 1 rfl) ?_
                            refine r_get S gf_X8_126 hK hP 0 rfl rfl dX8_findSquares_124 ?_
                            refine r_iald hx hb hK hP 7 rfl dX8_findSquares_127 h (fun y_53 h => ?_)
                            refine jn_w (fun (k : Int32 → Option (Int32 × Int32 × (Nat → Int32) × (Nat → Int32) × (Nat → Int32) × (Nat → Int32))) => ∀ (t_54 : Int32) (H : Heap) (locs : List Loc) (ls : Array Slot), VP G (mW o ad kc 1 c_width c_height c_grey c_setting c_leastOf c_mostOf c_lifted c_squares_34 c_square_42 c_dark_46 c_light_47 c_like c_isCrowded c_pairs c_first c_second c_votes c_shifts c_shiftX c_shiftY c_regionAt c_regions c_regionShift c_regionPairs c_regionFirst c_findings c_regionOf c_offset c_begun c_held c_isIn c_numbered c_left c_right c_top c_low c_missed) H → va_D A (mW o ad kc 1 c_width c_height c_grey c_setting c_leastOf c_mostOf c_lifted c_squares_34 c_square_42 c_dark_46 c_light_47 c_like c_isCrowded c_pairs c_first c_second c_votes c_shifts c_shiftX c_shiftY c_regionAt c_regions c_regionShift c_regionPairs c_regionFirst c_findings c_regionOf c_offset c_begun c_held c_isIn c_numbered c_left c_right c_top c_low c_missed) → va_S A s.heap H locs → lv_has ls 5 [(0, .ref o), (1, .int x1_1), (2, .int x2_33), (3, .int x3_45), (4, .int r_52)] → k t_54 = some (c_worked', c_squares', c_square', c_dark', c_light', c_like') → WW p l e (rmq 3 69) s m args below meth c Q H locs 145 ls [.int t_54, .int c_squares_34, .ref (ad 10)]) h ?_ ?_
                            · intro t_54 H locs ls hP hD hS hl h
                              refine r_iast hx hb hK hP hD hS 7 rfl dX8_findSquares_145 h (fun c_dark_57 H locs hP hD hS h => ?_)
                              have hP : VP G (mW o ad kc 1 c_width c_height c_grey c_setting c_leastOf c_mostOf c_lifted c_squares_34 c_square_42 c_dark_57 c_light_47 c_like c_isCrowded c_pairs c_first c_second c_votes c_shifts c_shiftX c_shiftY c_regionAt c_regions c_regionShift c_regionPairs c_regionFirst c_findings c_regionOf c_offset c_begun c_held c_isIn c_numbered c_left c_right c_top c_low c_missed) H := hP
                              have hD : va_D A (mW o ad kc 1 c_width c_height c_grey c_setting c_leastOf c_mostOf c_lifted c_squares_34 c_square_42 c_dark_57 c_light_47 c_like c_isCrowded c_pairs c_first c_second c_votes c_shifts c_shiftX c_shiftY c_regionAt c_regions c_regionShift c_regionPairs c_regionFirst c_findings c_regionOf c_offset c_begun c_held c_isIn c_numbered c_left c_right c_top c_low c_missed) := hD
                              refine lv_aload_n hx hb dX8_findSquares_146 rfl (lv_at hl 0 rfl) ?_
                              refine r_get S gf_X8_38 hK hP 0 rfl rfl dX8_findSquares_147 ?_
                              refine lv_aload_n hx hb dX8_findSquares_150 rfl (lv_at hl 0 rfl) ?_
                              refine r_get S gf_X8_126 hK hP 0 rfl rfl dX8_findSquares_151 ?_
                              refine lv_iload hx hb dX8_findSquares_154 (lv_at hl 4 rfl) ?_
                              refine lv_aload_n hx hb dX8_findSquares_156 rfl (lv_at hl 0 rfl) ?_
                              refine r_get S gf_X8_38 hK hP 0 rfl rfl dX8_findSquares_157 ?_
                              refine lv_aload_n hx hb dX8_findSquares_160 rfl (lv_at hl 0 rfl) ?_
                              refine r_get S gf_X8_126 hK hP 0 rfl rfl dX8_findSquares_161 ?_
                              refine r_iald hx hb hK hP 8 rfl dX8_findSquares_164 h (fun y_58 h => ?_)
                              refine jn_w (fun (k : Int32 → Option (Int32 × Int32 × (Nat → Int32) × (Nat → Int32) × (Nat → Int32) × (Nat → Int32))) => ∀ (t_59 : Int32) (H : Heap) (locs : List Loc) (ls : Array Slot), VP G (mW o ad kc 1 c_width c_height c_grey c_setting c_leastOf c_mostOf c_lifted c_squares_34 c_square_42 c_dark_57 c_light_47 c_like c_isCrowded c_pairs c_first c_second c_votes c_shifts c_shiftX c_shiftY c_regionAt c_regions c_regionShift c_regionPairs c_regionFirst c_findings c_regionOf c_offset c_begun c_held c_isIn c_numbered c_left c_right c_top c_low c_missed) H → va_D A (mW o ad kc 1 c_width c_height c_grey c_setting c_leastOf c_mostOf c_lifted c_squares_34 c_square_42 c_dark_57 c_light_47 c_like c_isCrowded c_pairs c_first c_second c_votes c_shifts c_shiftX c_shiftY c_regionAt c_regions c_regionShift c_regionPairs c_regionFirst c_findings c_regionOf c_offset c_begun c_held c_isIn c_numbered c_left c_right c_top c_low c_missed) → va_S A s.heap H locs → lv_has ls 5 [(0, .ref o), (1, .int x1_1), (2, .int x2_33), (3, .int x3_45)] → k t_59 = some (c_worked', c_squares', c_square', c_dark', c_light', c_like') → WW p l e (rmq 3 69) s m args below meth c Q H locs 182 ls [.int t_59, .int c_squares_34, .ref (ad 11)]) h ?_ ?_
                              · intro t_59 H locs ls hP hD hS hl h
                                refine r_iast hx hb hK hP hD hS 8 rfl dX8_findSquares_182 h (fun c_light_62 H locs hP hD hS h => ?_)
                                have hP : VP G (mW o ad kc 1 c_width c_height c_grey c_setting c_leastOf c_mostOf c_lifted c_squares_34 c_square_42 c_dark_57 c_light_62 c_like c_isCrowded c_pairs c_first c_second c_votes c_shifts c_shiftX c_shiftY c_regionAt c_regions c_regionShift c_regionPairs c_regionFirst c_findings c_regionOf c_offset c_begun c_held c_isIn c_numbered c_left c_right c_top c_low c_missed) H := hP
                                have hD : va_D A (mW o ad kc 1 c_width c_height c_grey c_setting c_leastOf c_mostOf c_lifted c_squares_34 c_square_42 c_dark_57 c_light_62 c_like c_isCrowded c_pairs c_first c_second c_votes c_shifts c_shiftX c_shiftY c_regionAt c_regions c_regionShift c_regionPairs c_regionFirst c_findings c_regionOf c_offset c_begun c_held c_isIn c_numbered c_left c_right c_top c_low c_missed) := hD
                                refine lv_iinc (v := (x3_45 + 1)) (lv' := [(3, .int (x3_45 + 1)), (0, .ref o), (1, .int x1_1), (2, .int x2_33)]) hx hb dX8_findSquares_183 hl (k := 3) rfl rfl (by decide) rfl (fun ls hl => ?_)
                                refine lv_goto (tgt := 90) hx hb dX8_findSquares_186 (by decide) ?_
                                exact ih (x3_45 + 1) c_dark_57 c_light_62 _ _ _ hP hD hS (lv_sub hl [1, 2, 3, 0] rfl) h
                              · intro j_60 J_61 h
                                refine lv_icmp_le (tgt := 173) hx hb dX8_findSquares_165 (by decide) (fun q_64 => ?_) (fun q_64 => ?_)
                                · have h := it_t q_64 h
                                  refine lv_aload_n hx hb dX8_findSquares_173 rfl (lv_at hl 0 rfl) ?_
                                  refine r_get S gf_X8_38 hK hP 0 rfl rfl dX8_findSquares_174 ?_
                                  refine lv_aload_n hx hb dX8_findSquares_177 rfl (lv_at hl 0 rfl) ?_
                                  refine r_get S gf_X8_126 hK hP 0 rfl rfl dX8_findSquares_178 ?_
                                  refine r_iald hx hb hK hP 8 rfl dX8_findSquares_181 h (fun y_63 h => ?_)
                                  exact J_61 y_63 _ _ _ hP hD hS (lv_sub hl [0, 1, 2, 3] rfl) h
                                · have h := it_f q_64 h
                                  refine lv_iload hx hb dX8_findSquares_168 (lv_at hl 4 rfl) ?_
                                  refine lv_goto (tgt := 182) hx hb dX8_findSquares_170 (by decide) ?_
                                  exact J_61 r_52 _ _ _ hP hD hS (lv_sub hl [0, 1, 2, 3] rfl) h
                            · intro j_55 J_56 h
                              refine lv_icmp_ge (tgt := 136) hx hb dX8_findSquares_128 (by decide) (fun q_66 => ?_) (fun q_66 => ?_)
                              · have h := it_t q_66 h
                                refine lv_aload_n hx hb dX8_findSquares_136 rfl (lv_at hl 1 rfl) ?_
                                refine r_get S gf_X8_35 hK hP 0 rfl rfl dX8_findSquares_137 ?_
                                refine lv_aload_n hx hb dX8_findSquares_140 rfl (lv_at hl 1 rfl) ?_
                                refine r_get S gf_X8_126 hK hP 0 rfl rfl dX8_findSquares_141 ?_
                                refine r_iald hx hb hK hP 7 rfl dX8_findSquares_144 h (fun y_65 h => ?_)
                                exact J_56 y_65 _ _ _ hP hD hS (lv_sub hl [1, 2, 3, 4, 0] rfl) h
                              · have h := it_f q_66 h
                                refine lv_iload hx hb dX8_findSquares_131 (lv_at hl 0 rfl) ?_
                                refine lv_goto (tgt := 145) hx hb dX8_findSquares_133 (by decide) ?_
                                exact J_56 r_52 _ _ _ hP hD hS (lv_sub hl [1, 2, 3, 4, 0] rfl) h
                      exact L_50 FU 0 c_dark_43 c_light_44 _ _ _ hP hD hS (lv_sub hl [1, 2, 3, 0] rfl) h
              exact L_40 FU 0 c_squares_2 c_square_3 c_dark_4 c_light_5 _ _ _ hP hD hS (lv_sub hl [1, 2, 0] rfl) h
      exact L_8 FU 0 0 c_square c_dark c_light _ _ _ hP hD hS (lv_sub hl [1, 0] rfl) h
  · have h := it_f q_70 h
    cases h
    exact ret_v hx hb hr hQ hlocks hK hP hD hS dX8_findSquares_7
set_option maxHeartbeats 1000000 in
set_option maxRecDepth 100000 in
theorem c_X8_manyLike (l : Launch) (G : va_G) (kc : Nat → ClassId) (o : Nat) (ad : Nat → Nat) {c_worked : Int32} {c_width : Int32} {c_height : Int32} {c_grey : (Nat → Int32)} {c_setting : (Nat → Int32)} {c_leastOf : (Nat → Int32)} {c_mostOf : (Nat → Int32)} {c_lifted : (Nat → Int32)} {c_squares : Int32} {c_square : (Nat → Int32)} {c_dark : (Nat → Int32)} {c_light : (Nat → Int32)} {c_like : (Nat → Int32)} {c_isCrowded : (Nat → Int32)} {c_pairs : Int32} {c_first : (Nat → Int32)} {c_second : (Nat → Int32)} {c_votes : (Nat → Int32)} {c_shifts : Int32} {c_shiftX : (Nat → Int32)} {c_shiftY : (Nat → Int32)} {c_regionAt : (Nat → Int32)} {c_regions : Int32} {c_regionShift : (Nat → Int32)} {c_regionPairs : (Nat → Int32)} {c_regionFirst : (Nat → Int32)} {c_findings : Int32} {c_regionOf : (Nat → Int32)} {c_offset : (Nat → Int32)} {c_begun : (Nat → Int32)} {c_held : (Nat → Int32)} {c_isIn : (Nat → Int32)} {c_numbered : (Nat → Int32)} {c_left : Int32} {c_right : Int32} {c_top : Int32} {c_low : Int32} {c_missed : Int32} (x1 : Int32) (x2 : Int32) {r : Int32} {FU : Nat} (h : f_X8_manyLike FU c_setting c_squares c_dark c_light c_like x1 x2 = some r) : CTi l G kc yX8_manyLike cX8_manyLike 5 (some .int) (rmq 1 21) [.ref o, .int x1, .int x2] (mW o ad kc c_worked c_width c_height c_grey c_setting c_leastOf c_mostOf c_lifted c_squares c_square c_dark c_light c_like c_isCrowded c_pairs c_first c_second c_votes c_shifts c_shiftX c_shiftY c_regionAt c_regions c_regionShift c_regionPairs c_regionFirst c_findings c_regionOf c_offset c_begun c_held c_isIn c_numbered c_left c_right c_top c_low c_missed) (mW o ad kc c_worked c_width c_height c_grey c_setting c_leastOf c_mostOf c_lifted c_squares c_square c_dark c_light c_like c_isCrowded c_pairs c_first c_second c_votes c_shifts c_shiftX c_shiftY c_regionAt c_regions c_regionShift c_regionPairs c_regionFirst c_findings c_regionOf c_offset c_begun c_held c_isIn c_numbered c_left c_right c_top c_low c_missed) r := by
  refine CTi.mk (by decide) (Nat.le_of_ble_eq_true rfl) ?_
  intro p e s m args below meth c A ls Q hQ S hr hlocks hN hA hK hl hP hD hS
  have hx := S.1
  have hb := S.2.1
  have hl : lv_has ls 5 [(0, .ref o), (1, .int x1), (2, .int x2)] := hl
  unfold f_X8_manyLike at h
  refine lv_iconst (v := 0) hx hb dX8_manyLike_0 (by decide) ?_
  refine lv_istore_n (lv' := [(3, .int 0), (0, .ref o), (1, .int x1), (2, .int x2)]) hx hb dX8_manyLike_1 rfl hl (by decide) rfl (fun ls hl => ?_)
  refine lv_iconst (v := 0) hx hb dX8_manyLike_2 (by decide) ?_
  refine lv_istore (lv' := [(4, .int 0), (3, .int 0), (0, .ref o), (1, .int x1), (2, .int x2)]) hx hb dX8_manyLike_3 hl (by decide) rfl (fun ls hl => ?_)
  refine jn_w (t := fun k => f_X8_manyLike_L5 FU x1 x2 c_setting c_squares c_dark c_light c_like k FU 0 0) (fun (k : Int32 → Int32 → Option (Int32)) => ∀ (x3_1 : Int32) (x4_2 : Int32) (H : Heap) (locs : List Loc) (ls : Array Slot), VP G (mW o ad kc c_worked c_width c_height c_grey c_setting c_leastOf c_mostOf c_lifted c_squares c_square c_dark c_light c_like c_isCrowded c_pairs c_first c_second c_votes c_shifts c_shiftX c_shiftY c_regionAt c_regions c_regionShift c_regionPairs c_regionFirst c_findings c_regionOf c_offset c_begun c_held c_isIn c_numbered c_left c_right c_top c_low c_missed) H → va_D A (mW o ad kc c_worked c_width c_height c_grey c_setting c_leastOf c_mostOf c_lifted c_squares c_square c_dark c_light c_like c_isCrowded c_pairs c_first c_second c_votes c_shifts c_shiftX c_shiftY c_regionAt c_regions c_regionShift c_regionPairs c_regionFirst c_findings c_regionOf c_offset c_begun c_held c_isIn c_numbered c_left c_right c_top c_low c_missed) → va_S A s.heap H locs → lv_has ls 5 [(3, .int x3_1)] → k x3_1 x4_2 = some r → WW p l e (rmq 1 21) s m args below meth c Q H locs 57 ls []) h ?_ ?_
  · intro x3_1 x4_2 H locs ls hP hD hS hl h
    refine lv_iload_n hx hb dX8_manyLike_57 rfl (lv_at hl 0 rfl) ?_
    cases h
    exact ret_i hx hb hr rfl hQ hlocks hK hP hD hS dX8_manyLike_58
  · intro k_3 K_4 h
    have L_5 : ∀ (n : Nat) (x3_1 : Int32) (x4_2 : Int32) (H : Heap) (locs : List Loc) (ls : Array Slot), VP G (mW o ad kc c_worked c_width c_height c_grey c_setting c_leastOf c_mostOf c_lifted c_squares c_square c_dark c_light c_like c_isCrowded c_pairs c_first c_second c_votes c_shifts c_shiftX c_shiftY c_regionAt c_regions c_regionShift c_regionPairs c_regionFirst c_findings c_regionOf c_offset c_begun c_held c_isIn c_numbered c_left c_right c_top c_low c_missed) H → va_D A (mW o ad kc c_worked c_width c_height c_grey c_setting c_leastOf c_mostOf c_lifted c_squares c_square c_dark c_light c_like c_isCrowded c_pairs c_first c_second c_votes c_shifts c_shiftX c_shiftY c_regionAt c_regions c_regionShift c_regionPairs c_regionFirst c_findings c_regionOf c_offset c_begun c_held c_isIn c_numbered c_left c_right c_top c_low c_missed) → va_S A s.heap H locs → lv_has ls 5 [(0, .ref o), (1, .int x1), (2, .int x2), (3, .int x3_1), (4, .int x4_2)] → f_X8_manyLike_L5 FU x1 x2 c_setting c_squares c_dark c_light c_like k_3 n x3_1 x4_2 = some r → WW p l e (rmq 1 21) s m args below meth c Q H locs 5 ls [] := by
      intro n
      induction n with
      | zero => intro x3_1 x4_2 H locs ls hP hD hS hl h; rw [f_X8_manyLike_L5] at h; cases h
      | succ n ih =>
        intro x3_1 x4_2 H locs ls hP hD hS hl h
        rw [f_X8_manyLike_L5] at h
        refine lv_iload hx hb dX8_manyLike_5 (lv_at hl 4 rfl) ?_
        refine lv_aload_n hx hb dX8_manyLike_7 rfl (lv_at hl 0 rfl) ?_
        refine r_get S gf_X8_126 hK hP 0 rfl rfl dX8_manyLike_8 ?_
        refine lv_icmp_ge (tgt := 57) hx hb dX8_manyLike_11 (by decide) (fun q_15 => ?_) (fun q_15 => ?_)
        · have h := it_t q_15 h
          exact K_4 x3_1 x4_2 _ _ _ hP hD hS (lv_sub hl [3] rfl) h
        · have h := it_f q_15 h
          refine lv_iload_n hx hb dX8_manyLike_14 rfl (lv_at hl 3 rfl) ?_
          refine lv_aload_n hx hb dX8_manyLike_15 rfl (lv_at hl 0 rfl) ?_
          refine r_get S gf_X8_41 hK hP 0 rfl rfl dX8_manyLike_16 ?_
          refine lv_iload hx hb dX8_manyLike_19 (lv_at hl 4 rfl) ?_
          refine r_iald hx hb hK hP 9 rfl dX8_manyLike_21 h (fun y_6 h => ?_)
          refine lv_aload_n hx hb dX8_manyLike_22 rfl (lv_at hl 0 rfl) ?_
          refine r_get S gf_X8_41 hK hP 0 rfl rfl dX8_manyLike_23 ?_
          refine lv_iload_n hx hb dX8_manyLike_26 rfl (lv_at hl 1 rfl) ?_
          refine r_iald hx hb hK hP 9 rfl dX8_manyLike_27 h (fun y_7 h => ?_)
          refine jn_w (fun (k : Int32 → Option (Int32)) => ∀ (t_8 : Int32) (H : Heap) (locs : List Loc) (ls : Array Slot), VP G (mW o ad kc c_worked c_width c_height c_grey c_setting c_leastOf c_mostOf c_lifted c_squares c_square c_dark c_light c_like c_isCrowded c_pairs c_first c_second c_votes c_shifts c_shiftX c_shiftY c_regionAt c_regions c_regionShift c_regionPairs c_regionFirst c_findings c_regionOf c_offset c_begun c_held c_isIn c_numbered c_left c_right c_top c_low c_missed) H → va_D A (mW o ad kc c_worked c_width c_height c_grey c_setting c_leastOf c_mostOf c_lifted c_squares c_square c_dark c_light c_like c_isCrowded c_pairs c_first c_second c_votes c_shifts c_shiftX c_shiftY c_regionAt c_regions c_regionShift c_regionPairs c_regionFirst c_findings c_regionOf c_offset c_begun c_held c_isIn c_numbered c_left c_right c_top c_low c_missed) → va_S A s.heap H locs → lv_has ls 5 [(0, .ref o), (1, .int x1), (2, .int x2), (4, .int x4_2)] → k t_8 = some r → WW p l e (rmq 1 21) s m args below meth c Q H locs 49 ls [.int t_8, .int x3_1]) h ?_ ?_
          · intro t_8 H locs ls hP hD hS hl h
            refine lv_iadd hx hb dX8_manyLike_49 ?_
            refine lv_istore_n (lv' := [(3, .int (x3_1 + t_8)), (0, .ref o), (1, .int x1), (2, .int x2), (4, .int x4_2)]) hx hb dX8_manyLike_50 rfl hl (by decide) rfl (fun ls hl => ?_)
            refine lv_iinc (v := (x4_2 + 1)) (lv' := [(4, .int (x4_2 + 1)), (3, .int (x3_1 + t_8)), (0, .ref o), (1, .int x1), (2, .int x2)]) hx hb dX8_manyLike_51 hl (k := 4) rfl rfl (by decide) rfl (fun ls hl => ?_)
            refine lv_goto (tgt := 5) hx hb dX8_manyLike_54 (by decide) ?_
            exact ih (x3_1 + t_8) (x4_2 + 1) _ _ _ hP hD hS (lv_sub hl [2, 3, 4, 1, 0] rfl) h
          · intro j_9 J_10 h
            refine lv_icmp_ne (tgt := 48) hx hb dX8_manyLike_28 (by decide) (fun q_14 => ?_) (fun q_14 => ?_)
            · have h := it_f q_14 h
              refine lv_iconst (v := 0) hx hb dX8_manyLike_48 (by decide) ?_
              exact J_10 0 _ _ _ hP hD hS (lv_sub hl [0, 1, 2, 4] rfl) h
            · have h := it_t q_14 h
              refine lv_iload_n hx hb dX8_manyLike_31 rfl (lv_at hl 2 rfl) ?_
              refine lv_if_ne (tgt := 44) hx hb dX8_manyLike_32 (by decide) (fun q_13 => ?_) (fun q_13 => ?_)
              · have h := it_f q_13 h
                refine lv_iconst (v := 1) hx hb dX8_manyLike_44 (by decide) ?_
                refine lv_goto (tgt := 49) hx hb dX8_manyLike_45 (by decide) ?_
                exact J_10 1 _ _ _ hP hD hS (lv_sub hl [0, 1, 2, 4] rfl) h
              · have h := it_t q_13 h
                refine lv_aload_n hx hb dX8_manyLike_35 rfl (lv_at hl 0 rfl) ?_
                refine lv_iload hx hb dX8_manyLike_36 (lv_at hl 4 rfl) ?_
                obtain ⟨r_11, hq, h⟩ := bd1_e h
                refine cs_Vi (rest := [.int x3_1]) (ci := 7) S hN cb_X8_isFlat ml_X8_132 ⟨Nat.le_of_ble_eq_true rfl, Nat.le_of_ble_eq_true rfl⟩ (c_X8_isFlat l G kc o ad x4_2 hq) hK hP hD hS hA 0 rfl rfl rfl rfl rfl (Nat.le_of_ble_eq_true rfl) hl.1 dX8_manyLike_38 (fun H locs hP hD hS => ?_)
                refine lv_if_ne (tgt := 48) hx hb dX8_manyLike_41 (by decide) (fun q_12 => ?_) (fun q_12 => ?_)
                · have h := it_f q_12 h
                  refine lv_iconst (v := 0) hx hb dX8_manyLike_48 (by decide) ?_
                  exact J_10 0 _ _ _ hP hD hS (lv_sub hl [0, 1, 2, 4] rfl) h
                · have h := it_t q_12 h
                  refine lv_iconst (v := 1) hx hb dX8_manyLike_44 (by decide) ?_
                  refine lv_goto (tgt := 49) hx hb dX8_manyLike_45 (by decide) ?_
                  exact J_10 1 _ _ _ hP hD hS (lv_sub hl [0, 1, 2, 4] rfl) h
    exact L_5 FU 0 0 _ _ _ hP hD hS (lv_sub hl [2, 3, 4, 1, 0] rfl) h
set_option maxHeartbeats 1000000 in
set_option maxRecDepth 100000 in
theorem c_X8_findCrowds (l : Launch) (G : va_G) (kc : Nat → ClassId) (o : Nat) (ad : Nat → Nat) {c_worked : Int32} {c_width : Int32} {c_height : Int32} {c_grey : (Nat → Int32)} {c_setting : (Nat → Int32)} {c_leastOf : (Nat → Int32)} {c_mostOf : (Nat → Int32)} {c_lifted : (Nat → Int32)} {c_squares : Int32} {c_square : (Nat → Int32)} {c_dark : (Nat → Int32)} {c_light : (Nat → Int32)} {c_like : (Nat → Int32)} {c_isCrowded : (Nat → Int32)} {c_pairs : Int32} {c_first : (Nat → Int32)} {c_second : (Nat → Int32)} {c_votes : (Nat → Int32)} {c_shifts : Int32} {c_shiftX : (Nat → Int32)} {c_shiftY : (Nat → Int32)} {c_regionAt : (Nat → Int32)} {c_regions : Int32} {c_regionShift : (Nat → Int32)} {c_regionPairs : (Nat → Int32)} {c_regionFirst : (Nat → Int32)} {c_findings : Int32} {c_regionOf : (Nat → Int32)} {c_offset : (Nat → Int32)} {c_begun : (Nat → Int32)} {c_held : (Nat → Int32)} {c_isIn : (Nat → Int32)} {c_numbered : (Nat → Int32)} {c_left : Int32} {c_right : Int32} {c_top : Int32} {c_low : Int32} {c_missed : Int32}  {c_isCrowded' : (Nat → Int32)} {FU : Nat} (h : f_X8_findCrowds FU c_setting c_squares c_dark c_light c_like c_isCrowded = some c_isCrowded') : CTv l G kc yX8_findCrowds cX8_findCrowds 2 none (rmq 2 45) [.ref o] (mW o ad kc c_worked c_width c_height c_grey c_setting c_leastOf c_mostOf c_lifted c_squares c_square c_dark c_light c_like c_isCrowded c_pairs c_first c_second c_votes c_shifts c_shiftX c_shiftY c_regionAt c_regions c_regionShift c_regionPairs c_regionFirst c_findings c_regionOf c_offset c_begun c_held c_isIn c_numbered c_left c_right c_top c_low c_missed) (mW o ad kc c_worked c_width c_height c_grey c_setting c_leastOf c_mostOf c_lifted c_squares c_square c_dark c_light c_like (c_isCrowded') c_pairs c_first c_second c_votes c_shifts c_shiftX c_shiftY c_regionAt c_regions c_regionShift c_regionPairs c_regionFirst c_findings c_regionOf c_offset c_begun c_held c_isIn c_numbered c_left c_right c_top c_low c_missed) := by
  refine CTv.mk (by decide) (Nat.le_of_ble_eq_true rfl) ?_
  intro p e s m args below meth c A ls Q hQ S hr hlocks hN hA hK hl hP hD hS
  have hx := S.1
  have hb := S.2.1
  have hl : lv_has ls 2 [(0, .ref o)] := hl
  unfold f_X8_findCrowds at h
  refine lv_iconst (v := 0) hx hb dX8_findCrowds_0 (by decide) ?_
  refine lv_istore_n (lv' := [(1, .int 0), (0, .ref o)]) hx hb dX8_findCrowds_1 rfl hl (by decide) rfl (fun ls hl => ?_)
  refine jn_w (t := fun k => f_X8_findCrowds_L2 FU c_setting c_squares c_dark c_light c_like k FU 0 c_isCrowded) (fun (k : Int32 → (Nat → Int32) → Option ((Nat → Int32))) => ∀ (x1_1 : Int32) (c_isCrowded_2 : (Nat → Int32)) (H : Heap) (locs : List Loc) (ls : Array Slot), VP G (mW o ad kc c_worked c_width c_height c_grey c_setting c_leastOf c_mostOf c_lifted c_squares c_square c_dark c_light c_like c_isCrowded_2 c_pairs c_first c_second c_votes c_shifts c_shiftX c_shiftY c_regionAt c_regions c_regionShift c_regionPairs c_regionFirst c_findings c_regionOf c_offset c_begun c_held c_isIn c_numbered c_left c_right c_top c_low c_missed) H → va_D A (mW o ad kc c_worked c_width c_height c_grey c_setting c_leastOf c_mostOf c_lifted c_squares c_square c_dark c_light c_like c_isCrowded_2 c_pairs c_first c_second c_votes c_shifts c_shiftX c_shiftY c_regionAt c_regions c_regionShift c_regionPairs c_regionFirst c_findings c_regionOf c_offset c_begun c_held c_isIn c_numbered c_left c_right c_top c_low c_missed) → va_S A s.heap H locs → lv_has ls 2 [] → k x1_1 c_isCrowded_2 = some c_isCrowded' → WW p l e (rmq 2 45) s m args below meth c Q H locs 50 ls []) h ?_ ?_
  · intro x1_1 c_isCrowded_2 H locs ls hP hD hS hl h
    cases h
    exact ret_v hx hb hr hQ hlocks hK hP hD hS dX8_findCrowds_50
  · intro k_3 K_4 h
    have L_5 : ∀ (n : Nat) (x1_1 : Int32) (c_isCrowded_2 : (Nat → Int32)) (H : Heap) (locs : List Loc) (ls : Array Slot), VP G (mW o ad kc c_worked c_width c_height c_grey c_setting c_leastOf c_mostOf c_lifted c_squares c_square c_dark c_light c_like c_isCrowded_2 c_pairs c_first c_second c_votes c_shifts c_shiftX c_shiftY c_regionAt c_regions c_regionShift c_regionPairs c_regionFirst c_findings c_regionOf c_offset c_begun c_held c_isIn c_numbered c_left c_right c_top c_low c_missed) H → va_D A (mW o ad kc c_worked c_width c_height c_grey c_setting c_leastOf c_mostOf c_lifted c_squares c_square c_dark c_light c_like c_isCrowded_2 c_pairs c_first c_second c_votes c_shifts c_shiftX c_shiftY c_regionAt c_regions c_regionShift c_regionPairs c_regionFirst c_findings c_regionOf c_offset c_begun c_held c_isIn c_numbered c_left c_right c_top c_low c_missed) → va_S A s.heap H locs → lv_has ls 2 [(0, .ref o), (1, .int x1_1)] → f_X8_findCrowds_L2 FU c_setting c_squares c_dark c_light c_like k_3 n x1_1 c_isCrowded_2 = some c_isCrowded' → WW p l e (rmq 2 45) s m args below meth c Q H locs 2 ls [] := by
      intro n
      induction n with
      | zero => intro x1_1 c_isCrowded_2 H locs ls hP hD hS hl h; rw [f_X8_findCrowds_L2] at h; cases h
      | succ n ih =>
        intro x1_1 c_isCrowded_2 H locs ls hP hD hS hl h
        rw [f_X8_findCrowds_L2] at h
        refine lv_iload_n hx hb dX8_findCrowds_2 rfl (lv_at hl 1 rfl) ?_
        refine lv_aload_n hx hb dX8_findCrowds_3 rfl (lv_at hl 0 rfl) ?_
        refine r_get S gf_X8_126 hK hP 0 rfl rfl dX8_findCrowds_4 ?_
        refine lv_icmp_ge (tgt := 50) hx hb dX8_findCrowds_7 (by decide) (fun q_15 => ?_) (fun q_15 => ?_)
        · have h := it_t q_15 h
          exact K_4 x1_1 c_isCrowded_2 _ _ _ hP hD hS (lv_sub hl [] rfl) h
        · have h := it_f q_15 h
          refine lv_aload_n hx hb dX8_findCrowds_10 rfl (lv_at hl 0 rfl) ?_
          refine r_get S gf_X8_44 hK hP 0 rfl rfl dX8_findCrowds_11 ?_
          refine lv_iload_n hx hb dX8_findCrowds_14 rfl (lv_at hl 1 rfl) ?_
          refine lv_aload_n hx hb dX8_findCrowds_15 rfl (lv_at hl 0 rfl) ?_
          refine lv_iload_n hx hb dX8_findCrowds_16 rfl (lv_at hl 1 rfl) ?_
          obtain ⟨r_6, hq, h⟩ := bd1_e h
          refine cs_Vi (rest := [.int x1_1, .ref (ad 13)]) (ci := 7) S hN cb_X8_isFlat ml_X8_132 ⟨Nat.le_of_ble_eq_true rfl, Nat.le_of_ble_eq_true rfl⟩ (c_X8_isFlat l G kc o ad x1_1 hq) hK hP hD hS hA 0 rfl rfl rfl rfl rfl (Nat.le_of_ble_eq_true rfl) hl.1 dX8_findCrowds_17 (fun H locs hP hD hS => ?_)
          refine jn_w (fun (k : Int32 → Option ((Nat → Int32))) => ∀ (t_7 : Int32) (H : Heap) (locs : List Loc) (ls : Array Slot), VP G (mW o ad kc c_worked c_width c_height c_grey c_setting c_leastOf c_mostOf c_lifted c_squares c_square c_dark c_light c_like c_isCrowded_2 c_pairs c_first c_second c_votes c_shifts c_shiftX c_shiftY c_regionAt c_regions c_regionShift c_regionPairs c_regionFirst c_findings c_regionOf c_offset c_begun c_held c_isIn c_numbered c_left c_right c_top c_low c_missed) H → va_D A (mW o ad kc c_worked c_width c_height c_grey c_setting c_leastOf c_mostOf c_lifted c_squares c_square c_dark c_light c_like c_isCrowded_2 c_pairs c_first c_second c_votes c_shifts c_shiftX c_shiftY c_regionAt c_regions c_regionShift c_regionPairs c_regionFirst c_findings c_regionOf c_offset c_begun c_held c_isIn c_numbered c_left c_right c_top c_low c_missed) → va_S A s.heap H locs → lv_has ls 2 [(0, .ref o), (1, .int x1_1)] → k t_7 = some c_isCrowded' → WW p l e (rmq 2 45) s m args below meth c Q H locs 43 ls [.int t_7, .int x1_1, .ref (ad 13)]) h ?_ ?_
          · intro t_7 H locs ls hP hD hS hl h
            refine r_zast hx hb hK hP hD hS 10 rfl dX8_findCrowds_43 h (fun c_isCrowded_10 H locs hP hD hS h => ?_)
            have hP : VP G (mW o ad kc c_worked c_width c_height c_grey c_setting c_leastOf c_mostOf c_lifted c_squares c_square c_dark c_light c_like c_isCrowded_10 c_pairs c_first c_second c_votes c_shifts c_shiftX c_shiftY c_regionAt c_regions c_regionShift c_regionPairs c_regionFirst c_findings c_regionOf c_offset c_begun c_held c_isIn c_numbered c_left c_right c_top c_low c_missed) H := hP
            have hD : va_D A (mW o ad kc c_worked c_width c_height c_grey c_setting c_leastOf c_mostOf c_lifted c_squares c_square c_dark c_light c_like c_isCrowded_10 c_pairs c_first c_second c_votes c_shifts c_shiftX c_shiftY c_regionAt c_regions c_regionShift c_regionPairs c_regionFirst c_findings c_regionOf c_offset c_begun c_held c_isIn c_numbered c_left c_right c_top c_low c_missed) := hD
            refine lv_iinc (v := (x1_1 + 1)) (lv' := [(1, .int (x1_1 + 1)), (0, .ref o)]) hx hb dX8_findCrowds_44 hl (k := 1) rfl rfl (by decide) rfl (fun ls hl => ?_)
            refine lv_goto (tgt := 2) hx hb dX8_findCrowds_47 (by decide) ?_
            exact ih (x1_1 + 1) c_isCrowded_10 _ _ _ hP hD hS (lv_sub hl [1, 0] rfl) h
          · intro j_8 J_9 h
            refine lv_if_ne (tgt := 42) hx hb dX8_findCrowds_20 (by decide) (fun q_14 => ?_) (fun q_14 => ?_)
            · have h := it_f q_14 h
              refine lv_iconst (v := 0) hx hb dX8_findCrowds_42 (by decide) ?_
              exact J_9 0 _ _ _ hP hD hS (lv_sub hl [0, 1] rfl) h
            · have h := it_t q_14 h
              refine lv_aload_n hx hb dX8_findCrowds_23 rfl (lv_at hl 0 rfl) ?_
              refine lv_iload_n hx hb dX8_findCrowds_24 rfl (lv_at hl 1 rfl) ?_
              refine lv_iconst (v := 0) hx hb dX8_findCrowds_25 (by decide) ?_
              obtain ⟨r_11, hq, h⟩ := bd1_e h
              refine cs_Vi (rest := [.int x1_1, .ref (ad 13)]) (ci := 7) S hN cb_X8_manyLike ml_X8_136 ⟨Nat.le_of_ble_eq_true rfl, Nat.le_of_ble_eq_true rfl⟩ (c_X8_manyLike l G kc o ad x1_1 0 hq) hK hP hD hS hA 0 rfl rfl rfl rfl rfl (Nat.le_of_ble_eq_true rfl) hl.1 dX8_findCrowds_26 (fun H locs hP hD hS => ?_)
              refine lv_aload_n hx hb dX8_findCrowds_29 rfl (lv_at hl 0 rfl) ?_
              refine r_get S gf_X8_20 hK hP 0 rfl rfl dX8_findCrowds_30 ?_
              refine lv_iconst (v := 5) hx hb dX8_findCrowds_33 (by decide) ?_
              refine r_iald hx hb hK hP 2 rfl dX8_findCrowds_34 h (fun y_12 h => ?_)
              refine lv_icmp_le (tgt := 42) hx hb dX8_findCrowds_35 (by decide) (fun q_13 => ?_) (fun q_13 => ?_)
              · have h := it_t q_13 h
                refine lv_iconst (v := 0) hx hb dX8_findCrowds_42 (by decide) ?_
                exact J_9 0 _ _ _ hP hD hS (lv_sub hl [0, 1] rfl) h
              · have h := it_f q_13 h
                refine lv_iconst (v := 1) hx hb dX8_findCrowds_38 (by decide) ?_
                refine lv_goto (tgt := 43) hx hb dX8_findCrowds_39 (by decide) ?_
                exact J_9 1 _ _ _ hP hD hS (lv_sub hl [0, 1] rfl) h
    exact L_5 FU 0 c_isCrowded _ _ _ hP hD hS (lv_sub hl [1, 0] rfl) h
set_option maxHeartbeats 1000000 in
set_option maxRecDepth 100000 in
theorem c_X8_squareAt (l : Launch) (G : va_G) (kc : Nat → ClassId) (o : Nat) (ad : Nat → Nat) {c_worked : Int32} {c_width : Int32} {c_height : Int32} {c_grey : (Nat → Int32)} {c_setting : (Nat → Int32)} {c_leastOf : (Nat → Int32)} {c_mostOf : (Nat → Int32)} {c_lifted : (Nat → Int32)} {c_squares : Int32} {c_square : (Nat → Int32)} {c_dark : (Nat → Int32)} {c_light : (Nat → Int32)} {c_like : (Nat → Int32)} {c_isCrowded : (Nat → Int32)} {c_pairs : Int32} {c_first : (Nat → Int32)} {c_second : (Nat → Int32)} {c_votes : (Nat → Int32)} {c_shifts : Int32} {c_shiftX : (Nat → Int32)} {c_shiftY : (Nat → Int32)} {c_regionAt : (Nat → Int32)} {c_regions : Int32} {c_regionShift : (Nat → Int32)} {c_regionPairs : (Nat → Int32)} {c_regionFirst : (Nat → Int32)} {c_findings : Int32} {c_regionOf : (Nat → Int32)} {c_offset : (Nat → Int32)} {c_begun : (Nat → Int32)} {c_held : (Nat → Int32)} {c_isIn : (Nat → Int32)} {c_numbered : (Nat → Int32)} {c_left : Int32} {c_right : Int32} {c_top : Int32} {c_low : Int32} {c_missed : Int32} (x1 : Int32) (x2 : Int32) {r : Int32} {c_worked' : Int32} {c_squares' : Int32} {c_square' : (Nat → Int32)} {c_dark' : (Nat → Int32)} {c_light' : (Nat → Int32)} {c_like' : (Nat → Int32)} {FU : Nat} (h : f_X8_squareAt FU c_worked c_width c_height c_grey c_setting c_squares c_square c_dark c_light c_like x1 x2 = some (r, c_worked', c_squares', c_square', c_dark', c_light', c_like')) : CTi l G kc yX8_squareAt cX8_squareAt 4 (some .int) (rmq 4 93) [.ref o, .int x1, .int x2] (mW o ad kc c_worked c_width c_height c_grey c_setting c_leastOf c_mostOf c_lifted c_squares c_square c_dark c_light c_like c_isCrowded c_pairs c_first c_second c_votes c_shifts c_shiftX c_shiftY c_regionAt c_regions c_regionShift c_regionPairs c_regionFirst c_findings c_regionOf c_offset c_begun c_held c_isIn c_numbered c_left c_right c_top c_low c_missed) (mW o ad kc (c_worked') c_width c_height c_grey c_setting c_leastOf c_mostOf c_lifted (c_squares') (c_square') (c_dark') (c_light') (c_like') c_isCrowded c_pairs c_first c_second c_votes c_shifts c_shiftX c_shiftY c_regionAt c_regions c_regionShift c_regionPairs c_regionFirst c_findings c_regionOf c_offset c_begun c_held c_isIn c_numbered c_left c_right c_top c_low c_missed) r := by
  refine CTi.mk (by decide) (Nat.le_of_ble_eq_true rfl) ?_
  intro p e s m args below meth c A ls Q hQ S hr hlocks hN hA hK hl hP hD hS
  have hx := S.1
  have hb := S.2.1
  have hl : lv_has ls 4 [(0, .ref o), (1, .int x1), (2, .int x2)] := hl
  unfold f_X8_squareAt at h
  refine lv_aload_n hx hb dX8_squareAt_0 rfl (lv_at hl 0 rfl) ?_
  obtain ⟨c_worked_1, c_squares_2, c_square_3, c_dark_4, c_light_5, c_like_6, hq, h⟩ := bd6_e h
  refine cs_Vv (rest := []) (ci := 7) S hN cb_X8_findSquares ml_X8_140 ⟨Nat.le_of_ble_eq_true rfl, Nat.le_of_ble_eq_true rfl⟩ (c_X8_findSquares l G kc o ad  hq) hK hP hD hS hA 0 rfl rfl rfl rfl rfl (Nat.le_of_ble_eq_true rfl) hl.1 dX8_squareAt_1 (fun H locs hP hD hS => ?_)
  refine lv_iconst (v := 0) hx hb dX8_squareAt_4 (by decide) ?_
  refine lv_istore_n (lv' := [(3, .int 0), (0, .ref o), (1, .int x1), (2, .int x2)]) hx hb dX8_squareAt_5 rfl hl (by decide) rfl (fun ls hl => ?_)
  refine jn_w (t := fun k => f_X8_squareAt_L6 FU x1 x2 c_worked_1 c_squares_2 c_square_3 c_dark_4 c_light_5 c_like_6 k FU 0) (fun (k : Int32 → Option (Int32 × Int32 × Int32 × (Nat → Int32) × (Nat → Int32) × (Nat → Int32) × (Nat → Int32))) => ∀ (x3_7 : Int32) (H : Heap) (locs : List Loc) (ls : Array Slot), VP G (mW o ad kc c_worked_1 c_width c_height c_grey c_setting c_leastOf c_mostOf c_lifted c_squares_2 c_square_3 c_dark_4 c_light_5 c_like_6 c_isCrowded c_pairs c_first c_second c_votes c_shifts c_shiftX c_shiftY c_regionAt c_regions c_regionShift c_regionPairs c_regionFirst c_findings c_regionOf c_offset c_begun c_held c_isIn c_numbered c_left c_right c_top c_low c_missed) H → va_D A (mW o ad kc c_worked_1 c_width c_height c_grey c_setting c_leastOf c_mostOf c_lifted c_squares_2 c_square_3 c_dark_4 c_light_5 c_like_6 c_isCrowded c_pairs c_first c_second c_votes c_shifts c_shiftX c_shiftY c_regionAt c_regions c_regionShift c_regionPairs c_regionFirst c_findings c_regionOf c_offset c_begun c_held c_isIn c_numbered c_left c_right c_top c_low c_missed) → va_S A s.heap H locs → lv_has ls 4 [] → k x3_7 = some (r, c_worked', c_squares', c_square', c_dark', c_light', c_like') → WW p l e (rmq 4 93) s m args below meth c Q H locs 57 ls []) h ?_ ?_
  · intro x3_7 H locs ls hP hD hS hl h
    refine lv_bipush (v := (-9)) hx hb dX8_squareAt_57 (by decide) ?_
    cases h
    exact ret_i hx hb hr rfl hQ hlocks hK hP hD hS dX8_squareAt_59
  · intro k_8 K_9 h
    have L_10 : ∀ (n : Nat) (x3_7 : Int32) (H : Heap) (locs : List Loc) (ls : Array Slot), VP G (mW o ad kc c_worked_1 c_width c_height c_grey c_setting c_leastOf c_mostOf c_lifted c_squares_2 c_square_3 c_dark_4 c_light_5 c_like_6 c_isCrowded c_pairs c_first c_second c_votes c_shifts c_shiftX c_shiftY c_regionAt c_regions c_regionShift c_regionPairs c_regionFirst c_findings c_regionOf c_offset c_begun c_held c_isIn c_numbered c_left c_right c_top c_low c_missed) H → va_D A (mW o ad kc c_worked_1 c_width c_height c_grey c_setting c_leastOf c_mostOf c_lifted c_squares_2 c_square_3 c_dark_4 c_light_5 c_like_6 c_isCrowded c_pairs c_first c_second c_votes c_shifts c_shiftX c_shiftY c_regionAt c_regions c_regionShift c_regionPairs c_regionFirst c_findings c_regionOf c_offset c_begun c_held c_isIn c_numbered c_left c_right c_top c_low c_missed) → va_S A s.heap H locs → lv_has ls 4 [(0, .ref o), (1, .int x1), (2, .int x2), (3, .int x3_7)] → f_X8_squareAt_L6 FU x1 x2 c_worked_1 c_squares_2 c_square_3 c_dark_4 c_light_5 c_like_6 k_8 n x3_7 = some (r, c_worked', c_squares', c_square', c_dark', c_light', c_like') → WW p l e (rmq 4 93) s m args below meth c Q H locs 6 ls [] := by
      intro n
      induction n with
      | zero => intro x3_7 H locs ls hP hD hS hl h; rw [f_X8_squareAt_L6] at h; cases h
      | succ n ih =>
        intro x3_7 H locs ls hP hD hS hl h
        rw [f_X8_squareAt_L6] at h
        refine lv_iload_n hx hb dX8_squareAt_6 rfl (lv_at hl 3 rfl) ?_
        refine lv_aload_n hx hb dX8_squareAt_7 rfl (lv_at hl 0 rfl) ?_
        refine r_get S gf_X8_126 hK hP 0 rfl rfl dX8_squareAt_8 ?_
        refine lv_icmp_ge (tgt := 57) hx hb dX8_squareAt_11 (by decide) (fun q_17 => ?_) (fun q_17 => ?_)
        · have h := it_t q_17 h
          exact K_9 x3_7 _ _ _ hP hD hS (lv_sub hl [] rfl) h
        · have h := it_f q_17 h
          refine lv_iload_n hx hb dX8_squareAt_14 rfl (lv_at hl 1 rfl) ?_
          refine lv_iconst (v := 0) hx hb dX8_squareAt_15 (by decide) ?_
          refine lv_bipush (v := 15) hx hb dX8_squareAt_16 (by decide) ?_
          obtain ⟨r_11, hq, h⟩ := bd1_e h
          refine cp_Si (rest := []) [] S hN cb_X8_within ml_X8_96 ⟨Nat.le_of_ble_eq_true rfl, Nat.le_of_ble_eq_true rfl⟩ (c_X8_within l G kc x1 0 15 hq) hK hP hD hS hA rfl rfl rfl rfl rfl (Nat.le_of_ble_eq_true rfl) hl.1 dX8_squareAt_18 (fun H locs hP hD hS => ?_)
          have hP : VP G (mW o ad kc c_worked_1 c_width c_height c_grey c_setting c_leastOf c_mostOf c_lifted c_squares_2 c_square_3 c_dark_4 c_light_5 c_like_6 c_isCrowded c_pairs c_first c_second c_votes c_shifts c_shiftX c_shiftY c_regionAt c_regions c_regionShift c_regionPairs c_regionFirst c_findings c_regionOf c_offset c_begun c_held c_isIn c_numbered c_left c_right c_top c_low c_missed) H := hP
          have hD : va_D A (mW o ad kc c_worked_1 c_width c_height c_grey c_setting c_leastOf c_mostOf c_lifted c_squares_2 c_square_3 c_dark_4 c_light_5 c_like_6 c_isCrowded c_pairs c_first c_second c_votes c_shifts c_shiftX c_shiftY c_regionAt c_regions c_regionShift c_regionPairs c_regionFirst c_findings c_regionOf c_offset c_begun c_held c_isIn c_numbered c_left c_right c_top c_low c_missed) := hD
          refine lv_if_eq (tgt := 51) hx hb dX8_squareAt_21 (by decide) (fun q_16 => ?_) (fun q_16 => ?_)
          · have h := it_t q_16 h
            refine lv_iinc (v := (x3_7 + 1)) (lv' := [(3, .int (x3_7 + 1)), (0, .ref o), (1, .int x1), (2, .int x2)]) hx hb dX8_squareAt_51 hl (k := 3) rfl rfl (by decide) rfl (fun ls hl => ?_)
            refine lv_goto (tgt := 6) hx hb dX8_squareAt_54 (by decide) ?_
            exact ih (x3_7 + 1) _ _ _ hP hD hS (lv_sub hl [1, 2, 3, 0] rfl) h
          · have h := it_f q_16 h
            refine lv_iload_n hx hb dX8_squareAt_24 rfl (lv_at hl 2 rfl) ?_
            refine lv_iconst (v := 0) hx hb dX8_squareAt_25 (by decide) ?_
            refine lv_bipush (v := 15) hx hb dX8_squareAt_26 (by decide) ?_
            obtain ⟨r_12, hq, h⟩ := bd1_e h
            refine cp_Si (rest := []) [] S hN cb_X8_within ml_X8_96 ⟨Nat.le_of_ble_eq_true rfl, Nat.le_of_ble_eq_true rfl⟩ (c_X8_within l G kc x2 0 15 hq) hK hP hD hS hA rfl rfl rfl rfl rfl (Nat.le_of_ble_eq_true rfl) hl.1 dX8_squareAt_28 (fun H locs hP hD hS => ?_)
            have hP : VP G (mW o ad kc c_worked_1 c_width c_height c_grey c_setting c_leastOf c_mostOf c_lifted c_squares_2 c_square_3 c_dark_4 c_light_5 c_like_6 c_isCrowded c_pairs c_first c_second c_votes c_shifts c_shiftX c_shiftY c_regionAt c_regions c_regionShift c_regionPairs c_regionFirst c_findings c_regionOf c_offset c_begun c_held c_isIn c_numbered c_left c_right c_top c_low c_missed) H := hP
            have hD : va_D A (mW o ad kc c_worked_1 c_width c_height c_grey c_setting c_leastOf c_mostOf c_lifted c_squares_2 c_square_3 c_dark_4 c_light_5 c_like_6 c_isCrowded c_pairs c_first c_second c_votes c_shifts c_shiftX c_shiftY c_regionAt c_regions c_regionShift c_regionPairs c_regionFirst c_findings c_regionOf c_offset c_begun c_held c_isIn c_numbered c_left c_right c_top c_low c_missed) := hD
            refine lv_if_eq (tgt := 51) hx hb dX8_squareAt_31 (by decide) (fun q_15 => ?_) (fun q_15 => ?_)
            · have h := it_t q_15 h
              refine lv_iinc (v := (x3_7 + 1)) (lv' := [(3, .int (x3_7 + 1)), (0, .ref o), (1, .int x1), (2, .int x2)]) hx hb dX8_squareAt_51 hl (k := 3) rfl rfl (by decide) rfl (fun ls hl => ?_)
              refine lv_goto (tgt := 6) hx hb dX8_squareAt_54 (by decide) ?_
              exact ih (x3_7 + 1) _ _ _ hP hD hS (lv_sub hl [1, 2, 3, 0] rfl) h
            · have h := it_f q_15 h
              refine lv_aload_n hx hb dX8_squareAt_34 rfl (lv_at hl 0 rfl) ?_
              refine r_get S gf_X8_32 hK hP 0 rfl rfl dX8_squareAt_35 ?_
              refine lv_iload_n hx hb dX8_squareAt_38 rfl (lv_at hl 3 rfl) ?_
              refine r_iald hx hb hK hP 6 rfl dX8_squareAt_39 h (fun y_13 h => ?_)
              refine lv_bipush (v := 16) hx hb dX8_squareAt_40 (by decide) ?_
              refine lv_iload_n hx hb dX8_squareAt_42 rfl (lv_at hl 2 rfl) ?_
              refine lv_imul hx hb dX8_squareAt_43 ?_
              refine lv_iload_n hx hb dX8_squareAt_44 rfl (lv_at hl 1 rfl) ?_
              refine lv_iadd hx hb dX8_squareAt_45 ?_
              refine lv_icmp_ne (tgt := 51) hx hb dX8_squareAt_46 (by decide) (fun q_14 => ?_) (fun q_14 => ?_)
              · have h := it_f q_14 h
                refine lv_iinc (v := (x3_7 + 1)) (lv' := [(3, .int (x3_7 + 1)), (0, .ref o), (1, .int x1), (2, .int x2)]) hx hb dX8_squareAt_51 hl (k := 3) rfl rfl (by decide) rfl (fun ls hl => ?_)
                refine lv_goto (tgt := 6) hx hb dX8_squareAt_54 (by decide) ?_
                exact ih (x3_7 + 1) _ _ _ hP hD hS (lv_sub hl [1, 2, 3, 0] rfl) h
              · have h := it_t q_14 h
                refine lv_iload_n hx hb dX8_squareAt_49 rfl (lv_at hl 3 rfl) ?_
                cases h
                exact ret_i hx hb hr rfl hQ hlocks hK hP hD hS dX8_squareAt_50
    exact L_10 FU 0 _ _ _ hP hD hS (lv_sub hl [1, 2, 3, 0] rfl) h
set_option maxHeartbeats 1000000 in
set_option maxRecDepth 100000 in
theorem c_X8_mark (l : Launch) (G : va_G) (kc : Nat → ClassId) (o : Nat) (ad : Nat → Nat) {c_worked : Int32} {c_width : Int32} {c_height : Int32} {c_grey : (Nat → Int32)} {c_setting : (Nat → Int32)} {c_leastOf : (Nat → Int32)} {c_mostOf : (Nat → Int32)} {c_lifted : (Nat → Int32)} {c_squares : Int32} {c_square : (Nat → Int32)} {c_dark : (Nat → Int32)} {c_light : (Nat → Int32)} {c_like : (Nat → Int32)} {c_isCrowded : (Nat → Int32)} {c_pairs : Int32} {c_first : (Nat → Int32)} {c_second : (Nat → Int32)} {c_votes : (Nat → Int32)} {c_shifts : Int32} {c_shiftX : (Nat → Int32)} {c_shiftY : (Nat → Int32)} {c_regionAt : (Nat → Int32)} {c_regions : Int32} {c_regionShift : (Nat → Int32)} {c_regionPairs : (Nat → Int32)} {c_regionFirst : (Nat → Int32)} {c_findings : Int32} {c_regionOf : (Nat → Int32)} {c_offset : (Nat → Int32)} {c_begun : (Nat → Int32)} {c_held : (Nat → Int32)} {c_isIn : (Nat → Int32)} {c_numbered : (Nat → Int32)} {c_left : Int32} {c_right : Int32} {c_top : Int32} {c_low : Int32} {c_missed : Int32} (x1 : Int32) (x2 : Int32) {r : Int32} {c_worked' : Int32} {c_squares' : Int32} {c_square' : (Nat → Int32)} {c_dark' : (Nat → Int32)} {c_light' : (Nat → Int32)} {c_like' : (Nat → Int32)} {FU : Nat} (h : f_X8_mark FU c_worked c_width c_height c_grey c_setting c_squares c_square c_dark c_light c_like x1 x2 = some (r, c_worked', c_squares', c_square', c_dark', c_light', c_like')) : CTi l G kc yX8_mark cX8_mark 6 (some .int) (rmq 5 116) [.ref o, .int x1, .int x2] (mW o ad kc c_worked c_width c_height c_grey c_setting c_leastOf c_mostOf c_lifted c_squares c_square c_dark c_light c_like c_isCrowded c_pairs c_first c_second c_votes c_shifts c_shiftX c_shiftY c_regionAt c_regions c_regionShift c_regionPairs c_regionFirst c_findings c_regionOf c_offset c_begun c_held c_isIn c_numbered c_left c_right c_top c_low c_missed) (mW o ad kc (c_worked') c_width c_height c_grey c_setting c_leastOf c_mostOf c_lifted (c_squares') (c_square') (c_dark') (c_light') (c_like') c_isCrowded c_pairs c_first c_second c_votes c_shifts c_shiftX c_shiftY c_regionAt c_regions c_regionShift c_regionPairs c_regionFirst c_findings c_regionOf c_offset c_begun c_held c_isIn c_numbered c_left c_right c_top c_low c_missed) r := by
  refine CTi.mk (by decide) (Nat.le_of_ble_eq_true rfl) ?_
  intro p e s m args below meth c A ls Q hQ S hr hlocks hN hA hK hl hP hD hS
  have hx := S.1
  have hb := S.2.1
  have hl : lv_has ls 6 [(0, .ref o), (1, .int x1), (2, .int x2)] := hl
  unfold f_X8_mark at h
  refine lv_aload_n hx hb dX8_mark_0 rfl (lv_at hl 0 rfl) ?_
  refine lv_iload_n hx hb dX8_mark_1 rfl (lv_at hl 1 rfl) ?_
  refine lv_iload_n hx hb dX8_mark_2 rfl (lv_at hl 2 rfl) ?_
  obtain ⟨r_1, c_worked_2, c_squares_3, c_square_4, c_dark_5, c_light_6, c_like_7, hq, h⟩ := bd7_e h
  refine cs_Vi (rest := []) (ci := 7) S hN cb_X8_squareAt ml_X8_143 ⟨Nat.le_of_ble_eq_true rfl, Nat.le_of_ble_eq_true rfl⟩ (c_X8_squareAt l G kc o ad x1 x2 hq) hK hP hD hS hA 0 rfl rfl rfl rfl rfl (Nat.le_of_ble_eq_true rfl) hl.1 dX8_mark_3 (fun H locs hP hD hS => ?_)
  refine lv_istore_n (lv' := [(3, .int r_1), (0, .ref o), (1, .int x1), (2, .int x2)]) hx hb dX8_mark_6 rfl hl (by decide) rfl (fun ls hl => ?_)
  refine lv_iload_n hx hb dX8_mark_7 rfl (lv_at hl 0 rfl) ?_
  refine lv_bipush (v := (-9)) hx hb dX8_mark_8 (by decide) ?_
  refine lv_icmp_ne (tgt := 15) hx hb dX8_mark_10 (by decide) (fun q_16 => ?_) (fun q_16 => ?_)
  · have h := it_f q_16 h
    refine lv_iconst (v := 1) hx hb dX8_mark_15 (by decide) ?_
    refine lv_istore (lv' := [(4, .int 1), (3, .int r_1), (0, .ref o), (1, .int x1), (2, .int x2)]) hx hb dX8_mark_16 hl (by decide) rfl (fun ls hl => ?_)
    refine lv_iconst (v := 0) hx hb dX8_mark_18 (by decide) ?_
    refine lv_istore (lv' := [(5, .int 0), (4, .int 1), (3, .int r_1), (0, .ref o), (1, .int x1), (2, .int x2)]) hx hb dX8_mark_19 hl (by decide) rfl (fun ls hl => ?_)
    refine jn_w (t := fun k => f_X8_mark_L21 FU r_1 c_grey c_setting c_square_4 c_dark_5 k FU 1 0) (fun (k : Int32 → Int32 → Option (Int32 × Int32 × Int32 × (Nat → Int32) × (Nat → Int32) × (Nat → Int32) × (Nat → Int32))) => ∀ (x4_8 : Int32) (x5_9 : Int32) (H : Heap) (locs : List Loc) (ls : Array Slot), VP G (mW o ad kc c_worked_2 c_width c_height c_grey c_setting c_leastOf c_mostOf c_lifted c_squares_3 c_square_4 c_dark_5 c_light_6 c_like_7 c_isCrowded c_pairs c_first c_second c_votes c_shifts c_shiftX c_shiftY c_regionAt c_regions c_regionShift c_regionPairs c_regionFirst c_findings c_regionOf c_offset c_begun c_held c_isIn c_numbered c_left c_right c_top c_low c_missed) H → va_D A (mW o ad kc c_worked_2 c_width c_height c_grey c_setting c_leastOf c_mostOf c_lifted c_squares_3 c_square_4 c_dark_5 c_light_6 c_like_7 c_isCrowded c_pairs c_first c_second c_votes c_shifts c_shiftX c_shiftY c_regionAt c_regions c_regionShift c_regionPairs c_regionFirst c_findings c_regionOf c_offset c_begun c_held c_isIn c_numbered c_left c_right c_top c_low c_missed) → va_S A s.heap H locs → lv_has ls 6 [(4, .int x4_8)] → k x4_8 x5_9 = some (r, c_worked', c_squares', c_square', c_dark', c_light', c_like') → WW p l e (rmq 5 116) s m args below meth c Q H locs 51 ls []) h ?_ ?_
    · intro x4_8 x5_9 H locs ls hP hD hS hl h
      refine lv_iload hx hb dX8_mark_51 (lv_at hl 0 rfl) ?_
      cases h
      exact ret_i hx hb hr rfl hQ hlocks hK hP hD hS dX8_mark_53
    · intro k_10 K_11 h
      have L_12 : ∀ (n : Nat) (x4_8 : Int32) (x5_9 : Int32) (H : Heap) (locs : List Loc) (ls : Array Slot), VP G (mW o ad kc c_worked_2 c_width c_height c_grey c_setting c_leastOf c_mostOf c_lifted c_squares_3 c_square_4 c_dark_5 c_light_6 c_like_7 c_isCrowded c_pairs c_first c_second c_votes c_shifts c_shiftX c_shiftY c_regionAt c_regions c_regionShift c_regionPairs c_regionFirst c_findings c_regionOf c_offset c_begun c_held c_isIn c_numbered c_left c_right c_top c_low c_missed) H → va_D A (mW o ad kc c_worked_2 c_width c_height c_grey c_setting c_leastOf c_mostOf c_lifted c_squares_3 c_square_4 c_dark_5 c_light_6 c_like_7 c_isCrowded c_pairs c_first c_second c_votes c_shifts c_shiftX c_shiftY c_regionAt c_regions c_regionShift c_regionPairs c_regionFirst c_findings c_regionOf c_offset c_begun c_held c_isIn c_numbered c_left c_right c_top c_low c_missed) → va_S A s.heap H locs → lv_has ls 6 [(0, .ref o), (3, .int r_1), (4, .int x4_8), (5, .int x5_9)] → f_X8_mark_L21 FU r_1 c_grey c_setting c_square_4 c_dark_5 k_10 n x4_8 x5_9 = some (r, c_worked', c_squares', c_square', c_dark', c_light', c_like') → WW p l e (rmq 5 116) s m args below meth c Q H locs 21 ls [] := by
        intro n
        induction n with
        | zero => intro x4_8 x5_9 H locs ls hP hD hS hl h; rw [f_X8_mark_L21] at h; cases h
        | succ n ih =>
          intro x4_8 x5_9 H locs ls hP hD hS hl h
          rw [f_X8_mark_L21] at h
          refine lv_iload hx hb dX8_mark_21 (lv_at hl 3 rfl) ?_
          refine lv_aload_n hx hb dX8_mark_23 rfl (lv_at hl 0 rfl) ?_
          obtain ⟨r_13, hq, h⟩ := bd1_e h
          refine cs_Vi (rest := [.int x5_9]) (ci := 7) S hN cb_X8_numbers ml_X8_119 ⟨Nat.le_of_ble_eq_true rfl, Nat.le_of_ble_eq_true rfl⟩ (c_X8_numbers l G kc o ad  hq) hK hP hD hS hA 0 rfl rfl rfl rfl rfl (Nat.le_of_ble_eq_true rfl) hl.1 dX8_mark_24 (fun H locs hP hD hS => ?_)
          refine lv_icmp_ge (tgt := 51) hx hb dX8_mark_27 (by decide) (fun q_15 => ?_) (fun q_15 => ?_)
          · have h := it_t q_15 h
            exact K_11 x4_8 x5_9 _ _ _ hP hD hS (lv_sub hl [2] rfl) h
          · have h := it_f q_15 h
            refine lv_bipush (v := 31) hx hb dX8_mark_30 (by decide) ?_
            refine lv_iload hx hb dX8_mark_32 (lv_at hl 2 rfl) ?_
            refine lv_imul hx hb dX8_mark_34 ?_
            refine lv_aload_n hx hb dX8_mark_35 rfl (lv_at hl 0 rfl) ?_
            refine lv_iload_n hx hb dX8_mark_36 rfl (lv_at hl 1 rfl) ?_
            refine lv_iload hx hb dX8_mark_37 (lv_at hl 3 rfl) ?_
            obtain ⟨r_14, hq, h⟩ := bd1_e h
            refine cs_Vi (rest := [.int (31 * x4_8)]) (ci := 7) S hN cb_X8_numberIn ml_X8_123 ⟨Nat.le_of_ble_eq_true rfl, Nat.le_of_ble_eq_true rfl⟩ (c_X8_numberIn l G kc o ad r_1 x5_9 hq) hK hP hD hS hA 0 rfl rfl rfl rfl rfl (Nat.le_of_ble_eq_true rfl) hl.1 dX8_mark_39 (fun H locs hP hD hS => ?_)
            refine lv_iadd hx hb dX8_mark_42 ?_
            refine lv_istore (lv' := [(4, .int ((31 * x4_8) + r_14)), (0, .ref o), (3, .int r_1), (5, .int x5_9)]) hx hb dX8_mark_43 hl (by decide) rfl (fun ls hl => ?_)
            refine lv_iinc (v := (x5_9 + 1)) (lv' := [(5, .int (x5_9 + 1)), (4, .int ((31 * x4_8) + r_14)), (0, .ref o), (3, .int r_1)]) hx hb dX8_mark_45 hl (k := 3) rfl rfl (by decide) rfl (fun ls hl => ?_)
            refine lv_goto (tgt := 21) hx hb dX8_mark_48 (by decide) ?_
            exact ih ((31 * x4_8) + r_14) (x5_9 + 1) _ _ _ hP hD hS (lv_sub hl [2, 3, 1, 0] rfl) h
      exact L_12 FU 1 0 _ _ _ hP hD hS (lv_sub hl [3, 2, 1, 0] rfl) h
  · have h := it_t q_16 h
    refine lv_iconst (v := 0) hx hb dX8_mark_13 (by decide) ?_
    cases h
    exact ret_i hx hb hr rfl hQ hlocks hK hP hD hS dX8_mark_14
set_option maxHeartbeats 1000000 in
set_option maxRecDepth 100000 in
theorem c_X8_across (l : Launch) (G : va_G) (kc : Nat → ClassId) (o : Nat) (ad : Nat → Nat) {c_worked : Int32} {c_width : Int32} {c_height : Int32} {c_grey : (Nat → Int32)} {c_setting : (Nat → Int32)} {c_leastOf : (Nat → Int32)} {c_mostOf : (Nat → Int32)} {c_lifted : (Nat → Int32)} {c_squares : Int32} {c_square : (Nat → Int32)} {c_dark : (Nat → Int32)} {c_light : (Nat → Int32)} {c_like : (Nat → Int32)} {c_isCrowded : (Nat → Int32)} {c_pairs : Int32} {c_first : (Nat → Int32)} {c_second : (Nat → Int32)} {c_votes : (Nat → Int32)} {c_shifts : Int32} {c_shiftX : (Nat → Int32)} {c_shiftY : (Nat → Int32)} {c_regionAt : (Nat → Int32)} {c_regions : Int32} {c_regionShift : (Nat → Int32)} {c_regionPairs : (Nat → Int32)} {c_regionFirst : (Nat → Int32)} {c_findings : Int32} {c_regionOf : (Nat → Int32)} {c_offset : (Nat → Int32)} {c_begun : (Nat → Int32)} {c_held : (Nat → Int32)} {c_isIn : (Nat → Int32)} {c_numbered : (Nat → Int32)} {c_left : Int32} {c_right : Int32} {c_top : Int32} {c_low : Int32} {c_missed : Int32} (x1 : Int32) (x2 : Int32) {r : Int32} {FU : Nat} (h : f_X8_across FU c_square x1 x2 = some r) : CTi l G kc yX8_across cX8_across 3 (some .int) (rmq 0 0) [.ref o, .int x1, .int x2] (mW o ad kc c_worked c_width c_height c_grey c_setting c_leastOf c_mostOf c_lifted c_squares c_square c_dark c_light c_like c_isCrowded c_pairs c_first c_second c_votes c_shifts c_shiftX c_shiftY c_regionAt c_regions c_regionShift c_regionPairs c_regionFirst c_findings c_regionOf c_offset c_begun c_held c_isIn c_numbered c_left c_right c_top c_low c_missed) (mW o ad kc c_worked c_width c_height c_grey c_setting c_leastOf c_mostOf c_lifted c_squares c_square c_dark c_light c_like c_isCrowded c_pairs c_first c_second c_votes c_shifts c_shiftX c_shiftY c_regionAt c_regions c_regionShift c_regionPairs c_regionFirst c_findings c_regionOf c_offset c_begun c_held c_isIn c_numbered c_left c_right c_top c_low c_missed) r := by
  refine CTi.mk (by decide) (Nat.le_of_ble_eq_true rfl) ?_
  intro p e s m args below meth c A ls Q hQ S hr hlocks hN hA hK hl hP hD hS
  have hx := S.1
  have hb := S.2.1
  have hl : lv_has ls 3 [(0, .ref o), (1, .int x1), (2, .int x2)] := hl
  unfold f_X8_across at h
  refine lv_aload_n hx hb dX8_across_0 rfl (lv_at hl 0 rfl) ?_
  refine r_get S gf_X8_32 hK hP 0 rfl rfl dX8_across_1 ?_
  refine lv_iload_n hx hb dX8_across_4 rfl (lv_at hl 2 rfl) ?_
  refine r_iald hx hb hK hP 6 rfl dX8_across_5 h (fun y_1 h => ?_)
  refine lv_bipush (v := 16) hx hb dX8_across_6 (by decide) ?_
  refine lv_irem hx hb dX8_across_8 (by decide) ?_
  refine lv_aload_n hx hb dX8_across_9 rfl (lv_at hl 0 rfl) ?_
  refine r_get S gf_X8_32 hK hP 0 rfl rfl dX8_across_10 ?_
  refine lv_iload_n hx hb dX8_across_13 rfl (lv_at hl 1 rfl) ?_
  refine r_iald hx hb hK hP 6 rfl dX8_across_14 h (fun y_2 h => ?_)
  refine lv_bipush (v := 16) hx hb dX8_across_15 (by decide) ?_
  refine lv_irem hx hb dX8_across_17 (by decide) ?_
  refine lv_isub hx hb dX8_across_18 ?_
  cases h
  exact ret_i hx hb hr rfl hQ hlocks hK hP hD hS dX8_across_19
set_option maxHeartbeats 1000000 in
set_option maxRecDepth 100000 in
theorem c_X8_down (l : Launch) (G : va_G) (kc : Nat → ClassId) (o : Nat) (ad : Nat → Nat) {c_worked : Int32} {c_width : Int32} {c_height : Int32} {c_grey : (Nat → Int32)} {c_setting : (Nat → Int32)} {c_leastOf : (Nat → Int32)} {c_mostOf : (Nat → Int32)} {c_lifted : (Nat → Int32)} {c_squares : Int32} {c_square : (Nat → Int32)} {c_dark : (Nat → Int32)} {c_light : (Nat → Int32)} {c_like : (Nat → Int32)} {c_isCrowded : (Nat → Int32)} {c_pairs : Int32} {c_first : (Nat → Int32)} {c_second : (Nat → Int32)} {c_votes : (Nat → Int32)} {c_shifts : Int32} {c_shiftX : (Nat → Int32)} {c_shiftY : (Nat → Int32)} {c_regionAt : (Nat → Int32)} {c_regions : Int32} {c_regionShift : (Nat → Int32)} {c_regionPairs : (Nat → Int32)} {c_regionFirst : (Nat → Int32)} {c_findings : Int32} {c_regionOf : (Nat → Int32)} {c_offset : (Nat → Int32)} {c_begun : (Nat → Int32)} {c_held : (Nat → Int32)} {c_isIn : (Nat → Int32)} {c_numbered : (Nat → Int32)} {c_left : Int32} {c_right : Int32} {c_top : Int32} {c_low : Int32} {c_missed : Int32} (x1 : Int32) (x2 : Int32) {r : Int32} {FU : Nat} (h : f_X8_down FU c_square x1 x2 = some r) : CTi l G kc yX8_down cX8_down 3 (some .int) (rmq 0 0) [.ref o, .int x1, .int x2] (mW o ad kc c_worked c_width c_height c_grey c_setting c_leastOf c_mostOf c_lifted c_squares c_square c_dark c_light c_like c_isCrowded c_pairs c_first c_second c_votes c_shifts c_shiftX c_shiftY c_regionAt c_regions c_regionShift c_regionPairs c_regionFirst c_findings c_regionOf c_offset c_begun c_held c_isIn c_numbered c_left c_right c_top c_low c_missed) (mW o ad kc c_worked c_width c_height c_grey c_setting c_leastOf c_mostOf c_lifted c_squares c_square c_dark c_light c_like c_isCrowded c_pairs c_first c_second c_votes c_shifts c_shiftX c_shiftY c_regionAt c_regions c_regionShift c_regionPairs c_regionFirst c_findings c_regionOf c_offset c_begun c_held c_isIn c_numbered c_left c_right c_top c_low c_missed) r := by
  refine CTi.mk (by decide) (Nat.le_of_ble_eq_true rfl) ?_
  intro p e s m args below meth c A ls Q hQ S hr hlocks hN hA hK hl hP hD hS
  have hx := S.1
  have hb := S.2.1
  have hl : lv_has ls 3 [(0, .ref o), (1, .int x1), (2, .int x2)] := hl
  unfold f_X8_down at h
  refine lv_aload_n hx hb dX8_down_0 rfl (lv_at hl 0 rfl) ?_
  refine r_get S gf_X8_32 hK hP 0 rfl rfl dX8_down_1 ?_
  refine lv_iload_n hx hb dX8_down_4 rfl (lv_at hl 2 rfl) ?_
  refine r_iald hx hb hK hP 6 rfl dX8_down_5 h (fun y_1 h => ?_)
  refine lv_bipush (v := 16) hx hb dX8_down_6 (by decide) ?_
  refine lv_idiv hx hb dX8_down_8 (by decide) ?_
  refine lv_aload_n hx hb dX8_down_9 rfl (lv_at hl 0 rfl) ?_
  refine r_get S gf_X8_32 hK hP 0 rfl rfl dX8_down_10 ?_
  refine lv_iload_n hx hb dX8_down_13 rfl (lv_at hl 1 rfl) ?_
  refine r_iald hx hb hK hP 6 rfl dX8_down_14 h (fun y_2 h => ?_)
  refine lv_bipush (v := 16) hx hb dX8_down_15 (by decide) ?_
  refine lv_idiv hx hb dX8_down_17 (by decide) ?_
  refine lv_isub hx hb dX8_down_18 ?_
  cases h
  exact ret_i hx hb hr rfl hQ hlocks hK hP hD hS dX8_down_19
set_option maxHeartbeats 1000000 in
set_option maxRecDepth 100000 in
theorem c_X8_isPair (l : Launch) (G : va_G) (kc : Nat → ClassId) (o : Nat) (ad : Nat → Nat) {c_worked : Int32} {c_width : Int32} {c_height : Int32} {c_grey : (Nat → Int32)} {c_setting : (Nat → Int32)} {c_leastOf : (Nat → Int32)} {c_mostOf : (Nat → Int32)} {c_lifted : (Nat → Int32)} {c_squares : Int32} {c_square : (Nat → Int32)} {c_dark : (Nat → Int32)} {c_light : (Nat → Int32)} {c_like : (Nat → Int32)} {c_isCrowded : (Nat → Int32)} {c_pairs : Int32} {c_first : (Nat → Int32)} {c_second : (Nat → Int32)} {c_votes : (Nat → Int32)} {c_shifts : Int32} {c_shiftX : (Nat → Int32)} {c_shiftY : (Nat → Int32)} {c_regionAt : (Nat → Int32)} {c_regions : Int32} {c_regionShift : (Nat → Int32)} {c_regionPairs : (Nat → Int32)} {c_regionFirst : (Nat → Int32)} {c_findings : Int32} {c_regionOf : (Nat → Int32)} {c_offset : (Nat → Int32)} {c_begun : (Nat → Int32)} {c_held : (Nat → Int32)} {c_isIn : (Nat → Int32)} {c_numbered : (Nat → Int32)} {c_left : Int32} {c_right : Int32} {c_top : Int32} {c_low : Int32} {c_missed : Int32} (x1 : Int32) (x2 : Int32) {r : Int32} {FU : Nat} (h : f_X8_isPair FU c_setting c_square c_dark c_light c_like c_isCrowded x1 x2 = some r) : CTi l G kc yX8_isPair cX8_isPair 3 (some .boolean) (rmq 1 22) [.ref o, .int x1, .int x2] (mW o ad kc c_worked c_width c_height c_grey c_setting c_leastOf c_mostOf c_lifted c_squares c_square c_dark c_light c_like c_isCrowded c_pairs c_first c_second c_votes c_shifts c_shiftX c_shiftY c_regionAt c_regions c_regionShift c_regionPairs c_regionFirst c_findings c_regionOf c_offset c_begun c_held c_isIn c_numbered c_left c_right c_top c_low c_missed) (mW o ad kc c_worked c_width c_height c_grey c_setting c_leastOf c_mostOf c_lifted c_squares c_square c_dark c_light c_like c_isCrowded c_pairs c_first c_second c_votes c_shifts c_shiftX c_shiftY c_regionAt c_regions c_regionShift c_regionPairs c_regionFirst c_findings c_regionOf c_offset c_begun c_held c_isIn c_numbered c_left c_right c_top c_low c_missed) r := by
  refine CTi.mk (by decide) (Nat.le_of_ble_eq_true rfl) ?_
  intro p e s m args below meth c A ls Q hQ S hr hlocks hN hA hK hl hP hD hS
  have hx := S.1
  have hb := S.2.1
  have hl : lv_has ls 3 [(0, .ref o), (1, .int x1), (2, .int x2)] := hl
  unfold f_X8_isPair at h
  refine lv_aload_n hx hb dX8_isPair_0 rfl (lv_at hl 0 rfl) ?_
  refine r_get S gf_X8_41 hK hP 0 rfl rfl dX8_isPair_1 ?_
  refine lv_iload_n hx hb dX8_isPair_4 rfl (lv_at hl 1 rfl) ?_
  refine r_iald hx hb hK hP 9 rfl dX8_isPair_5 h (fun y_1 h => ?_)
  refine lv_aload_n hx hb dX8_isPair_6 rfl (lv_at hl 0 rfl) ?_
  refine r_get S gf_X8_41 hK hP 0 rfl rfl dX8_isPair_7 ?_
  refine lv_iload_n hx hb dX8_isPair_10 rfl (lv_at hl 2 rfl) ?_
  refine r_iald hx hb hK hP 9 rfl dX8_isPair_11 h (fun y_2 h => ?_)
  refine lv_icmp_ne (tgt := 49) hx hb dX8_isPair_12 (by decide) (fun q_18 => ?_) (fun q_18 => ?_)
  · have h := it_f q_18 h
    refine lv_iconst (v := 0) hx hb dX8_isPair_49 (by decide) ?_
    cases h
    exact ret_i hx hb hr rfl hQ hlocks hK hP hD hS dX8_isPair_50
  · have h := it_t q_18 h
    refine lv_aload_n hx hb dX8_isPair_15 rfl (lv_at hl 0 rfl) ?_
    refine lv_iload_n hx hb dX8_isPair_16 rfl (lv_at hl 1 rfl) ?_
    obtain ⟨r_3, hq, h⟩ := bd1_e h
    refine cs_Vi (rest := []) (ci := 7) S hN cb_X8_isFlat ml_X8_132 ⟨Nat.le_of_ble_eq_true rfl, Nat.le_of_ble_eq_true rfl⟩ (c_X8_isFlat l G kc o ad x1 hq) hK hP hD hS hA 0 rfl rfl rfl rfl rfl (Nat.le_of_ble_eq_true rfl) hl.1 dX8_isPair_17 (fun H locs hP hD hS => ?_)
    refine lv_if_ne (tgt := 49) hx hb dX8_isPair_20 (by decide) (fun q_17 => ?_) (fun q_17 => ?_)
    · have h := it_f q_17 h
      refine lv_iconst (v := 0) hx hb dX8_isPair_49 (by decide) ?_
      cases h
      exact ret_i hx hb hr rfl hQ hlocks hK hP hD hS dX8_isPair_50
    · have h := it_t q_17 h
      refine lv_aload_n hx hb dX8_isPair_23 rfl (lv_at hl 0 rfl) ?_
      refine lv_iload_n hx hb dX8_isPair_24 rfl (lv_at hl 2 rfl) ?_
      obtain ⟨r_4, hq, h⟩ := bd1_e h
      refine cs_Vi (rest := []) (ci := 7) S hN cb_X8_isFlat ml_X8_132 ⟨Nat.le_of_ble_eq_true rfl, Nat.le_of_ble_eq_true rfl⟩ (c_X8_isFlat l G kc o ad x2 hq) hK hP hD hS hA 0 rfl rfl rfl rfl rfl (Nat.le_of_ble_eq_true rfl) hl.1 dX8_isPair_25 (fun H locs hP hD hS => ?_)
      refine lv_if_ne (tgt := 49) hx hb dX8_isPair_28 (by decide) (fun q_16 => ?_) (fun q_16 => ?_)
      · have h := it_f q_16 h
        refine lv_iconst (v := 0) hx hb dX8_isPair_49 (by decide) ?_
        cases h
        exact ret_i hx hb hr rfl hQ hlocks hK hP hD hS dX8_isPair_50
      · have h := it_t q_16 h
        refine lv_aload_n hx hb dX8_isPair_31 rfl (lv_at hl 0 rfl) ?_
        refine r_get S gf_X8_44 hK hP 0 rfl rfl dX8_isPair_32 ?_
        refine lv_iload_n hx hb dX8_isPair_35 rfl (lv_at hl 1 rfl) ?_
        refine r_zald hx hb hK hP 10 rfl dX8_isPair_36 h (fun y_5 h => ?_)
        refine lv_if_ne (tgt := 49) hx hb dX8_isPair_37 (by decide) (fun q_15 => ?_) (fun q_15 => ?_)
        · have h := it_f q_15 h
          refine lv_iconst (v := 0) hx hb dX8_isPair_49 (by decide) ?_
          cases h
          exact ret_i hx hb hr rfl hQ hlocks hK hP hD hS dX8_isPair_50
        · have h := it_t q_15 h
          refine lv_aload_n hx hb dX8_isPair_40 rfl (lv_at hl 0 rfl) ?_
          refine r_get S gf_X8_44 hK hP 0 rfl rfl dX8_isPair_41 ?_
          refine lv_iload_n hx hb dX8_isPair_44 rfl (lv_at hl 2 rfl) ?_
          refine r_zald hx hb hK hP 10 rfl dX8_isPair_45 h (fun y_6 h => ?_)
          refine lv_if_eq (tgt := 51) hx hb dX8_isPair_46 (by decide) (fun q_14 => ?_) (fun q_14 => ?_)
          · have h := it_t q_14 h
            refine lv_aload_n hx hb dX8_isPair_51 rfl (lv_at hl 0 rfl) ?_
            refine lv_iload_n hx hb dX8_isPair_52 rfl (lv_at hl 1 rfl) ?_
            refine lv_iload_n hx hb dX8_isPair_53 rfl (lv_at hl 2 rfl) ?_
            obtain ⟨r_7, hq, h⟩ := bd1_e h
            refine cs_Vi (rest := []) (ci := 7) S hN cb_X8_across ml_X8_152 ⟨Nat.le_of_ble_eq_true rfl, Nat.le_of_ble_eq_true rfl⟩ (c_X8_across l G kc o ad x1 x2 hq) hK hP hD hS hA 0 rfl rfl rfl rfl rfl (Nat.le_of_ble_eq_true rfl) hl.1 dX8_isPair_54 (fun H locs hP hD hS => ?_)
            obtain ⟨r_8, hq, h⟩ := bd1_e h
            refine cp_Si (rest := []) [] S hN cb_X8_size ml_X8_155 ⟨Nat.le_of_ble_eq_true rfl, Nat.le_of_ble_eq_true rfl⟩ (c_X8_size l G kc r_7 hq) hK hP hD hS hA rfl rfl rfl rfl rfl (Nat.le_of_ble_eq_true rfl) hl.1 dX8_isPair_57 (fun H locs hP hD hS => ?_)
            have hP : VP G (mW o ad kc c_worked c_width c_height c_grey c_setting c_leastOf c_mostOf c_lifted c_squares c_square c_dark c_light c_like c_isCrowded c_pairs c_first c_second c_votes c_shifts c_shiftX c_shiftY c_regionAt c_regions c_regionShift c_regionPairs c_regionFirst c_findings c_regionOf c_offset c_begun c_held c_isIn c_numbered c_left c_right c_top c_low c_missed) H := hP
            have hD : va_D A (mW o ad kc c_worked c_width c_height c_grey c_setting c_leastOf c_mostOf c_lifted c_squares c_square c_dark c_light c_like c_isCrowded c_pairs c_first c_second c_votes c_shifts c_shiftX c_shiftY c_regionAt c_regions c_regionShift c_regionPairs c_regionFirst c_findings c_regionOf c_offset c_begun c_held c_isIn c_numbered c_left c_right c_top c_low c_missed) := hD
            refine lv_aload_n hx hb dX8_isPair_60 rfl (lv_at hl 0 rfl) ?_
            refine r_get S gf_X8_20 hK hP 0 rfl rfl dX8_isPair_61 ?_
            refine lv_iconst (v := 4) hx hb dX8_isPair_64 (by decide) ?_
            refine r_iald hx hb hK hP 2 rfl dX8_isPair_65 h (fun y_9 h => ?_)
            refine lv_icmp_ge (tgt := 84) hx hb dX8_isPair_66 (by decide) (fun q_13 => ?_) (fun q_13 => ?_)
            · have h := it_t q_13 h
              refine lv_iconst (v := 1) hx hb dX8_isPair_84 (by decide) ?_
              refine lv_goto (tgt := 89) hx hb dX8_isPair_85 (by decide) ?_
              cases h
              exact ret_i hx hb hr rfl hQ hlocks hK hP hD hS dX8_isPair_89
            · have h := it_f q_13 h
              refine lv_aload_n hx hb dX8_isPair_69 rfl (lv_at hl 0 rfl) ?_
              refine lv_iload_n hx hb dX8_isPair_70 rfl (lv_at hl 1 rfl) ?_
              refine lv_iload_n hx hb dX8_isPair_71 rfl (lv_at hl 2 rfl) ?_
              obtain ⟨r_10, hq, h⟩ := bd1_e h
              refine cs_Vi (rest := []) (ci := 7) S hN cb_X8_down ml_X8_158 ⟨Nat.le_of_ble_eq_true rfl, Nat.le_of_ble_eq_true rfl⟩ (c_X8_down l G kc o ad x1 x2 hq) hK hP hD hS hA 0 rfl rfl rfl rfl rfl (Nat.le_of_ble_eq_true rfl) hl.1 dX8_isPair_72 (fun H locs hP hD hS => ?_)
              refine lv_aload_n hx hb dX8_isPair_75 rfl (lv_at hl 0 rfl) ?_
              refine r_get S gf_X8_20 hK hP 0 rfl rfl dX8_isPair_76 ?_
              refine lv_iconst (v := 4) hx hb dX8_isPair_79 (by decide) ?_
              refine r_iald hx hb hK hP 2 rfl dX8_isPair_80 h (fun y_11 h => ?_)
              refine lv_icmp_lt (tgt := 88) hx hb dX8_isPair_81 (by decide) (fun q_12 => ?_) (fun q_12 => ?_)
              · have h := it_t q_12 h
                refine lv_iconst (v := 0) hx hb dX8_isPair_88 (by decide) ?_
                cases h
                exact ret_i hx hb hr rfl hQ hlocks hK hP hD hS dX8_isPair_89
              · have h := it_f q_12 h
                refine lv_iconst (v := 1) hx hb dX8_isPair_84 (by decide) ?_
                refine lv_goto (tgt := 89) hx hb dX8_isPair_85 (by decide) ?_
                cases h
                exact ret_i hx hb hr rfl hQ hlocks hK hP hD hS dX8_isPair_89
          · have h := it_f q_14 h
            refine lv_iconst (v := 0) hx hb dX8_isPair_49 (by decide) ?_
            cases h
            exact ret_i hx hb hr rfl hQ hlocks hK hP hD hS dX8_isPair_50
set_option maxHeartbeats 1000000 in
set_option maxRecDepth 100000 in
theorem c_X8_voteAt (l : Launch) (G : va_G) (kc : Nat → ClassId)   (x0 : Int32) (x1 : Int32) {r : Int32} {FU : Nat} (h : f_X8_voteAt FU x0 x1 = some r) : CTi l G kc yX8_voteAt cX8_voteAt 2 (some .int) (rmq 0 0) [.int x0, .int x1] ([]) ([]) r := by
  refine CTi.mk (by decide) (Nat.le_of_ble_eq_true rfl) ?_
  intro p e s m args below meth c A ls Q hQ S hr hlocks hN hA hK hl hP hD hS
  have hx := S.1
  have hb := S.2.1
  have hl : lv_has ls 2 [(0, .int x0), (1, .int x1)] := hl
  unfold f_X8_voteAt at h
  refine lv_bipush (v := 16) hx hb dX8_voteAt_0 (by decide) ?_
  refine lv_iload_n hx hb dX8_voteAt_2 rfl (lv_at hl 0 rfl) ?_
  refine lv_bipush (v := 15) hx hb dX8_voteAt_3 (by decide) ?_
  refine lv_iadd hx hb dX8_voteAt_5 ?_
  refine lv_imul hx hb dX8_voteAt_6 ?_
  refine lv_iload_n hx hb dX8_voteAt_7 rfl (lv_at hl 1 rfl) ?_
  refine lv_iadd hx hb dX8_voteAt_8 ?_
  cases h
  exact ret_i hx hb hr rfl hQ hlocks hK hP hD hS dX8_voteAt_9
