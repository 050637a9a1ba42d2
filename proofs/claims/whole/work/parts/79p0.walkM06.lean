set_option maxHeartbeats 1000000 in
set_option maxRecDepth 100000 in
theorem c_X8_seen (l : Launch) (G : va_G) (kc : Nat → ClassId) (o : Nat) (ad : Nat → Nat) {c_worked : Int32} {c_width : Int32} {c_height : Int32} {c_grey : (Nat → Int32)} {c_setting : (Nat → Int32)} {c_leastOf : (Nat → Int32)} {c_mostOf : (Nat → Int32)} {c_lifted : (Nat → Int32)} {c_squares : Int32} {c_square : (Nat → Int32)} {c_dark : (Nat → Int32)} {c_light : (Nat → Int32)} {c_like : (Nat → Int32)} {c_isCrowded : (Nat → Int32)} {c_pairs : Int32} {c_first : (Nat → Int32)} {c_second : (Nat → Int32)} {c_votes : (Nat → Int32)} {c_shifts : Int32} {c_shiftX : (Nat → Int32)} {c_shiftY : (Nat → Int32)} {c_regionAt : (Nat → Int32)} {c_regions : Int32} {c_regionShift : (Nat → Int32)} {c_regionPairs : (Nat → Int32)} {c_regionFirst : (Nat → Int32)} {c_findings : Int32} {c_regionOf : (Nat → Int32)} {c_offset : (Nat → Int32)} {c_begun : (Nat → Int32)} {c_held : (Nat → Int32)} {c_isIn : (Nat → Int32)} {c_numbered : (Nat → Int32)} {c_left : Int32} {c_right : Int32} {c_top : Int32} {c_low : Int32} {c_missed : Int32} (x1 : Int32) (x2 : Int32) {r : Int32} {c_worked' : Int32} {c_squares' : Int32} {c_square' : (Nat → Int32)} {c_dark' : (Nat → Int32)} {c_light' : (Nat → Int32)} {c_like' : (Nat → Int32)} {c_isCrowded' : (Nat → Int32)} {c_pairs' : Int32} {c_first' : (Nat → Int32)} {c_second' : (Nat → Int32)} {c_votes' : (Nat → Int32)} {c_shifts' : Int32} {c_shiftX' : (Nat → Int32)} {c_shiftY' : (Nat → Int32)} {c_regionAt' : (Nat → Int32)} {c_regions' : Int32} {c_regionShift' : (Nat → Int32)} {c_regionPairs' : (Nat → Int32)} {c_regionFirst' : (Nat → Int32)} {c_findings' : Int32} {c_regionOf' : (Nat → Int32)} {c_offset' : (Nat → Int32)} {c_begun' : (Nat → Int32)} {c_held' : (Nat → Int32)} {c_isIn' : (Nat → Int32)} {c_numbered' : (Nat → Int32)} {FU : Nat} (h : f_X8_seen FU c_worked c_width c_height c_grey c_setting c_squares c_square c_dark c_light c_like c_isCrowded c_pairs c_first c_second c_votes c_shifts c_shiftX c_shiftY c_regionAt c_regions c_regionShift c_regionPairs c_regionFirst c_findings c_regionOf c_offset c_begun c_held c_isIn c_numbered x1 x2 = some (r, c_worked', c_squares', c_square', c_dark', c_light', c_like', c_isCrowded', c_pairs', c_first', c_second', c_votes', c_shifts', c_shiftX', c_shiftY', c_regionAt', c_regions', c_regionShift', c_regionPairs', c_regionFirst', c_findings', c_regionOf', c_offset', c_begun', c_held', c_isIn', c_numbered')) : CTi l G kc yX8_seen cX8_seen 5 (some .int) (rmq 8 186) [.ref o, .int x1, .int x2] (mW o ad kc c_worked c_width c_height c_grey c_setting c_leastOf c_mostOf c_lifted c_squares c_square c_dark c_light c_like c_isCrowded c_pairs c_first c_second c_votes c_shifts c_shiftX c_shiftY c_regionAt c_regions c_regionShift c_regionPairs c_regionFirst c_findings c_regionOf c_offset c_begun c_held c_isIn c_numbered c_left c_right c_top c_low c_missed) (mW o ad kc (c_worked') c_width c_height c_grey c_setting c_leastOf c_mostOf c_lifted (c_squares') (c_square') (c_dark') (c_light') (c_like') (c_isCrowded') (c_pairs') (c_first') (c_second') (c_votes') (c_shifts') (c_shiftX') (c_shiftY') (c_regionAt') (c_regions') (c_regionShift') (c_regionPairs') (c_regionFirst') (c_findings') (c_regionOf') (c_offset') (c_begun') (c_held') (c_isIn') (c_numbered') c_left c_right c_top c_low c_missed) r := by
  refine CTi.mk (by decide) (Nat.le_of_ble_eq_true rfl) ?_
  intro p e s m args below meth c A ls Q hQ S hr hlocks hN hA hK hl hP hD hS
  have hx := S.1
  have hb := S.2.1
  have hl : lv_has ls 5 [(0, .ref o), (1, .int x1), (2, .int x2)] := hl
  unfold f_X8_seen at h
  refine lv_iload_n hx hb dX8_seen_0 rfl (lv_at hl 1 rfl) ?_
  refine lv_iconst (v := 0) hx hb dX8_seen_1 (by decide) ?_
  refine lv_aload_n hx hb dX8_seen_2 rfl (lv_at hl 0 rfl) ?_
  refine r_get S gf_X8_13 hK hP 0 rfl rfl dX8_seen_3 ?_
  refine lv_iconst (v := 1) hx hb dX8_seen_6 (by decide) ?_
  refine lv_isub hx hb dX8_seen_7 ?_
  obtain ⟨r_1, hq, h⟩ := bd1_e h
  refine cp_Si (rest := []) [] S hN cb_X8_within ml_X8_96 ⟨Nat.le_of_ble_eq_true rfl, Nat.le_of_ble_eq_true rfl⟩ (c_X8_within l G kc x1 0 (c_height - 1) hq) hK hP hD hS hA rfl rfl rfl rfl rfl (Nat.le_of_ble_eq_true rfl) hl.1 dX8_seen_8 (fun H locs hP hD hS => ?_)
  have hP : VP G (mW o ad kc c_worked c_width c_height c_grey c_setting c_leastOf c_mostOf c_lifted c_squares c_square c_dark c_light c_like c_isCrowded c_pairs c_first c_second c_votes c_shifts c_shiftX c_shiftY c_regionAt c_regions c_regionShift c_regionPairs c_regionFirst c_findings c_regionOf c_offset c_begun c_held c_isIn c_numbered c_left c_right c_top c_low c_missed) H := hP
  have hD : va_D A (mW o ad kc c_worked c_width c_height c_grey c_setting c_leastOf c_mostOf c_lifted c_squares c_square c_dark c_light c_like c_isCrowded c_pairs c_first c_second c_votes c_shifts c_shiftX c_shiftY c_regionAt c_regions c_regionShift c_regionPairs c_regionFirst c_findings c_regionOf c_offset c_begun c_held c_isIn c_numbered c_left c_right c_top c_low c_missed) := hD
  refine lv_if_ne (tgt := 16) hx hb dX8_seen_11 (by decide) (fun q_41 => ?_) (fun q_41 => ?_)
  · have h := it_f q_41 h
    refine lv_iload_n hx hb dX8_seen_16 rfl (lv_at hl 2 rfl) ?_
    refine lv_iconst (v := 0) hx hb dX8_seen_17 (by decide) ?_
    refine lv_iconst (v := 2) hx hb dX8_seen_18 (by decide) ?_
    obtain ⟨r_2, hq, h⟩ := bd1_e h
    refine cp_Si (rest := []) [] S hN cb_X8_within ml_X8_96 ⟨Nat.le_of_ble_eq_true rfl, Nat.le_of_ble_eq_true rfl⟩ (c_X8_within l G kc x2 0 2 hq) hK hP hD hS hA rfl rfl rfl rfl rfl (Nat.le_of_ble_eq_true rfl) hl.1 dX8_seen_19 (fun H locs hP hD hS => ?_)
    have hP : VP G (mW o ad kc c_worked c_width c_height c_grey c_setting c_leastOf c_mostOf c_lifted c_squares c_square c_dark c_light c_like c_isCrowded c_pairs c_first c_second c_votes c_shifts c_shiftX c_shiftY c_regionAt c_regions c_regionShift c_regionPairs c_regionFirst c_findings c_regionOf c_offset c_begun c_held c_isIn c_numbered c_left c_right c_top c_low c_missed) H := hP
    have hD : va_D A (mW o ad kc c_worked c_width c_height c_grey c_setting c_leastOf c_mostOf c_lifted c_squares c_square c_dark c_light c_like c_isCrowded c_pairs c_first c_second c_votes c_shifts c_shiftX c_shiftY c_regionAt c_regions c_regionShift c_regionPairs c_regionFirst c_findings c_regionOf c_offset c_begun c_held c_isIn c_numbered c_left c_right c_top c_low c_missed) := hD
    refine lv_if_ne (tgt := 28) hx hb dX8_seen_22 (by decide) (fun q_40 => ?_) (fun q_40 => ?_)
    · have h := it_f q_40 h
      refine lv_aload_n hx hb dX8_seen_28 rfl (lv_at hl 0 rfl) ?_
      obtain ⟨c_worked_3, c_squares_4, c_square_5, c_dark_6, c_light_7, c_like_8, c_isCrowded_9, c_pairs_10, c_first_11, c_second_12, c_votes_13, c_shifts_14, c_shiftX_15, c_shiftY_16, c_regionAt_17, c_regions_18, c_regionShift_19, c_regionPairs_20, c_regionFirst_21, c_findings_22, c_regionOf_23, c_offset_24, c_begun_25, c_held_26, c_isIn_27, c_numbered_28, hq, h⟩ := bd26_e h
      refine cs_Vv (rest := []) (ci := 7) S hN cb_X8_findFindings ml_X8_254 ⟨Nat.le_of_ble_eq_true rfl, Nat.le_of_ble_eq_true rfl⟩ (c_X8_findFindings l G kc o ad  hq) hK hP hD hS hA 0 rfl rfl rfl rfl rfl (Nat.le_of_ble_eq_true rfl) hl.1 dX8_seen_29 (fun H locs hP hD hS => ?_)
      refine lv_iconst (v := 0) hx hb dX8_seen_32 (by decide) ?_
      refine lv_istore_n (lv' := [(3, .int 0), (0, .ref o), (1, .int x1), (2, .int x2)]) hx hb dX8_seen_33 rfl hl (by decide) rfl (fun ls hl => ?_)
      refine lv_iconst (v := 0) hx hb dX8_seen_34 (by decide) ?_
      refine lv_istore (lv' := [(4, .int 0), (3, .int 0), (0, .ref o), (1, .int x1), (2, .int x2)]) hx hb dX8_seen_35 hl (by decide) rfl (fun ls hl => ?_)
      refine jn_w (t := fun k => f_X8_seen_L37 FU x1 x2 c_width c_height c_shiftX_15 c_shiftY_16 c_regionShift_19 c_findings_22 c_regionOf_23 c_isIn_27 k FU 0 0) (fun (k : Int32 → Int32 → Option (Int32 × Int32 × Int32 × (Nat → Int32) × (Nat → Int32) × (Nat → Int32) × (Nat → Int32) × (Nat → Int32) × Int32 × (Nat → Int32) × (Nat → Int32) × (Nat → Int32) × Int32 × (Nat → Int32) × (Nat → Int32) × (Nat → Int32) × Int32 × (Nat → Int32) × (Nat → Int32) × (Nat → Int32) × Int32 × (Nat → Int32) × (Nat → Int32) × (Nat → Int32) × (Nat → Int32) × (Nat → Int32) × (Nat → Int32))) => ∀ (x3_29 : Int32) (x4_30 : Int32) (H : Heap) (locs : List Loc) (ls : Array Slot), VP G (mW o ad kc c_worked_3 c_width c_height c_grey c_setting c_leastOf c_mostOf c_lifted c_squares_4 c_square_5 c_dark_6 c_light_7 c_like_8 c_isCrowded_9 c_pairs_10 c_first_11 c_second_12 c_votes_13 c_shifts_14 c_shiftX_15 c_shiftY_16 c_regionAt_17 c_regions_18 c_regionShift_19 c_regionPairs_20 c_regionFirst_21 c_findings_22 c_regionOf_23 c_offset_24 c_begun_25 c_held_26 c_isIn_27 c_numbered_28 c_left c_right c_top c_low c_missed) H → va_D A (mW o ad kc c_worked_3 c_width c_height c_grey c_setting c_leastOf c_mostOf c_lifted c_squares_4 c_square_5 c_dark_6 c_light_7 c_like_8 c_isCrowded_9 c_pairs_10 c_first_11 c_second_12 c_votes_13 c_shifts_14 c_shiftX_15 c_shiftY_16 c_regionAt_17 c_regions_18 c_regionShift_19 c_regionPairs_20 c_regionFirst_21 c_findings_22 c_regionOf_23 c_offset_24 c_begun_25 c_held_26 c_isIn_27 c_numbered_28 c_left c_right c_top c_low c_missed) → va_S A s.heap H locs → lv_has ls 5 [(3, .int x3_29)] → k x3_29 x4_30 = some (r, c_worked', c_squares', c_square', c_dark', c_light', c_like', c_isCrowded', c_pairs', c_first', c_second', c_votes', c_shifts', c_shiftX', c_shiftY', c_regionAt', c_regions', c_regionShift', c_regionPairs', c_regionFirst', c_findings', c_regionOf', c_offset', c_begun', c_held', c_isIn', c_numbered') → WW p l e (rmq 8 186) s m args below meth c Q H locs 74 ls []) h ?_ ?_
      · intro x3_29 x4_30 H locs ls hP hD hS hl h
        refine lv_iload_n hx hb dX8_seen_74 rfl (lv_at hl 0 rfl) ?_
        cases h
        exact ret_i hx hb hr rfl hQ hlocks hK hP hD hS dX8_seen_75
      · intro k_31 K_32 h
        have L_33 : ∀ (n : Nat) (x3_29 : Int32) (x4_30 : Int32) (H : Heap) (locs : List Loc) (ls : Array Slot), VP G (mW o ad kc c_worked_3 c_width c_height c_grey c_setting c_leastOf c_mostOf c_lifted c_squares_4 c_square_5 c_dark_6 c_light_7 c_like_8 c_isCrowded_9 c_pairs_10 c_first_11 c_second_12 c_votes_13 c_shifts_14 c_shiftX_15 c_shiftY_16 c_regionAt_17 c_regions_18 c_regionShift_19 c_regionPairs_20 c_regionFirst_21 c_findings_22 c_regionOf_23 c_offset_24 c_begun_25 c_held_26 c_isIn_27 c_numbered_28 c_left c_right c_top c_low c_missed) H → va_D A (mW o ad kc c_worked_3 c_width c_height c_grey c_setting c_leastOf c_mostOf c_lifted c_squares_4 c_square_5 c_dark_6 c_light_7 c_like_8 c_isCrowded_9 c_pairs_10 c_first_11 c_second_12 c_votes_13 c_shifts_14 c_shiftX_15 c_shiftY_16 c_regionAt_17 c_regions_18 c_regionShift_19 c_regionPairs_20 c_regionFirst_21 c_findings_22 c_regionOf_23 c_offset_24 c_begun_25 c_held_26 c_isIn_27 c_numbered_28 c_left c_right c_top c_low c_missed) → va_S A s.heap H locs → lv_has ls 5 [(0, .ref o), (1, .int x1), (2, .int x2), (3, .int x3_29), (4, .int x4_30)] → f_X8_seen_L37 FU x1 x2 c_width c_height c_shiftX_15 c_shiftY_16 c_regionShift_19 c_findings_22 c_regionOf_23 c_isIn_27 k_31 n x3_29 x4_30 = some (r, c_worked', c_squares', c_square', c_dark', c_light', c_like', c_isCrowded', c_pairs', c_first', c_second', c_votes', c_shifts', c_shiftX', c_shiftY', c_regionAt', c_regions', c_regionShift', c_regionPairs', c_regionFirst', c_findings', c_regionOf', c_offset', c_begun', c_held', c_isIn', c_numbered') → WW p l e (rmq 8 186) s m args below meth c Q H locs 37 ls [] := by
          intro n
          induction n with
          | zero => intro x3_29 x4_30 H locs ls hP hD hS hl h; rw [f_X8_seen_L37] at h; cases h
          | succ n ih =>
            intro x3_29 x4_30 H locs ls hP hD hS hl h
            rw [f_X8_seen_L37] at h
            refine lv_iload hx hb dX8_seen_37 (lv_at hl 4 rfl) ?_
            refine lv_aload_n hx hb dX8_seen_39 rfl (lv_at hl 0 rfl) ?_
            refine r_get S gf_X8_7 hK hP 0 rfl rfl dX8_seen_40 ?_
            refine lv_icmp_ge (tgt := 74) hx hb dX8_seen_43 (by decide) (fun q_39 => ?_) (fun q_39 => ?_)
            · have h := it_t q_39 h
              exact K_32 x3_29 x4_30 _ _ _ hP hD hS (lv_sub hl [3] rfl) h
            · have h := it_f q_39 h
              refine lv_iload_n hx hb dX8_seen_46 rfl (lv_at hl 3 rfl) ?_
              refine lv_aload_n hx hb dX8_seen_47 rfl (lv_at hl 0 rfl) ?_
              refine lv_iload hx hb dX8_seen_48 (lv_at hl 4 rfl) ?_
              refine lv_iload_n hx hb dX8_seen_50 rfl (lv_at hl 1 rfl) ?_
              refine lv_iload_n hx hb dX8_seen_51 rfl (lv_at hl 2 rfl) ?_
              obtain ⟨r_34, hq, h⟩ := bd1_e h
              refine cs_Vi (rest := [.int x3_29]) (ci := 7) S hN cb_X8_isSeen ml_X8_263 ⟨Nat.le_of_ble_eq_true rfl, Nat.le_of_ble_eq_true rfl⟩ (c_X8_isSeen l G kc o ad x4_30 x1 x2 hq) hK hP hD hS hA 0 rfl rfl rfl rfl rfl (Nat.le_of_ble_eq_true rfl) hl.1 dX8_seen_52 (fun H locs hP hD hS => ?_)
              refine jn_w (fun (k : Int32 → Option (Int32 × Int32 × Int32 × (Nat → Int32) × (Nat → Int32) × (Nat → Int32) × (Nat → Int32) × (Nat → Int32) × Int32 × (Nat → Int32) × (Nat → Int32) × (Nat → Int32) × Int32 × (Nat → Int32) × (Nat → Int32) × (Nat → Int32) × Int32 × (Nat → Int32) × (Nat → Int32) × (Nat → Int32) × Int32 × (Nat → Int32) × (Nat → Int32) × (Nat → Int32) × (Nat → Int32) × (Nat → Int32) × (Nat → Int32))) => ∀ (t_35 : Int32) (H : Heap) (locs : List Loc) (ls : Array Slot), VP G (mW o ad kc c_worked_3 c_width c_height c_grey c_setting c_leastOf c_mostOf c_lifted c_squares_4 c_square_5 c_dark_6 c_light_7 c_like_8 c_isCrowded_9 c_pairs_10 c_first_11 c_second_12 c_votes_13 c_shifts_14 c_shiftX_15 c_shiftY_16 c_regionAt_17 c_regions_18 c_regionShift_19 c_regionPairs_20 c_regionFirst_21 c_findings_22 c_regionOf_23 c_offset_24 c_begun_25 c_held_26 c_isIn_27 c_numbered_28 c_left c_right c_top c_low c_missed) H → va_D A (mW o ad kc c_worked_3 c_width c_height c_grey c_setting c_leastOf c_mostOf c_lifted c_squares_4 c_square_5 c_dark_6 c_light_7 c_like_8 c_isCrowded_9 c_pairs_10 c_first_11 c_second_12 c_votes_13 c_shifts_14 c_shiftX_15 c_shiftY_16 c_regionAt_17 c_regions_18 c_regionShift_19 c_regionPairs_20 c_regionFirst_21 c_findings_22 c_regionOf_23 c_offset_24 c_begun_25 c_held_26 c_isIn_27 c_numbered_28 c_left c_right c_top c_low c_missed) → va_S A s.heap H locs → lv_has ls 5 [(0, .ref o), (1, .int x1), (2, .int x2), (4, .int x4_30)] → k t_35 = some (r, c_worked', c_squares', c_square', c_dark', c_light', c_like', c_isCrowded', c_pairs', c_first', c_second', c_votes', c_shifts', c_shiftX', c_shiftY', c_regionAt', c_regions', c_regionShift', c_regionPairs', c_regionFirst', c_findings', c_regionOf', c_offset', c_begun', c_held', c_isIn', c_numbered') → WW p l e (rmq 8 186) s m args below meth c Q H locs 66 ls [.int t_35, .int x3_29]) h ?_ ?_
              · intro t_35 H locs ls hP hD hS hl h
                refine lv_ior hx hb dX8_seen_66 ?_
                refine lv_istore_n (lv' := [(3, .int (x3_29 ||| t_35)), (0, .ref o), (1, .int x1), (2, .int x2), (4, .int x4_30)]) hx hb dX8_seen_67 rfl hl (by decide) rfl (fun ls hl => ?_)
                refine lv_iinc (v := (x4_30 + 1)) (lv' := [(4, .int (x4_30 + 1)), (3, .int (x3_29 ||| t_35)), (0, .ref o), (1, .int x1), (2, .int x2)]) hx hb dX8_seen_68 hl (k := 4) rfl rfl (by decide) rfl (fun ls hl => ?_)
                refine lv_goto (tgt := 37) hx hb dX8_seen_71 (by decide) ?_
                exact ih (x3_29 ||| t_35) (x4_30 + 1) _ _ _ hP hD hS (lv_sub hl [2, 3, 4, 1, 0] rfl) h
              · intro j_36 J_37 h
                refine lv_if_eq (tgt := 65) hx hb dX8_seen_55 (by decide) (fun q_38 => ?_) (fun q_38 => ?_)
                · have h := it_t q_38 h
                  refine lv_iconst (v := 0) hx hb dX8_seen_65 (by decide) ?_
                  exact J_37 0 _ _ _ hP hD hS (lv_sub hl [0, 1, 2, 4] rfl) h
                · have h := it_f q_38 h
                  refine lv_iconst (v := 1) hx hb dX8_seen_58 (by decide) ?_
                  refine lv_iload hx hb dX8_seen_59 (lv_at hl 4 rfl) ?_
                  refine lv_ishl hx hb dX8_seen_61 ?_
                  refine lv_goto (tgt := 66) hx hb dX8_seen_62 (by decide) ?_
                  exact J_37 (1 <<< (x4_30 &&& 31)) _ _ _ hP hD hS (lv_sub hl [0, 1, 2, 4] rfl) h
        exact L_33 FU 0 0 _ _ _ hP hD hS (lv_sub hl [2, 3, 4, 1, 0] rfl) h
    · have h := it_t q_40 h
      refine lv_bipush (v := (-2)) hx hb dX8_seen_25 (by decide) ?_
      cases h
      exact ret_i hx hb hr rfl hQ hlocks hK hP hD hS dX8_seen_27
  · have h := it_t q_41 h
    refine lv_iconst (v := (-1)) hx hb dX8_seen_14 (by decide) ?_
    cases h
    exact ret_i hx hb hr rfl hQ hlocks hK hP hD hS dX8_seen_15
set_option maxHeartbeats 1000000 in
set_option maxRecDepth 100000 in
theorem c_X8_squaresThat (l : Launch) (G : va_G) (kc : Nat → ClassId) (o : Nat) (ad : Nat → Nat) {c_worked : Int32} {c_width : Int32} {c_height : Int32} {c_grey : (Nat → Int32)} {c_setting : (Nat → Int32)} {c_leastOf : (Nat → Int32)} {c_mostOf : (Nat → Int32)} {c_lifted : (Nat → Int32)} {c_squares : Int32} {c_square : (Nat → Int32)} {c_dark : (Nat → Int32)} {c_light : (Nat → Int32)} {c_like : (Nat → Int32)} {c_isCrowded : (Nat → Int32)} {c_pairs : Int32} {c_first : (Nat → Int32)} {c_second : (Nat → Int32)} {c_votes : (Nat → Int32)} {c_shifts : Int32} {c_shiftX : (Nat → Int32)} {c_shiftY : (Nat → Int32)} {c_regionAt : (Nat → Int32)} {c_regions : Int32} {c_regionShift : (Nat → Int32)} {c_regionPairs : (Nat → Int32)} {c_regionFirst : (Nat → Int32)} {c_findings : Int32} {c_regionOf : (Nat → Int32)} {c_offset : (Nat → Int32)} {c_begun : (Nat → Int32)} {c_held : (Nat → Int32)} {c_isIn : (Nat → Int32)} {c_numbered : (Nat → Int32)} {c_left : Int32} {c_right : Int32} {c_top : Int32} {c_low : Int32} {c_missed : Int32} (x1 : Int32) {r : Int32} {FU : Nat} (h : f_X8_squaresThat FU c_setting c_squares c_dark c_light c_like c_isCrowded x1 = some r) : CTi l G kc yX8_squaresThat cX8_squaresThat 5 (some .int) (rmq 1 21) [.ref o, .int x1] (mW o ad kc c_worked c_width c_height c_grey c_setting c_leastOf c_mostOf c_lifted c_squares c_square c_dark c_light c_like c_isCrowded c_pairs c_first c_second c_votes c_shifts c_shiftX c_shiftY c_regionAt c_regions c_regionShift c_regionPairs c_regionFirst c_findings c_regionOf c_offset c_begun c_held c_isIn c_numbered c_left c_right c_top c_low c_missed) (mW o ad kc c_worked c_width c_height c_grey c_setting c_leastOf c_mostOf c_lifted c_squares c_square c_dark c_light c_like c_isCrowded c_pairs c_first c_second c_votes c_shifts c_shiftX c_shiftY c_regionAt c_regions c_regionShift c_regionPairs c_regionFirst c_findings c_regionOf c_offset c_begun c_held c_isIn c_numbered c_left c_right c_top c_low c_missed) r := by
  refine CTi.mk (by decide) (Nat.le_of_ble_eq_true rfl) ?_
  intro p e s m args below meth c A ls Q hQ S hr hlocks hN hA hK hl hP hD hS
  have hx := S.1
  have hb := S.2.1
  have hl : lv_has ls 5 [(0, .ref o), (1, .int x1)] := hl
  unfold f_X8_squaresThat at h
  refine lv_iconst (v := 0) hx hb dX8_squaresThat_0 (by decide) ?_
  refine lv_istore_n (lv' := [(2, .int 0), (0, .ref o), (1, .int x1)]) hx hb dX8_squaresThat_1 rfl hl (by decide) rfl (fun ls hl => ?_)
  refine lv_iconst (v := 0) hx hb dX8_squaresThat_2 (by decide) ?_
  refine lv_istore_n (lv' := [(3, .int 0), (2, .int 0), (0, .ref o), (1, .int x1)]) hx hb dX8_squaresThat_3 rfl hl (by decide) rfl (fun ls hl => ?_)
  refine jn_w (t := fun k => f_X8_squaresThat_L4 FU x1 c_setting c_squares c_dark c_light c_like c_isCrowded k FU 0 0) (fun (k : Int32 → Int32 → Option (Int32)) => ∀ (x2_1 : Int32) (x3_2 : Int32) (H : Heap) (locs : List Loc) (ls : Array Slot), VP G (mW o ad kc c_worked c_width c_height c_grey c_setting c_leastOf c_mostOf c_lifted c_squares c_square c_dark c_light c_like c_isCrowded c_pairs c_first c_second c_votes c_shifts c_shiftX c_shiftY c_regionAt c_regions c_regionShift c_regionPairs c_regionFirst c_findings c_regionOf c_offset c_begun c_held c_isIn c_numbered c_left c_right c_top c_low c_missed) H → va_D A (mW o ad kc c_worked c_width c_height c_grey c_setting c_leastOf c_mostOf c_lifted c_squares c_square c_dark c_light c_like c_isCrowded c_pairs c_first c_second c_votes c_shifts c_shiftX c_shiftY c_regionAt c_regions c_regionShift c_regionPairs c_regionFirst c_findings c_regionOf c_offset c_begun c_held c_isIn c_numbered c_left c_right c_top c_low c_missed) → va_S A s.heap H locs → lv_has ls 5 [(2, .int x2_1)] → k x2_1 x3_2 = some r → WW p l e (rmq 1 21) s m args below meth c Q H locs 75 ls []) h ?_ ?_
  · intro x2_1 x3_2 H locs ls hP hD hS hl h
    refine lv_iload_n hx hb dX8_squaresThat_75 rfl (lv_at hl 0 rfl) ?_
    cases h
    exact ret_i hx hb hr rfl hQ hlocks hK hP hD hS dX8_squaresThat_76
  · intro k_3 K_4 h
    have L_5 : ∀ (n : Nat) (x2_1 : Int32) (x3_2 : Int32) (H : Heap) (locs : List Loc) (ls : Array Slot), VP G (mW o ad kc c_worked c_width c_height c_grey c_setting c_leastOf c_mostOf c_lifted c_squares c_square c_dark c_light c_like c_isCrowded c_pairs c_first c_second c_votes c_shifts c_shiftX c_shiftY c_regionAt c_regions c_regionShift c_regionPairs c_regionFirst c_findings c_regionOf c_offset c_begun c_held c_isIn c_numbered c_left c_right c_top c_low c_missed) H → va_D A (mW o ad kc c_worked c_width c_height c_grey c_setting c_leastOf c_mostOf c_lifted c_squares c_square c_dark c_light c_like c_isCrowded c_pairs c_first c_second c_votes c_shifts c_shiftX c_shiftY c_regionAt c_regions c_regionShift c_regionPairs c_regionFirst c_findings c_regionOf c_offset c_begun c_held c_isIn c_numbered c_left c_right c_top c_low c_missed) → va_S A s.heap H locs → lv_has ls 5 [(0, .ref o), (1, .int x1), (2, .int x2_1), (3, .int x3_2)] → f_X8_squaresThat_L4 FU x1 c_setting c_squares c_dark c_light c_like c_isCrowded k_3 n x2_1 x3_2 = some r → WW p l e (rmq 1 21) s m args below meth c Q H locs 4 ls [] := by
      intro n
      induction n with
      | zero => intro x2_1 x3_2 H locs ls hP hD hS hl h; rw [f_X8_squaresThat_L4] at h; cases h
      | succ n ih =>
        intro x2_1 x3_2 H locs ls hP hD hS hl h
        rw [f_X8_squaresThat_L4] at h
        refine lv_iload_n hx hb dX8_squaresThat_4 rfl (lv_at hl 3 rfl) ?_
        refine lv_aload_n hx hb dX8_squaresThat_5 rfl (lv_at hl 0 rfl) ?_
        refine r_get S gf_X8_126 hK hP 0 rfl rfl dX8_squaresThat_6 ?_
        refine lv_icmp_ge (tgt := 75) hx hb dX8_squaresThat_9 (by decide) (fun q_19 => ?_) (fun q_19 => ?_)
        · have h := it_t q_19 h
          exact K_4 x2_1 x3_2 _ _ _ hP hD hS (lv_sub hl [2] rfl) h
        · have h := it_f q_19 h
          refine lv_iload_n hx hb dX8_squaresThat_12 rfl (lv_at hl 1 rfl) ?_
          refine lv_iconst (v := 1) hx hb dX8_squaresThat_13 (by decide) ?_
          refine jn_w (fun (k : Int32 → Option (Int32)) => ∀ (t_6 : Int32) (H : Heap) (locs : List Loc) (ls : Array Slot), VP G (mW o ad kc c_worked c_width c_height c_grey c_setting c_leastOf c_mostOf c_lifted c_squares c_square c_dark c_light c_like c_isCrowded c_pairs c_first c_second c_votes c_shifts c_shiftX c_shiftY c_regionAt c_regions c_regionShift c_regionPairs c_regionFirst c_findings c_regionOf c_offset c_begun c_held c_isIn c_numbered c_left c_right c_top c_low c_missed) H → va_D A (mW o ad kc c_worked c_width c_height c_grey c_setting c_leastOf c_mostOf c_lifted c_squares c_square c_dark c_light c_like c_isCrowded c_pairs c_first c_second c_votes c_shifts c_shiftX c_shiftY c_regionAt c_regions c_regionShift c_regionPairs c_regionFirst c_findings c_regionOf c_offset c_begun c_held c_isIn c_numbered c_left c_right c_top c_low c_missed) → va_S A s.heap H locs → lv_has ls 5 [(0, .ref o), (1, .int x1), (2, .int x2_1), (3, .int x3_2)] → k t_6 = some r → WW p l e (rmq 1 21) s m args below meth c Q H locs 54 ls [.int t_6]) h ?_ ?_
          · intro t_6 H locs ls hP hD hS hl h
            refine lv_istore (lv' := [(4, .int t_6), (0, .ref o), (1, .int x1), (2, .int x2_1), (3, .int x3_2)]) hx hb dX8_squaresThat_54 hl (by decide) rfl (fun ls hl => ?_)
            refine lv_iload_n hx hb dX8_squaresThat_56 rfl (lv_at hl 3 rfl) ?_
            refine lv_iload hx hb dX8_squaresThat_57 (lv_at hl 0 rfl) ?_
            refine jn_w (fun (k : Int32 → Option (Int32)) => ∀ (t_9 : Int32) (H : Heap) (locs : List Loc) (ls : Array Slot), VP G (mW o ad kc c_worked c_width c_height c_grey c_setting c_leastOf c_mostOf c_lifted c_squares c_square c_dark c_light c_like c_isCrowded c_pairs c_first c_second c_votes c_shifts c_shiftX c_shiftY c_regionAt c_regions c_regionShift c_regionPairs c_regionFirst c_findings c_regionOf c_offset c_begun c_held c_isIn c_numbered c_left c_right c_top c_low c_missed) H → va_D A (mW o ad kc c_worked c_width c_height c_grey c_setting c_leastOf c_mostOf c_lifted c_squares c_square c_dark c_light c_like c_isCrowded c_pairs c_first c_second c_votes c_shifts c_shiftX c_shiftY c_regionAt c_regions c_regionShift c_regionPairs c_regionFirst c_findings c_regionOf c_offset c_begun c_held c_isIn c_numbered c_left c_right c_top c_low c_missed) → va_S A s.heap H locs → lv_has ls 5 [(0, .ref o), (1, .int x1), (3, .int x3_2)] → k t_9 = some r → WW p l e (rmq 1 21) s m args below meth c Q H locs 67 ls [.int t_9, .int x2_1]) h ?_ ?_
            · intro t_9 H locs ls hP hD hS hl h
              refine lv_iadd hx hb dX8_squaresThat_67 ?_
              refine lv_istore_n (lv' := [(2, .int (x2_1 + t_9)), (0, .ref o), (1, .int x1), (3, .int x3_2)]) hx hb dX8_squaresThat_68 rfl hl (by decide) rfl (fun ls hl => ?_)
              refine lv_iinc (v := (x3_2 + 1)) (lv' := [(3, .int (x3_2 + 1)), (2, .int (x2_1 + t_9)), (0, .ref o), (1, .int x1)]) hx hb dX8_squaresThat_69 hl (k := 3) rfl rfl (by decide) rfl (fun ls hl => ?_)
              refine lv_goto (tgt := 4) hx hb dX8_squaresThat_72 (by decide) ?_
              exact ih (x2_1 + t_9) (x3_2 + 1) _ _ _ hP hD hS (lv_sub hl [2, 3, 1, 0] rfl) h
            · intro j_10 J_11 h
              refine lv_if_eq (tgt := 66) hx hb dX8_squaresThat_59 (by decide) (fun q_12 => ?_) (fun q_12 => ?_)
              · have h := it_t q_12 h
                refine lv_iconst (v := 0) hx hb dX8_squaresThat_66 (by decide) ?_
                exact J_11 0 _ _ _ hP hD hS (lv_sub hl [1, 2, 4] rfl) h
              · have h := it_f q_12 h
                refine lv_iconst (v := 1) hx hb dX8_squaresThat_62 (by decide) ?_
                refine lv_goto (tgt := 67) hx hb dX8_squaresThat_63 (by decide) ?_
                exact J_11 1 _ _ _ hP hD hS (lv_sub hl [1, 2, 4] rfl) h
          · intro j_7 J_8 h
            refine lv_icmp_ne (tgt := 25) hx hb dX8_squaresThat_14 (by decide) (fun q_18 => ?_) (fun q_18 => ?_)
            · have h := it_f q_18 h
              refine lv_iload_n hx hb dX8_squaresThat_25 rfl (lv_at hl 1 rfl) ?_
              refine lv_iconst (v := 2) hx hb dX8_squaresThat_26 (by decide) ?_
              refine lv_icmp_ne (tgt := 39) hx hb dX8_squaresThat_27 (by decide) (fun q_16 => ?_) (fun q_16 => ?_)
              · have h := it_f q_16 h
                refine lv_aload_n hx hb dX8_squaresThat_39 rfl (lv_at hl 0 rfl) ?_
                refine r_get S gf_X8_41 hK hP 0 rfl rfl dX8_squaresThat_40 ?_
                refine lv_iload_n hx hb dX8_squaresThat_43 rfl (lv_at hl 3 rfl) ?_
                refine r_iald hx hb hK hP 9 rfl dX8_squaresThat_44 h (fun y_13 h => ?_)
                refine lv_iload_n hx hb dX8_squaresThat_45 rfl (lv_at hl 3 rfl) ?_
                refine lv_icmp_ne (tgt := 53) hx hb dX8_squaresThat_46 (by decide) (fun q_14 => ?_) (fun q_14 => ?_)
                · have h := it_f q_14 h
                  refine lv_iconst (v := 0) hx hb dX8_squaresThat_53 (by decide) ?_
                  exact J_8 0 _ _ _ hP hD hS (lv_sub hl [0, 1, 2, 3] rfl) h
                · have h := it_t q_14 h
                  refine lv_iconst (v := 1) hx hb dX8_squaresThat_49 (by decide) ?_
                  refine lv_goto (tgt := 54) hx hb dX8_squaresThat_50 (by decide) ?_
                  exact J_8 1 _ _ _ hP hD hS (lv_sub hl [0, 1, 2, 3] rfl) h
              · have h := it_t q_16 h
                refine lv_aload_n hx hb dX8_squaresThat_30 rfl (lv_at hl 0 rfl) ?_
                refine r_get S gf_X8_44 hK hP 0 rfl rfl dX8_squaresThat_31 ?_
                refine lv_iload_n hx hb dX8_squaresThat_34 rfl (lv_at hl 3 rfl) ?_
                refine r_zald hx hb hK hP 10 rfl dX8_squaresThat_35 h (fun y_15 h => ?_)
                refine lv_goto (tgt := 54) hx hb dX8_squaresThat_36 (by decide) ?_
                exact J_8 y_15 _ _ _ hP hD hS (lv_sub hl [0, 1, 2, 3] rfl) h
            · have h := it_t q_18 h
              refine lv_aload_n hx hb dX8_squaresThat_17 rfl (lv_at hl 0 rfl) ?_
              refine lv_iload_n hx hb dX8_squaresThat_18 rfl (lv_at hl 3 rfl) ?_
              obtain ⟨r_17, hq, h⟩ := bd1_e h
              refine cs_Vi (rest := []) (ci := 7) S hN cb_X8_isFlat ml_X8_132 ⟨Nat.le_of_ble_eq_true rfl, Nat.le_of_ble_eq_true rfl⟩ (c_X8_isFlat l G kc o ad x3_2 hq) hK hP hD hS hA 0 rfl rfl rfl rfl rfl (Nat.le_of_ble_eq_true rfl) hl.1 dX8_squaresThat_19 (fun H locs hP hD hS => ?_)
              refine lv_goto (tgt := 54) hx hb dX8_squaresThat_22 (by decide) ?_
              exact J_8 r_17 _ _ _ hP hD hS (lv_sub hl [0, 1, 2, 3] rfl) h
    exact L_5 FU 0 0 _ _ _ hP hD hS (lv_sub hl [2, 3, 1, 0] rfl) h
set_option maxHeartbeats 1000000 in
set_option maxRecDepth 100000 in
theorem c_X8_many (l : Launch) (G : va_G) (kc : Nat → ClassId) (o : Nat) (ad : Nat → Nat) {c_worked : Int32} {c_width : Int32} {c_height : Int32} {c_grey : (Nat → Int32)} {c_setting : (Nat → Int32)} {c_leastOf : (Nat → Int32)} {c_mostOf : (Nat → Int32)} {c_lifted : (Nat → Int32)} {c_squares : Int32} {c_square : (Nat → Int32)} {c_dark : (Nat → Int32)} {c_light : (Nat → Int32)} {c_like : (Nat → Int32)} {c_isCrowded : (Nat → Int32)} {c_pairs : Int32} {c_first : (Nat → Int32)} {c_second : (Nat → Int32)} {c_votes : (Nat → Int32)} {c_shifts : Int32} {c_shiftX : (Nat → Int32)} {c_shiftY : (Nat → Int32)} {c_regionAt : (Nat → Int32)} {c_regions : Int32} {c_regionShift : (Nat → Int32)} {c_regionPairs : (Nat → Int32)} {c_regionFirst : (Nat → Int32)} {c_findings : Int32} {c_regionOf : (Nat → Int32)} {c_offset : (Nat → Int32)} {c_begun : (Nat → Int32)} {c_held : (Nat → Int32)} {c_isIn : (Nat → Int32)} {c_numbered : (Nat → Int32)} {c_left : Int32} {c_right : Int32} {c_top : Int32} {c_low : Int32} {c_missed : Int32} (x1 : Int32) {r : Int32} {c_worked' : Int32} {c_squares' : Int32} {c_square' : (Nat → Int32)} {c_dark' : (Nat → Int32)} {c_light' : (Nat → Int32)} {c_like' : (Nat → Int32)} {c_isCrowded' : (Nat → Int32)} {c_pairs' : Int32} {c_first' : (Nat → Int32)} {c_second' : (Nat → Int32)} {c_votes' : (Nat → Int32)} {c_shifts' : Int32} {c_shiftX' : (Nat → Int32)} {c_shiftY' : (Nat → Int32)} {c_regionAt' : (Nat → Int32)} {c_regions' : Int32} {c_regionShift' : (Nat → Int32)} {c_regionPairs' : (Nat → Int32)} {c_regionFirst' : (Nat → Int32)} {c_findings' : Int32} {c_regionOf' : (Nat → Int32)} {c_offset' : (Nat → Int32)} {c_begun' : (Nat → Int32)} {c_held' : (Nat → Int32)} {c_isIn' : (Nat → Int32)} {c_numbered' : (Nat → Int32)} {FU : Nat} (h : f_X8_many FU c_worked c_width c_height c_grey c_setting c_squares c_square c_dark c_light c_like c_isCrowded c_pairs c_first c_second c_votes c_shifts c_shiftX c_shiftY c_regionAt c_regions c_regionShift c_regionPairs c_regionFirst c_findings c_regionOf c_offset c_begun c_held c_isIn c_numbered x1 = some (r, c_worked', c_squares', c_square', c_dark', c_light', c_like', c_isCrowded', c_pairs', c_first', c_second', c_votes', c_shifts', c_shiftX', c_shiftY', c_regionAt', c_regions', c_regionShift', c_regionPairs', c_regionFirst', c_findings', c_regionOf', c_offset', c_begun', c_held', c_isIn', c_numbered')) : CTi l G kc yX8_many cX8_many 4 (some .int) (rmq 8 186) [.ref o, .int x1] (mW o ad kc c_worked c_width c_height c_grey c_setting c_leastOf c_mostOf c_lifted c_squares c_square c_dark c_light c_like c_isCrowded c_pairs c_first c_second c_votes c_shifts c_shiftX c_shiftY c_regionAt c_regions c_regionShift c_regionPairs c_regionFirst c_findings c_regionOf c_offset c_begun c_held c_isIn c_numbered c_left c_right c_top c_low c_missed) (mW o ad kc (c_worked') c_width c_height c_grey c_setting c_leastOf c_mostOf c_lifted (c_squares') (c_square') (c_dark') (c_light') (c_like') (c_isCrowded') (c_pairs') (c_first') (c_second') (c_votes') (c_shifts') (c_shiftX') (c_shiftY') (c_regionAt') (c_regions') (c_regionShift') (c_regionPairs') (c_regionFirst') (c_findings') (c_regionOf') (c_offset') (c_begun') (c_held') (c_isIn') (c_numbered') c_left c_right c_top c_low c_missed) r := by
  refine CTi.mk (by decide) (Nat.le_of_ble_eq_true rfl) ?_
  intro p e s m args below meth c A ls Q hQ S hr hlocks hN hA hK hl hP hD hS
  have hx := S.1
  have hb := S.2.1
  have hl : lv_has ls 4 [(0, .ref o), (1, .int x1)] := hl
  unfold f_X8_many at h
  refine lv_iload_n hx hb dX8_many_0 rfl (lv_at hl 1 rfl) ?_
  refine lv_iconst (v := 0) hx hb dX8_many_1 (by decide) ?_
  refine lv_bipush (v := 7) hx hb dX8_many_2 (by decide) ?_
  obtain ⟨r_1, hq, h⟩ := bd1_e h
  refine cp_Si (rest := []) [] S hN cb_X8_within ml_X8_96 ⟨Nat.le_of_ble_eq_true rfl, Nat.le_of_ble_eq_true rfl⟩ (c_X8_within l G kc x1 0 7 hq) hK hP hD hS hA rfl rfl rfl rfl rfl (Nat.le_of_ble_eq_true rfl) hl.1 dX8_many_4 (fun H locs hP hD hS => ?_)
  have hP : VP G (mW o ad kc c_worked c_width c_height c_grey c_setting c_leastOf c_mostOf c_lifted c_squares c_square c_dark c_light c_like c_isCrowded c_pairs c_first c_second c_votes c_shifts c_shiftX c_shiftY c_regionAt c_regions c_regionShift c_regionPairs c_regionFirst c_findings c_regionOf c_offset c_begun c_held c_isIn c_numbered c_left c_right c_top c_low c_missed) H := hP
  have hD : va_D A (mW o ad kc c_worked c_width c_height c_grey c_setting c_leastOf c_mostOf c_lifted c_squares c_square c_dark c_light c_like c_isCrowded c_pairs c_first c_second c_votes c_shifts c_shiftX c_shiftY c_regionAt c_regions c_regionShift c_regionPairs c_regionFirst c_findings c_regionOf c_offset c_begun c_held c_isIn c_numbered c_left c_right c_top c_low c_missed) := hD
  refine lv_if_ne (tgt := 13) hx hb dX8_many_7 (by decide) (fun q_51 => ?_) (fun q_51 => ?_)
  · have h := it_f q_51 h
    refine lv_aload_n hx hb dX8_many_13 rfl (lv_at hl 0 rfl) ?_
    obtain ⟨c_worked_2, c_squares_3, c_square_4, c_dark_5, c_light_6, c_like_7, c_isCrowded_8, c_pairs_9, c_first_10, c_second_11, c_votes_12, c_shifts_13, c_shiftX_14, c_shiftY_15, c_regionAt_16, c_regions_17, c_regionShift_18, c_regionPairs_19, c_regionFirst_20, c_findings_21, c_regionOf_22, c_offset_23, c_begun_24, c_held_25, c_isIn_26, c_numbered_27, hq, h⟩ := bd26_e h
    refine cs_Vv (rest := []) (ci := 7) S hN cb_X8_findFindings ml_X8_254 ⟨Nat.le_of_ble_eq_true rfl, Nat.le_of_ble_eq_true rfl⟩ (c_X8_findFindings l G kc o ad  hq) hK hP hD hS hA 0 rfl rfl rfl rfl rfl (Nat.le_of_ble_eq_true rfl) hl.1 dX8_many_14 (fun H locs hP hD hS => ?_)
    refine lv_iconst (v := 0) hx hb dX8_many_17 (by decide) ?_
    refine lv_istore_n (lv' := [(2, .int 0), (0, .ref o), (1, .int x1)]) hx hb dX8_many_18 rfl hl (by decide) rfl (fun ls hl => ?_)
    refine lv_iload_n hx hb dX8_many_19 rfl (lv_at hl 2 rfl) ?_
    by_cases q_28 : x1 = 0
    · have h := it_t q_28 h
      refine lv_tableIn (off := 44) (tgt := 64) hx hb dX8_many_20 (by rw [q_28]; decide) (by rw [q_28]; decide) (by rw [q_28]; rfl) (by decide) ?_
      refine lv_aload_n hx hb dX8_many_64 rfl (lv_at hl 1 rfl) ?_
      refine r_get S gf_X8_126 hK hP 0 rfl rfl dX8_many_65 ?_
      cases h
      exact ret_i hx hb hr rfl hQ hlocks hK hP hD hS dX8_many_68
    · have h := it_f q_28 h
      by_cases q_29 : x1 = 1
      · have h := it_t q_29 h
        refine lv_tableIn (off := 49) (tgt := 69) hx hb dX8_many_20 (by rw [q_29]; decide) (by rw [q_29]; decide) (by rw [q_29]; rfl) (by decide) ?_
        refine lv_aload_n hx hb dX8_many_69 rfl (lv_at hl 1 rfl) ?_
        refine lv_iload_n hx hb dX8_many_70 rfl (lv_at hl 2 rfl) ?_
        obtain ⟨r_30, hq, h⟩ := bd1_e h
        refine cs_Vi (rest := []) (ci := 7) S hN cb_X8_squaresThat ml_X8_269 ⟨Nat.le_of_ble_eq_true rfl, Nat.le_of_ble_eq_true rfl⟩ (c_X8_squaresThat l G kc o ad x1 hq) hK hP hD hS hA 0 rfl rfl rfl rfl rfl (Nat.le_of_ble_eq_true rfl) hl.1 dX8_many_71 (fun H locs hP hD hS => ?_)
        cases h
        exact ret_i hx hb hr rfl hQ hlocks hK hP hD hS dX8_many_74
      · have h := it_f q_29 h
        by_cases q_31 : x1 = 2
        · have h := it_t q_31 h
          refine lv_tableIn (off := 49) (tgt := 69) hx hb dX8_many_20 (by rw [q_31]; decide) (by rw [q_31]; decide) (by rw [q_31]; rfl) (by decide) ?_
          refine lv_aload_n hx hb dX8_many_69 rfl (lv_at hl 1 rfl) ?_
          refine lv_iload_n hx hb dX8_many_70 rfl (lv_at hl 2 rfl) ?_
          obtain ⟨r_32, hq, h⟩ := bd1_e h
          refine cs_Vi (rest := []) (ci := 7) S hN cb_X8_squaresThat ml_X8_269 ⟨Nat.le_of_ble_eq_true rfl, Nat.le_of_ble_eq_true rfl⟩ (c_X8_squaresThat l G kc o ad x1 hq) hK hP hD hS hA 0 rfl rfl rfl rfl rfl (Nat.le_of_ble_eq_true rfl) hl.1 dX8_many_71 (fun H locs hP hD hS => ?_)
          cases h
          exact ret_i hx hb hr rfl hQ hlocks hK hP hD hS dX8_many_74
        · have h := it_f q_31 h
          by_cases q_33 : x1 = 3
          · have h := it_t q_33 h
            refine lv_tableIn (off := 49) (tgt := 69) hx hb dX8_many_20 (by rw [q_33]; decide) (by rw [q_33]; decide) (by rw [q_33]; rfl) (by decide) ?_
            refine lv_aload_n hx hb dX8_many_69 rfl (lv_at hl 1 rfl) ?_
            refine lv_iload_n hx hb dX8_many_70 rfl (lv_at hl 2 rfl) ?_
            obtain ⟨r_34, hq, h⟩ := bd1_e h
            refine cs_Vi (rest := []) (ci := 7) S hN cb_X8_squaresThat ml_X8_269 ⟨Nat.le_of_ble_eq_true rfl, Nat.le_of_ble_eq_true rfl⟩ (c_X8_squaresThat l G kc o ad x1 hq) hK hP hD hS hA 0 rfl rfl rfl rfl rfl (Nat.le_of_ble_eq_true rfl) hl.1 dX8_many_71 (fun H locs hP hD hS => ?_)
            cases h
            exact ret_i hx hb hr rfl hQ hlocks hK hP hD hS dX8_many_74
          · have h := it_f q_33 h
            by_cases q_35 : x1 = 4
            · have h := it_t q_35 h
              refine lv_tableIn (off := 55) (tgt := 75) hx hb dX8_many_20 (by rw [q_35]; decide) (by rw [q_35]; decide) (by rw [q_35]; rfl) (by decide) ?_
              refine lv_aload_n hx hb dX8_many_75 rfl (lv_at hl 1 rfl) ?_
              refine r_get S gf_X8_149 hK hP 0 rfl rfl dX8_many_76 ?_
              cases h
              exact ret_i hx hb hr rfl hQ hlocks hK hP hD hS dX8_many_79
            · have h := it_f q_35 h
              by_cases q_36 : x1 = 5
              · have h := it_t q_36 h
                refine lv_tableIn (off := 60) (tgt := 80) hx hb dX8_many_20 (by rw [q_36]; decide) (by rw [q_36]; decide) (by rw [q_36]; rfl) (by decide) ?_
                refine lv_aload_n hx hb dX8_many_80 rfl (lv_at hl 1 rfl) ?_
                refine r_get S gf_X8_170 hK hP 0 rfl rfl dX8_many_81 ?_
                cases h
                exact ret_i hx hb hr rfl hQ hlocks hK hP hD hS dX8_many_84
              · have h := it_f q_36 h
                by_cases q_37 : x1 = 6
                · have h := it_t q_37 h
                  refine lv_tableIn (off := 65) (tgt := 85) hx hb dX8_many_20 (by rw [q_37]; decide) (by rw [q_37]; decide) (by rw [q_37]; rfl) (by decide) ?_
                  refine lv_aload_n hx hb dX8_many_85 rfl (lv_at hl 1 rfl) ?_
                  refine r_get S gf_X8_199 hK hP 0 rfl rfl dX8_many_86 ?_
                  cases h
                  exact ret_i hx hb hr rfl hQ hlocks hK hP hD hS dX8_many_89
                · have h := it_f q_37 h
                  have nq_28 := lv_neT (a := 0) q_28 (by decide)
                  have nq_29 := lv_neT (a := 1) q_29 (by decide)
                  have nq_31 := lv_neT (a := 2) q_31 (by decide)
                  have nq_33 := lv_neT (a := 3) q_33 (by decide)
                  have nq_35 := lv_neT (a := 4) q_35 (by decide)
                  have nq_36 := lv_neT (a := 5) q_36 (by decide)
                  have nq_37 := lv_neT (a := 6) q_37 (by decide)
                  refine lv_tableOut (tgt := 90) hx hb dX8_many_20 (by omega) (by decide) ?_
                  refine lv_iconst (v := 0) hx hb dX8_many_90 (by decide) ?_
                  refine lv_istore_n (lv' := [(3, .int 0), (2, .int 0), (0, .ref o), (1, .int x1)]) hx hb dX8_many_91 rfl hl (by decide) rfl (fun ls hl => ?_)
                  refine jn_w (t := fun k => f_X8_many_L92 FU c_width c_height c_shiftX_14 c_shiftY_15 c_regionShift_18 c_findings_21 c_regionOf_22 c_isIn_26 k FU 0 0) (fun (k : Int32 → Int32 → Option (Int32 × Int32 × Int32 × (Nat → Int32) × (Nat → Int32) × (Nat → Int32) × (Nat → Int32) × (Nat → Int32) × Int32 × (Nat → Int32) × (Nat → Int32) × (Nat → Int32) × Int32 × (Nat → Int32) × (Nat → Int32) × (Nat → Int32) × Int32 × (Nat → Int32) × (Nat → Int32) × (Nat → Int32) × Int32 × (Nat → Int32) × (Nat → Int32) × (Nat → Int32) × (Nat → Int32) × (Nat → Int32) × (Nat → Int32))) => ∀ (x2_38 : Int32) (x3_39 : Int32) (H : Heap) (locs : List Loc) (ls : Array Slot), VP G (mW o ad kc c_worked_2 c_width c_height c_grey c_setting c_leastOf c_mostOf c_lifted c_squares_3 c_square_4 c_dark_5 c_light_6 c_like_7 c_isCrowded_8 c_pairs_9 c_first_10 c_second_11 c_votes_12 c_shifts_13 c_shiftX_14 c_shiftY_15 c_regionAt_16 c_regions_17 c_regionShift_18 c_regionPairs_19 c_regionFirst_20 c_findings_21 c_regionOf_22 c_offset_23 c_begun_24 c_held_25 c_isIn_26 c_numbered_27 c_left c_right c_top c_low c_missed) H → va_D A (mW o ad kc c_worked_2 c_width c_height c_grey c_setting c_leastOf c_mostOf c_lifted c_squares_3 c_square_4 c_dark_5 c_light_6 c_like_7 c_isCrowded_8 c_pairs_9 c_first_10 c_second_11 c_votes_12 c_shifts_13 c_shiftX_14 c_shiftY_15 c_regionAt_16 c_regions_17 c_regionShift_18 c_regionPairs_19 c_regionFirst_20 c_findings_21 c_regionOf_22 c_offset_23 c_begun_24 c_held_25 c_isIn_26 c_numbered_27 c_left c_right c_top c_low c_missed) → va_S A s.heap H locs → lv_has ls 4 [(2, .int x2_38)] → k x2_38 x3_39 = some (r, c_worked', c_squares', c_square', c_dark', c_light', c_like', c_isCrowded', c_pairs', c_first', c_second', c_votes', c_shifts', c_shiftX', c_shiftY', c_regionAt', c_regions', c_regionShift', c_regionPairs', c_regionFirst', c_findings', c_regionOf', c_offset', c_begun', c_held', c_isIn', c_numbered') → WW p l e (rmq 8 186) s m args below meth c Q H locs 144 ls []) h ?_ ?_
                  · intro x2_38 x3_39 H locs ls hP hD hS hl h
                    refine lv_iload_n hx hb dX8_many_144 rfl (lv_at hl 0 rfl) ?_
                    cases h
                    exact ret_i hx hb hr rfl hQ hlocks hK hP hD hS dX8_many_145
                  · intro k_40 K_41 h
                    have L_42 : ∀ (n : Nat) (x2_38 : Int32) (x3_39 : Int32) (H : Heap) (locs : List Loc) (ls : Array Slot), VP G (mW o ad kc c_worked_2 c_width c_height c_grey c_setting c_leastOf c_mostOf c_lifted c_squares_3 c_square_4 c_dark_5 c_light_6 c_like_7 c_isCrowded_8 c_pairs_9 c_first_10 c_second_11 c_votes_12 c_shifts_13 c_shiftX_14 c_shiftY_15 c_regionAt_16 c_regions_17 c_regionShift_18 c_regionPairs_19 c_regionFirst_20 c_findings_21 c_regionOf_22 c_offset_23 c_begun_24 c_held_25 c_isIn_26 c_numbered_27 c_left c_right c_top c_low c_missed) H → va_D A (mW o ad kc c_worked_2 c_width c_height c_grey c_setting c_leastOf c_mostOf c_lifted c_squares_3 c_square_4 c_dark_5 c_light_6 c_like_7 c_isCrowded_8 c_pairs_9 c_first_10 c_second_11 c_votes_12 c_shifts_13 c_shiftX_14 c_shiftY_15 c_regionAt_16 c_regions_17 c_regionShift_18 c_regionPairs_19 c_regionFirst_20 c_findings_21 c_regionOf_22 c_offset_23 c_begun_24 c_held_25 c_isIn_26 c_numbered_27 c_left c_right c_top c_low c_missed) → va_S A s.heap H locs → lv_has ls 4 [(0, .ref o), (2, .int x2_38), (3, .int x3_39)] → f_X8_many_L92 FU c_width c_height c_shiftX_14 c_shiftY_15 c_regionShift_18 c_findings_21 c_regionOf_22 c_isIn_26 k_40 n x2_38 x3_39 = some (r, c_worked', c_squares', c_square', c_dark', c_light', c_like', c_isCrowded', c_pairs', c_first', c_second', c_votes', c_shifts', c_shiftX', c_shiftY', c_regionAt', c_regions', c_regionShift', c_regionPairs', c_regionFirst', c_findings', c_regionOf', c_offset', c_begun', c_held', c_isIn', c_numbered') → WW p l e (rmq 8 186) s m args below meth c Q H locs 92 ls [] := by
                      intro n
                      induction n with
                      | zero => intro x2_38 x3_39 H locs ls hP hD hS hl h; rw [f_X8_many_L92] at h; cases h
                      | succ n ih =>
                        intro x2_38 x3_39 H locs ls hP hD hS hl h
                        rw [f_X8_many_L92] at h
                        refine lv_iload_n hx hb dX8_many_92 rfl (lv_at hl 2 rfl) ?_
                        refine lv_sipush (v := 256) hx hb dX8_many_93 (by decide) ?_
                        refine lv_icmp_ge (tgt := 144) hx hb dX8_many_96 (by decide) (fun q_50 => ?_) (fun q_50 => ?_)
                        · have h := it_t q_50 h
                          exact K_41 x2_38 x3_39 _ _ _ hP hD hS (lv_sub hl [1] rfl) h
                        · have h := it_f q_50 h
                          refine lv_iload_n hx hb dX8_many_99 rfl (lv_at hl 1 rfl) ?_
                          refine lv_aload_n hx hb dX8_many_100 rfl (lv_at hl 0 rfl) ?_
                          refine lv_iload_n hx hb dX8_many_101 rfl (lv_at hl 2 rfl) ?_
                          refine lv_bipush (v := 16) hx hb dX8_many_102 (by decide) ?_
                          refine lv_irem hx hb dX8_many_104 (by decide) ?_
                          refine lv_iload_n hx hb dX8_many_105 rfl (lv_at hl 2 rfl) ?_
                          refine lv_bipush (v := 16) hx hb dX8_many_106 (by decide) ?_
                          refine lv_idiv hx hb dX8_many_108 (by decide) ?_
                          obtain ⟨r_43, hq, h⟩ := bd1_e h
                          refine cs_Vi (rest := [.int x2_38]) (ci := 7) S hN cb_X8_isPlace ml_X8_104 ⟨Nat.le_of_ble_eq_true rfl, Nat.le_of_ble_eq_true rfl⟩ (c_X8_isPlace l G kc o ad (x3_39 - x3_39 / 16 * 16) (x3_39 / 16) hq) hK hP hD hS hA 0 rfl rfl rfl rfl rfl (Nat.le_of_ble_eq_true rfl) hl.1 dX8_many_109 (fun H locs hP hD hS => ?_)
                          refine jn_w (fun (k : Int32 → Option (Int32 × Int32 × Int32 × (Nat → Int32) × (Nat → Int32) × (Nat → Int32) × (Nat → Int32) × (Nat → Int32) × Int32 × (Nat → Int32) × (Nat → Int32) × (Nat → Int32) × Int32 × (Nat → Int32) × (Nat → Int32) × (Nat → Int32) × Int32 × (Nat → Int32) × (Nat → Int32) × (Nat → Int32) × Int32 × (Nat → Int32) × (Nat → Int32) × (Nat → Int32) × (Nat → Int32) × (Nat → Int32) × (Nat → Int32))) => ∀ (t_44 : Int32) (H : Heap) (locs : List Loc) (ls : Array Slot), VP G (mW o ad kc c_worked_2 c_width c_height c_grey c_setting c_leastOf c_mostOf c_lifted c_squares_3 c_square_4 c_dark_5 c_light_6 c_like_7 c_isCrowded_8 c_pairs_9 c_first_10 c_second_11 c_votes_12 c_shifts_13 c_shiftX_14 c_shiftY_15 c_regionAt_16 c_regions_17 c_regionShift_18 c_regionPairs_19 c_regionFirst_20 c_findings_21 c_regionOf_22 c_offset_23 c_begun_24 c_held_25 c_isIn_26 c_numbered_27 c_left c_right c_top c_low c_missed) H → va_D A (mW o ad kc c_worked_2 c_width c_height c_grey c_setting c_leastOf c_mostOf c_lifted c_squares_3 c_square_4 c_dark_5 c_light_6 c_like_7 c_isCrowded_8 c_pairs_9 c_first_10 c_second_11 c_votes_12 c_shifts_13 c_shiftX_14 c_shiftY_15 c_regionAt_16 c_regions_17 c_regionShift_18 c_regionPairs_19 c_regionFirst_20 c_findings_21 c_regionOf_22 c_offset_23 c_begun_24 c_held_25 c_isIn_26 c_numbered_27 c_left c_right c_top c_low c_missed) → va_S A s.heap H locs → lv_has ls 4 [(0, .ref o), (3, .int x3_39)] → k t_44 = some (r, c_worked', c_squares', c_square', c_dark', c_light', c_like', c_isCrowded', c_pairs', c_first', c_second', c_votes', c_shifts', c_shiftX', c_shiftY', c_regionAt', c_regions', c_regionShift', c_regionPairs', c_regionFirst', c_findings', c_regionOf', c_offset', c_begun', c_held', c_isIn', c_numbered') → WW p l e (rmq 8 186) s m args below meth c Q H locs 136 ls [.int t_44, .int x2_38]) h ?_ ?_
                          · intro t_44 H locs ls hP hD hS hl h
                            refine lv_iadd hx hb dX8_many_136 ?_
                            refine lv_istore_n (lv' := [(2, .int (x2_38 + t_44)), (0, .ref o), (3, .int x3_39)]) hx hb dX8_many_137 rfl hl (by decide) rfl (fun ls hl => ?_)
                            refine lv_iinc (v := (x3_39 + 1)) (lv' := [(3, .int (x3_39 + 1)), (2, .int (x2_38 + t_44)), (0, .ref o)]) hx hb dX8_many_138 hl (k := 2) rfl rfl (by decide) rfl (fun ls hl => ?_)
                            refine lv_goto (tgt := 92) hx hb dX8_many_141 (by decide) ?_
                            exact ih (x2_38 + t_44) (x3_39 + 1) _ _ _ hP hD hS (lv_sub hl [2, 1, 0] rfl) h
                          · intro j_45 J_46 h
                            refine lv_if_eq (tgt := 135) hx hb dX8_many_112 (by decide) (fun q_49 => ?_) (fun q_49 => ?_)
                            · have h := it_t q_49 h
                              refine lv_iconst (v := 0) hx hb dX8_many_135 (by decide) ?_
                              exact J_46 0 _ _ _ hP hD hS (lv_sub hl [0, 2] rfl) h
                            · have h := it_f q_49 h
                              refine lv_aload_n hx hb dX8_many_115 rfl (lv_at hl 0 rfl) ?_
                              refine lv_iload_n hx hb dX8_many_116 rfl (lv_at hl 2 rfl) ?_
                              refine lv_bipush (v := 16) hx hb dX8_many_117 (by decide) ?_
                              refine lv_irem hx hb dX8_many_119 (by decide) ?_
                              refine lv_iload_n hx hb dX8_many_120 rfl (lv_at hl 2 rfl) ?_
                              refine lv_bipush (v := 16) hx hb dX8_many_121 (by decide) ?_
                              refine lv_idiv hx hb dX8_many_123 (by decide) ?_
                              refine lv_iconst (v := 2) hx hb dX8_many_124 (by decide) ?_
                              obtain ⟨r_47, hq, h⟩ := bd1_e h
                              refine cs_Vi (rest := [.int x2_38]) (ci := 7) S hN cb_X8_isSeen ml_X8_263 ⟨Nat.le_of_ble_eq_true rfl, Nat.le_of_ble_eq_true rfl⟩ (c_X8_isSeen l G kc o ad (x3_39 - x3_39 / 16 * 16) (x3_39 / 16) 2 hq) hK hP hD hS hA 0 rfl rfl rfl rfl rfl (Nat.le_of_ble_eq_true rfl) hl.1 dX8_many_125 (fun H locs hP hD hS => ?_)
                              refine lv_if_eq (tgt := 135) hx hb dX8_many_128 (by decide) (fun q_48 => ?_) (fun q_48 => ?_)
                              · have h := it_t q_48 h
                                refine lv_iconst (v := 0) hx hb dX8_many_135 (by decide) ?_
                                exact J_46 0 _ _ _ hP hD hS (lv_sub hl [0, 2] rfl) h
                              · have h := it_f q_48 h
                                refine lv_iconst (v := 1) hx hb dX8_many_131 (by decide) ?_
                                refine lv_goto (tgt := 136) hx hb dX8_many_132 (by decide) ?_
                                exact J_46 1 _ _ _ hP hD hS (lv_sub hl [0, 2] rfl) h
                    exact L_42 FU 0 0 _ _ _ hP hD hS (lv_sub hl [2, 1, 0] rfl) h
  · have h := it_t q_51 h
    refine lv_bipush (v := (-2)) hx hb dX8_many_10 (by decide) ?_
    cases h
    exact ret_i hx hb hr rfl hQ hlocks hK hP hD hS dX8_many_12
set_option maxHeartbeats 1000000 in
set_option maxRecDepth 100000 in
theorem c_X8_would (l : Launch) (G : va_G) (kc : Nat → ClassId) (o : Nat) (ad : Nat → Nat) {c_worked : Int32} {c_width : Int32} {c_height : Int32} {c_grey : (Nat → Int32)} {c_setting : (Nat → Int32)} {c_leastOf : (Nat → Int32)} {c_mostOf : (Nat → Int32)} {c_lifted : (Nat → Int32)} {c_squares : Int32} {c_square : (Nat → Int32)} {c_dark : (Nat → Int32)} {c_light : (Nat → Int32)} {c_like : (Nat → Int32)} {c_isCrowded : (Nat → Int32)} {c_pairs : Int32} {c_first : (Nat → Int32)} {c_second : (Nat → Int32)} {c_votes : (Nat → Int32)} {c_shifts : Int32} {c_shiftX : (Nat → Int32)} {c_shiftY : (Nat → Int32)} {c_regionAt : (Nat → Int32)} {c_regions : Int32} {c_regionShift : (Nat → Int32)} {c_regionPairs : (Nat → Int32)} {c_regionFirst : (Nat → Int32)} {c_findings : Int32} {c_regionOf : (Nat → Int32)} {c_offset : (Nat → Int32)} {c_begun : (Nat → Int32)} {c_held : (Nat → Int32)} {c_isIn : (Nat → Int32)} {c_numbered : (Nat → Int32)} {c_left : Int32} {c_right : Int32} {c_top : Int32} {c_low : Int32} {c_missed : Int32} (x1 : Int32) (x2 : Int32) (x3 : Int32) {r : Int32} {c_worked' : Int32} {c_setting' : (Nat → Int32)} {c_squares' : Int32} {c_square' : (Nat → Int32)} {c_dark' : (Nat → Int32)} {c_light' : (Nat → Int32)} {c_like' : (Nat → Int32)} {c_isCrowded' : (Nat → Int32)} {c_pairs' : Int32} {c_first' : (Nat → Int32)} {c_second' : (Nat → Int32)} {c_votes' : (Nat → Int32)} {c_shifts' : Int32} {c_shiftX' : (Nat → Int32)} {c_shiftY' : (Nat → Int32)} {c_regionAt' : (Nat → Int32)} {c_regions' : Int32} {c_regionShift' : (Nat → Int32)} {c_regionPairs' : (Nat → Int32)} {c_regionFirst' : (Nat → Int32)} {c_findings' : Int32} {c_regionOf' : (Nat → Int32)} {c_offset' : (Nat → Int32)} {c_begun' : (Nat → Int32)} {c_held' : (Nat → Int32)} {c_isIn' : (Nat → Int32)} {c_numbered' : (Nat → Int32)} {FU : Nat} (h : f_X8_would FU c_worked c_width c_height c_grey c_setting c_leastOf c_mostOf c_squares c_square c_dark c_light c_like c_isCrowded c_pairs c_first c_second c_votes c_shifts c_shiftX c_shiftY c_regionAt c_regions c_regionShift c_regionPairs c_regionFirst c_findings c_regionOf c_offset c_begun c_held c_isIn c_numbered x1 x2 x3 = some (r, c_worked', c_setting', c_squares', c_square', c_dark', c_light', c_like', c_isCrowded', c_pairs', c_first', c_second', c_votes', c_shifts', c_shiftX', c_shiftY', c_regionAt', c_regions', c_regionShift', c_regionPairs', c_regionFirst', c_findings', c_regionOf', c_offset', c_begun', c_held', c_isIn', c_numbered')) : CTi l G kc yX8_would cX8_would 6 (some .int) (rmq 9 209) [.ref o, .int x1, .int x2, .int x3] (mW o ad kc c_worked c_width c_height c_grey c_setting c_leastOf c_mostOf c_lifted c_squares c_square c_dark c_light c_like c_isCrowded c_pairs c_first c_second c_votes c_shifts c_shiftX c_shiftY c_regionAt c_regions c_regionShift c_regionPairs c_regionFirst c_findings c_regionOf c_offset c_begun c_held c_isIn c_numbered c_left c_right c_top c_low c_missed) (mW o ad kc (c_worked') c_width c_height c_grey (c_setting') c_leastOf c_mostOf c_lifted (c_squares') (c_square') (c_dark') (c_light') (c_like') (c_isCrowded') (c_pairs') (c_first') (c_second') (c_votes') (c_shifts') (c_shiftX') (c_shiftY') (c_regionAt') (c_regions') (c_regionShift') (c_regionPairs') (c_regionFirst') (c_findings') (c_regionOf') (c_offset') (c_begun') (c_held') (c_isIn') (c_numbered') c_left c_right c_top c_low c_missed) r := by
  refine CTi.mk (by decide) (Nat.le_of_ble_eq_true rfl) ?_
  intro p e s m args below meth c A ls Q hQ S hr hlocks hN hA hK hl hP hD hS
  have hx := S.1
  have hb := S.2.1
  have hl : lv_has ls 6 [(0, .ref o), (1, .int x1), (2, .int x2), (3, .int x3)] := hl
  unfold f_X8_would at h
  refine lv_aload_n hx hb dX8_would_0 rfl (lv_at hl 0 rfl) ?_
  refine lv_iload_n hx hb dX8_would_1 rfl (lv_at hl 1 rfl) ?_
  refine lv_iload_n hx hb dX8_would_2 rfl (lv_at hl 2 rfl) ?_
  obtain ⟨r_1, hq, h⟩ := bd1_e h
  refine cs_Vi (rest := []) (ci := 7) S hN cb_X8_isSetting ml_X8_112 ⟨Nat.le_of_ble_eq_true rfl, Nat.le_of_ble_eq_true rfl⟩ (c_X8_isSetting l G kc o ad x1 x2 hq) hK hP hD hS hA 0 rfl rfl rfl rfl rfl (Nat.le_of_ble_eq_true rfl) hl.1 dX8_would_3 (fun H locs hP hD hS => ?_)
  refine lv_if_eq (tgt := 19) hx hb dX8_would_6 (by decide) (fun q_36 => ?_) (fun q_36 => ?_)
  · have h := it_t q_36 h
    refine lv_bipush (v := (-2)) hx hb dX8_would_19 (by decide) ?_
    cases h
    exact ret_i hx hb hr rfl hQ hlocks hK hP hD hS dX8_would_21
  · have h := it_f q_36 h
    refine lv_iload_n hx hb dX8_would_9 rfl (lv_at hl 3 rfl) ?_
    refine lv_iconst (v := 0) hx hb dX8_would_10 (by decide) ?_
    refine lv_bipush (v := 7) hx hb dX8_would_11 (by decide) ?_
    obtain ⟨r_2, hq, h⟩ := bd1_e h
    refine cp_Si (rest := []) [] S hN cb_X8_within ml_X8_96 ⟨Nat.le_of_ble_eq_true rfl, Nat.le_of_ble_eq_true rfl⟩ (c_X8_within l G kc x3 0 7 hq) hK hP hD hS hA rfl rfl rfl rfl rfl (Nat.le_of_ble_eq_true rfl) hl.1 dX8_would_13 (fun H locs hP hD hS => ?_)
    have hP : VP G (mW o ad kc c_worked c_width c_height c_grey c_setting c_leastOf c_mostOf c_lifted c_squares c_square c_dark c_light c_like c_isCrowded c_pairs c_first c_second c_votes c_shifts c_shiftX c_shiftY c_regionAt c_regions c_regionShift c_regionPairs c_regionFirst c_findings c_regionOf c_offset c_begun c_held c_isIn c_numbered c_left c_right c_top c_low c_missed) H := hP
    have hD : va_D A (mW o ad kc c_worked c_width c_height c_grey c_setting c_leastOf c_mostOf c_lifted c_squares c_square c_dark c_light c_like c_isCrowded c_pairs c_first c_second c_votes c_shifts c_shiftX c_shiftY c_regionAt c_regions c_regionShift c_regionPairs c_regionFirst c_findings c_regionOf c_offset c_begun c_held c_isIn c_numbered c_left c_right c_top c_low c_missed) := hD
    refine lv_if_ne (tgt := 22) hx hb dX8_would_16 (by decide) (fun q_35 => ?_) (fun q_35 => ?_)
    · have h := it_f q_35 h
      refine lv_aload_n hx hb dX8_would_22 rfl (lv_at hl 0 rfl) ?_
      refine r_get S gf_X8_20 hK hP 0 rfl rfl dX8_would_23 ?_
      refine lv_iload_n hx hb dX8_would_26 rfl (lv_at hl 1 rfl) ?_
      refine r_iald hx hb hK hP 2 rfl dX8_would_27 h (fun y_3 h => ?_)
      refine lv_istore (lv' := [(4, .int y_3), (0, .ref o), (1, .int x1), (2, .int x2), (3, .int x3)]) hx hb dX8_would_28 hl (by decide) rfl (fun ls hl => ?_)
      refine lv_aload_n hx hb dX8_would_30 rfl (lv_at hl 1 rfl) ?_
      refine r_get S gf_X8_20 hK hP 0 rfl rfl dX8_would_31 ?_
      refine lv_iload_n hx hb dX8_would_34 rfl (lv_at hl 2 rfl) ?_
      refine lv_iload_n hx hb dX8_would_35 rfl (lv_at hl 3 rfl) ?_
      refine r_iast hx hb hK hP hD hS 2 rfl dX8_would_36 h (fun c_setting_4 H locs hP hD hS h => ?_)
      have hP : VP G (mW o ad kc c_worked c_width c_height c_grey c_setting_4 c_leastOf c_mostOf c_lifted c_squares c_square c_dark c_light c_like c_isCrowded c_pairs c_first c_second c_votes c_shifts c_shiftX c_shiftY c_regionAt c_regions c_regionShift c_regionPairs c_regionFirst c_findings c_regionOf c_offset c_begun c_held c_isIn c_numbered c_left c_right c_top c_low c_missed) H := hP
      have hD : va_D A (mW o ad kc c_worked c_width c_height c_grey c_setting_4 c_leastOf c_mostOf c_lifted c_squares c_square c_dark c_light c_like c_isCrowded c_pairs c_first c_second c_votes c_shifts c_shiftX c_shiftY c_regionAt c_regions c_regionShift c_regionPairs c_regionFirst c_findings c_regionOf c_offset c_begun c_held c_isIn c_numbered c_left c_right c_top c_low c_missed) := hD
      refine lv_aload_n hx hb dX8_would_37 rfl (lv_at hl 1 rfl) ?_
      refine lv_iconst (v := 0) hx hb dX8_would_38 (by decide) ?_
      refine r_put S pf_X8_93 hK hP hD hS 0 rfl (Nat.le_of_ble_eq_true rfl) dX8_would_39 (fun H locs hP hD hS => ?_)
      have hP : VP G (mW o ad kc 0 c_width c_height c_grey c_setting_4 c_leastOf c_mostOf c_lifted c_squares c_square c_dark c_light c_like c_isCrowded c_pairs c_first c_second c_votes c_shifts c_shiftX c_shiftY c_regionAt c_regions c_regionShift c_regionPairs c_regionFirst c_findings c_regionOf c_offset c_begun c_held c_isIn c_numbered c_left c_right c_top c_low c_missed) H := hP
      have hD : va_D A (mW o ad kc 0 c_width c_height c_grey c_setting_4 c_leastOf c_mostOf c_lifted c_squares c_square c_dark c_light c_like c_isCrowded c_pairs c_first c_second c_votes c_shifts c_shiftX c_shiftY c_regionAt c_regions c_regionShift c_regionPairs c_regionFirst c_findings c_regionOf c_offset c_begun c_held c_isIn c_numbered c_left c_right c_top c_low c_missed) := hD
      refine lv_aload_n hx hb dX8_would_42 rfl (lv_at hl 1 rfl) ?_
      refine lv_iload_n hx hb dX8_would_43 rfl (lv_at hl 4 rfl) ?_
      obtain ⟨r_5, c_worked_6, c_squares_7, c_square_8, c_dark_9, c_light_10, c_like_11, c_isCrowded_12, c_pairs_13, c_first_14, c_second_15, c_votes_16, c_shifts_17, c_shiftX_18, c_shiftY_19, c_regionAt_20, c_regions_21, c_regionShift_22, c_regionPairs_23, c_regionFirst_24, c_findings_25, c_regionOf_26, c_offset_27, c_begun_28, c_held_29, c_isIn_30, c_numbered_31, hq, h⟩ := bd27_e h
      refine cs_Vi (rest := []) (ci := 7) S hN cb_X8_many ml_X8_266 ⟨Nat.le_of_ble_eq_true rfl, Nat.le_of_ble_eq_true rfl⟩ (c_X8_many l G kc o ad x3 hq) hK hP hD hS hA 0 rfl rfl rfl rfl rfl (Nat.le_of_ble_eq_true rfl) hl.1 dX8_would_44 (fun H locs hP hD hS => ?_)
      refine lv_istore (lv' := [(5, .int r_5), (4, .int y_3), (0, .ref o), (1, .int x1), (2, .int x2), (3, .int x3)]) hx hb dX8_would_47 hl (by decide) rfl (fun ls hl => ?_)
      refine lv_aload_n hx hb dX8_would_49 rfl (lv_at hl 2 rfl) ?_
      refine r_get S gf_X8_20 hK hP 0 rfl rfl dX8_would_50 ?_
      refine lv_iload_n hx hb dX8_would_53 rfl (lv_at hl 3 rfl) ?_
      refine lv_iload hx hb dX8_would_54 (lv_at hl 1 rfl) ?_
      refine r_iast hx hb hK hP hD hS 2 rfl dX8_would_56 h (fun c_setting_32 H locs hP hD hS h => ?_)
      have hP : VP G (mW o ad kc c_worked_6 c_width c_height c_grey c_setting_32 c_leastOf c_mostOf c_lifted c_squares_7 c_square_8 c_dark_9 c_light_10 c_like_11 c_isCrowded_12 c_pairs_13 c_first_14 c_second_15 c_votes_16 c_shifts_17 c_shiftX_18 c_shiftY_19 c_regionAt_20 c_regions_21 c_regionShift_22 c_regionPairs_23 c_regionFirst_24 c_findings_25 c_regionOf_26 c_offset_27 c_begun_28 c_held_29 c_isIn_30 c_numbered_31 c_left c_right c_top c_low c_missed) H := hP
      have hD : va_D A (mW o ad kc c_worked_6 c_width c_height c_grey c_setting_32 c_leastOf c_mostOf c_lifted c_squares_7 c_square_8 c_dark_9 c_light_10 c_like_11 c_isCrowded_12 c_pairs_13 c_first_14 c_second_15 c_votes_16 c_shifts_17 c_shiftX_18 c_shiftY_19 c_regionAt_20 c_regions_21 c_regionShift_22 c_regionPairs_23 c_regionFirst_24 c_findings_25 c_regionOf_26 c_offset_27 c_begun_28 c_held_29 c_isIn_30 c_numbered_31 c_left c_right c_top c_low c_missed) := hD
      refine lv_aload_n hx hb dX8_would_57 rfl (lv_at hl 2 rfl) ?_
      refine lv_iload hx hb dX8_would_58 (lv_at hl 0 rfl) ?_
      obtain ⟨r_33, c_worked_34, hq, h⟩ := bd2_e h
      refine cs_Vi (rest := []) (ci := 7) S hN cb_X8_changed ml_X8_100 ⟨Nat.le_of_ble_eq_true rfl, Nat.le_of_ble_eq_true rfl⟩ (c_X8_changed l G kc o ad r_5 hq) hK hP hD hS hA 0 rfl rfl rfl rfl rfl (Nat.le_of_ble_eq_true rfl) hl.1 dX8_would_60 (fun H locs hP hD hS => ?_)
      cases h
      exact ret_i hx hb hr rfl hQ hlocks hK hP hD hS dX8_would_63
    · have h := it_t q_35 h
      refine lv_bipush (v := (-2)) hx hb dX8_would_19 (by decide) ?_
      cases h
      exact ret_i hx hb hr rfl hQ hlocks hK hP hD hS dX8_would_21
