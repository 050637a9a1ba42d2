set_option maxHeartbeats 1000000 in
set_option maxRecDepth 100000 in
theorem c_X8_findPairs (l : Launch) (G : va_G) (kc : Nat → ClassId) (o : Nat) (ad : Nat → Nat) {c_worked : Int32} {c_width : Int32} {c_height : Int32} {c_grey : (Nat → Int32)} {c_setting : (Nat → Int32)} {c_leastOf : (Nat → Int32)} {c_mostOf : (Nat → Int32)} {c_lifted : (Nat → Int32)} {c_squares : Int32} {c_square : (Nat → Int32)} {c_dark : (Nat → Int32)} {c_light : (Nat → Int32)} {c_like : (Nat → Int32)} {c_isCrowded : (Nat → Int32)} {c_pairs : Int32} {c_first : (Nat → Int32)} {c_second : (Nat → Int32)} {c_votes : (Nat → Int32)} {c_shifts : Int32} {c_shiftX : (Nat → Int32)} {c_shiftY : (Nat → Int32)} {c_regionAt : (Nat → Int32)} {c_regions : Int32} {c_regionShift : (Nat → Int32)} {c_regionPairs : (Nat → Int32)} {c_regionFirst : (Nat → Int32)} {c_findings : Int32} {c_regionOf : (Nat → Int32)} {c_offset : (Nat → Int32)} {c_begun : (Nat → Int32)} {c_held : (Nat → Int32)} {c_isIn : (Nat → Int32)} {c_numbered : (Nat → Int32)} {c_left : Int32} {c_right : Int32} {c_top : Int32} {c_low : Int32} {c_missed : Int32}  {c_worked' : Int32} {c_squares' : Int32} {c_square' : (Nat → Int32)} {c_dark' : (Nat → Int32)} {c_light' : (Nat → Int32)} {c_like' : (Nat → Int32)} {c_isCrowded' : (Nat → Int32)} {c_pairs' : Int32} {c_first' : (Nat → Int32)} {c_second' : (Nat → Int32)} {c_votes' : (Nat → Int32)} {FU : Nat} (h : f_X8_findPairs FU c_worked c_width c_height c_grey c_setting c_squares c_square c_dark c_light c_like c_isCrowded c_pairs c_first c_second c_votes = some (c_worked', c_squares', c_square', c_dark', c_light', c_like', c_isCrowded', c_pairs', c_first', c_second', c_votes')) : CTv l G kc yX8_findPairs cX8_findPairs 3 none (rmq 4 93) [.ref o] (mW o ad kc c_worked c_width c_height c_grey c_setting c_leastOf c_mostOf c_lifted c_squares c_square c_dark c_light c_like c_isCrowded c_pairs c_first c_second c_votes c_shifts c_shiftX c_shiftY c_regionAt c_regions c_regionShift c_regionPairs c_regionFirst c_findings c_regionOf c_offset c_begun c_held c_isIn c_numbered c_left c_right c_top c_low c_missed) (mW o ad kc (c_worked') c_width c_height c_grey c_setting c_leastOf c_mostOf c_lifted (c_squares') (c_square') (c_dark') (c_light') (c_like') (c_isCrowded') (c_pairs') (c_first') (c_second') (c_votes') c_shifts c_shiftX c_shiftY c_regionAt c_regions c_regionShift c_regionPairs c_regionFirst c_findings c_regionOf c_offset c_begun c_held c_isIn c_numbered c_left c_right c_top c_low c_missed) := by
  refine CTv.mk (by decide) (Nat.le_of_ble_eq_true rfl) ?_
  intro p e s m args below meth c A ls Q hQ S hr hlocks hN hA hK hl hP hD hS
  have hx := S.1
  have hb := S.2.1
  have hl : lv_has ls 3 [(0, .ref o)] := hl
  unfold f_X8_findPairs at h
  refine lv_aload_n hx hb dX8_findPairs_0 rfl (lv_at hl 0 rfl) ?_
  refine r_get S gf_X8_93 hK hP 0 rfl rfl dX8_findPairs_1 ?_
  refine lv_iconst (v := 1) hx hb dX8_findPairs_4 (by decide) ?_
  refine lv_icmp_le (tgt := 9) hx hb dX8_findPairs_5 (by decide) (fun q_42 => ?_) (fun q_42 => ?_)
  · have h := it_t q_42 h
    refine lv_aload_n hx hb dX8_findPairs_9 rfl (lv_at hl 0 rfl) ?_
    obtain ⟨c_worked_1, c_squares_2, c_square_3, c_dark_4, c_light_5, c_like_6, hq, h⟩ := bd6_e h
    refine cs_Vv (rest := []) (ci := 7) S hN cb_X8_findSquares ml_X8_140 ⟨Nat.le_of_ble_eq_true rfl, Nat.le_of_ble_eq_true rfl⟩ (c_X8_findSquares l G kc o ad  hq) hK hP hD hS hA 0 rfl rfl rfl rfl rfl (Nat.le_of_ble_eq_true rfl) hl.1 dX8_findPairs_10 (fun H locs hP hD hS => ?_)
    refine lv_aload_n hx hb dX8_findPairs_13 rfl (lv_at hl 0 rfl) ?_
    refine lv_iconst (v := 2) hx hb dX8_findPairs_14 (by decide) ?_
    refine r_put S pf_X8_93 hK hP hD hS 0 rfl (Nat.le_of_ble_eq_true rfl) dX8_findPairs_15 (fun H locs hP hD hS => ?_)
    have hP : VP G (mW o ad kc 2 c_width c_height c_grey c_setting c_leastOf c_mostOf c_lifted c_squares_2 c_square_3 c_dark_4 c_light_5 c_like_6 c_isCrowded c_pairs c_first c_second c_votes c_shifts c_shiftX c_shiftY c_regionAt c_regions c_regionShift c_regionPairs c_regionFirst c_findings c_regionOf c_offset c_begun c_held c_isIn c_numbered c_left c_right c_top c_low c_missed) H := hP
    have hD : va_D A (mW o ad kc 2 c_width c_height c_grey c_setting c_leastOf c_mostOf c_lifted c_squares_2 c_square_3 c_dark_4 c_light_5 c_like_6 c_isCrowded c_pairs c_first c_second c_votes c_shifts c_shiftX c_shiftY c_regionAt c_regions c_regionShift c_regionPairs c_regionFirst c_findings c_regionOf c_offset c_begun c_held c_isIn c_numbered c_left c_right c_top c_low c_missed) := hD
    refine lv_aload_n hx hb dX8_findPairs_18 rfl (lv_at hl 0 rfl) ?_
    obtain ⟨c_isCrowded_7, hq, h⟩ := bd1_e h
    refine cs_Vv (rest := []) (ci := 7) S hN cb_X8_findCrowds ml_X8_161 ⟨Nat.le_of_ble_eq_true rfl, Nat.le_of_ble_eq_true rfl⟩ (c_X8_findCrowds l G kc o ad  hq) hK hP hD hS hA 0 rfl rfl rfl rfl rfl (Nat.le_of_ble_eq_true rfl) hl.1 dX8_findPairs_19 (fun H locs hP hD hS => ?_)
    refine lv_aload_n hx hb dX8_findPairs_22 rfl (lv_at hl 0 rfl) ?_
    refine lv_iconst (v := 0) hx hb dX8_findPairs_23 (by decide) ?_
    refine r_put S pf_X8_149 hK hP hD hS 0 rfl (Nat.le_of_ble_eq_true rfl) dX8_findPairs_24 (fun H locs hP hD hS => ?_)
    have hP : VP G (mW o ad kc 2 c_width c_height c_grey c_setting c_leastOf c_mostOf c_lifted c_squares_2 c_square_3 c_dark_4 c_light_5 c_like_6 c_isCrowded_7 0 c_first c_second c_votes c_shifts c_shiftX c_shiftY c_regionAt c_regions c_regionShift c_regionPairs c_regionFirst c_findings c_regionOf c_offset c_begun c_held c_isIn c_numbered c_left c_right c_top c_low c_missed) H := hP
    have hD : va_D A (mW o ad kc 2 c_width c_height c_grey c_setting c_leastOf c_mostOf c_lifted c_squares_2 c_square_3 c_dark_4 c_light_5 c_like_6 c_isCrowded_7 0 c_first c_second c_votes c_shifts c_shiftX c_shiftY c_regionAt c_regions c_regionShift c_regionPairs c_regionFirst c_findings c_regionOf c_offset c_begun c_held c_isIn c_numbered c_left c_right c_top c_low c_missed) := hD
    refine lv_iconst (v := 0) hx hb dX8_findPairs_27 (by decide) ?_
    refine lv_istore_n (lv' := [(1, .int 0), (0, .ref o)]) hx hb dX8_findPairs_28 rfl hl (by decide) rfl (fun ls hl => ?_)
    refine jn_w (t := fun k => f_X8_findPairs_L29 FU  k FU 0 c_votes) (fun (k : Int32 → (Nat → Int32) → Option (Int32 × Int32 × (Nat → Int32) × (Nat → Int32) × (Nat → Int32) × (Nat → Int32) × (Nat → Int32) × Int32 × (Nat → Int32) × (Nat → Int32) × (Nat → Int32))) => ∀ (x1_8 : Int32) (c_votes_9 : (Nat → Int32)) (H : Heap) (locs : List Loc) (ls : Array Slot), VP G (mW o ad kc 2 c_width c_height c_grey c_setting c_leastOf c_mostOf c_lifted c_squares_2 c_square_3 c_dark_4 c_light_5 c_like_6 c_isCrowded_7 0 c_first c_second c_votes_9 c_shifts c_shiftX c_shiftY c_regionAt c_regions c_regionShift c_regionPairs c_regionFirst c_findings c_regionOf c_offset c_begun c_held c_isIn c_numbered c_left c_right c_top c_low c_missed) H → va_D A (mW o ad kc 2 c_width c_height c_grey c_setting c_leastOf c_mostOf c_lifted c_squares_2 c_square_3 c_dark_4 c_light_5 c_like_6 c_isCrowded_7 0 c_first c_second c_votes_9 c_shifts c_shiftX c_shiftY c_regionAt c_regions c_regionShift c_regionPairs c_regionFirst c_findings c_regionOf c_offset c_begun c_held c_isIn c_numbered c_left c_right c_top c_low c_missed) → va_S A s.heap H locs → lv_has ls 3 [(0, .ref o)] → k x1_8 c_votes_9 = some (c_worked', c_squares', c_square', c_dark', c_light', c_like', c_isCrowded', c_pairs', c_first', c_second', c_votes') → WW p l e (rmq 4 93) s m args below meth c Q H locs 51 ls []) h ?_ ?_
    · intro x1_8 c_votes_9 H locs ls hP hD hS hl h
      refine lv_iconst (v := 0) hx hb dX8_findPairs_51 (by decide) ?_
      refine lv_istore_n (lv' := [(1, .int 0), (0, .ref o)]) hx hb dX8_findPairs_52 rfl hl (by decide) rfl (fun ls hl => ?_)
      refine jn_w (t := fun k => f_X8_findPairs_L53 FU c_setting c_squares_2 c_square_3 c_dark_4 c_light_5 c_like_6 c_isCrowded_7 k FU 0 0 c_first c_second c_votes_9) (fun (k : Int32 → Int32 → (Nat → Int32) → (Nat → Int32) → (Nat → Int32) → Option (Int32 × Int32 × (Nat → Int32) × (Nat → Int32) × (Nat → Int32) × (Nat → Int32) × (Nat → Int32) × Int32 × (Nat → Int32) × (Nat → Int32) × (Nat → Int32))) => ∀ (x1_13 : Int32) (c_pairs_14 : Int32) (c_first_15 : (Nat → Int32)) (c_second_16 : (Nat → Int32)) (c_votes_17 : (Nat → Int32)) (H : Heap) (locs : List Loc) (ls : Array Slot), VP G (mW o ad kc 2 c_width c_height c_grey c_setting c_leastOf c_mostOf c_lifted c_squares_2 c_square_3 c_dark_4 c_light_5 c_like_6 c_isCrowded_7 c_pairs_14 c_first_15 c_second_16 c_votes_17 c_shifts c_shiftX c_shiftY c_regionAt c_regions c_regionShift c_regionPairs c_regionFirst c_findings c_regionOf c_offset c_begun c_held c_isIn c_numbered c_left c_right c_top c_low c_missed) H → va_D A (mW o ad kc 2 c_width c_height c_grey c_setting c_leastOf c_mostOf c_lifted c_squares_2 c_square_3 c_dark_4 c_light_5 c_like_6 c_isCrowded_7 c_pairs_14 c_first_15 c_second_16 c_votes_17 c_shifts c_shiftX c_shiftY c_regionAt c_regions c_regionShift c_regionPairs c_regionFirst c_findings c_regionOf c_offset c_begun c_held c_isIn c_numbered c_left c_right c_top c_low c_missed) → va_S A s.heap H locs → lv_has ls 3 [] → k x1_13 c_pairs_14 c_first_15 c_second_16 c_votes_17 = some (c_worked', c_squares', c_square', c_dark', c_light', c_like', c_isCrowded', c_pairs', c_first', c_second', c_votes') → WW p l e (rmq 4 93) s m args below meth c Q H locs 148 ls []) h ?_ ?_
      · intro x1_13 c_pairs_14 c_first_15 c_second_16 c_votes_17 H locs ls hP hD hS hl h
        cases h
        exact ret_v hx hb hr hQ hlocks hK hP hD hS dX8_findPairs_148
      · intro k_18 K_19 h
        have L_20 : ∀ (n : Nat) (x1_13 : Int32) (c_pairs_14 : Int32) (c_first_15 : (Nat → Int32)) (c_second_16 : (Nat → Int32)) (c_votes_17 : (Nat → Int32)) (H : Heap) (locs : List Loc) (ls : Array Slot), VP G (mW o ad kc 2 c_width c_height c_grey c_setting c_leastOf c_mostOf c_lifted c_squares_2 c_square_3 c_dark_4 c_light_5 c_like_6 c_isCrowded_7 c_pairs_14 c_first_15 c_second_16 c_votes_17 c_shifts c_shiftX c_shiftY c_regionAt c_regions c_regionShift c_regionPairs c_regionFirst c_findings c_regionOf c_offset c_begun c_held c_isIn c_numbered c_left c_right c_top c_low c_missed) H → va_D A (mW o ad kc 2 c_width c_height c_grey c_setting c_leastOf c_mostOf c_lifted c_squares_2 c_square_3 c_dark_4 c_light_5 c_like_6 c_isCrowded_7 c_pairs_14 c_first_15 c_second_16 c_votes_17 c_shifts c_shiftX c_shiftY c_regionAt c_regions c_regionShift c_regionPairs c_regionFirst c_findings c_regionOf c_offset c_begun c_held c_isIn c_numbered c_left c_right c_top c_low c_missed) → va_S A s.heap H locs → lv_has ls 3 [(0, .ref o), (1, .int x1_13)] → f_X8_findPairs_L53 FU c_setting c_squares_2 c_square_3 c_dark_4 c_light_5 c_like_6 c_isCrowded_7 k_18 n x1_13 c_pairs_14 c_first_15 c_second_16 c_votes_17 = some (c_worked', c_squares', c_square', c_dark', c_light', c_like', c_isCrowded', c_pairs', c_first', c_second', c_votes') → WW p l e (rmq 4 93) s m args below meth c Q H locs 53 ls [] := by
          intro n
          induction n with
          | zero => intro x1_13 c_pairs_14 c_first_15 c_second_16 c_votes_17 H locs ls hP hD hS hl h; rw [f_X8_findPairs_L53] at h; cases h
          | succ n ih =>
            intro x1_13 c_pairs_14 c_first_15 c_second_16 c_votes_17 H locs ls hP hD hS hl h
            rw [f_X8_findPairs_L53] at h
            refine lv_iload_n hx hb dX8_findPairs_53 rfl (lv_at hl 1 rfl) ?_
            refine lv_aload_n hx hb dX8_findPairs_54 rfl (lv_at hl 0 rfl) ?_
            refine r_get S gf_X8_126 hK hP 0 rfl rfl dX8_findPairs_55 ?_
            refine lv_icmp_ge (tgt := 148) hx hb dX8_findPairs_58 (by decide) (fun q_39 => ?_) (fun q_39 => ?_)
            · have h := it_t q_39 h
              exact K_19 x1_13 c_pairs_14 c_first_15 c_second_16 c_votes_17 _ _ _ hP hD hS (lv_sub hl [] rfl) h
            · have h := it_f q_39 h
              refine lv_iload_n hx hb dX8_findPairs_61 rfl (lv_at hl 1 rfl) ?_
              refine lv_iconst (v := 1) hx hb dX8_findPairs_62 (by decide) ?_
              refine lv_iadd hx hb dX8_findPairs_63 ?_
              refine lv_istore_n (lv' := [(2, .int (x1_13 + 1)), (0, .ref o), (1, .int x1_13)]) hx hb dX8_findPairs_64 rfl hl (by decide) rfl (fun ls hl => ?_)
              refine jn_w (t := fun k => f_X8_findPairs_L65 FU x1_13 c_setting c_squares_2 c_square_3 c_dark_4 c_light_5 c_like_6 c_isCrowded_7 k FU (x1_13 + 1) c_pairs_14 c_first_15 c_second_16 c_votes_17) (fun (k : Int32 → Int32 → (Nat → Int32) → (Nat → Int32) → (Nat → Int32) → Option (Int32 × Int32 × (Nat → Int32) × (Nat → Int32) × (Nat → Int32) × (Nat → Int32) × (Nat → Int32) × Int32 × (Nat → Int32) × (Nat → Int32) × (Nat → Int32))) => ∀ (x2_21 : Int32) (c_pairs_22 : Int32) (c_first_23 : (Nat → Int32)) (c_second_24 : (Nat → Int32)) (c_votes_25 : (Nat → Int32)) (H : Heap) (locs : List Loc) (ls : Array Slot), VP G (mW o ad kc 2 c_width c_height c_grey c_setting c_leastOf c_mostOf c_lifted c_squares_2 c_square_3 c_dark_4 c_light_5 c_like_6 c_isCrowded_7 c_pairs_22 c_first_23 c_second_24 c_votes_25 c_shifts c_shiftX c_shiftY c_regionAt c_regions c_regionShift c_regionPairs c_regionFirst c_findings c_regionOf c_offset c_begun c_held c_isIn c_numbered c_left c_right c_top c_low c_missed) H → va_D A (mW o ad kc 2 c_width c_height c_grey c_setting c_leastOf c_mostOf c_lifted c_squares_2 c_square_3 c_dark_4 c_light_5 c_like_6 c_isCrowded_7 c_pairs_22 c_first_23 c_second_24 c_votes_25 c_shifts c_shiftX c_shiftY c_regionAt c_regions c_regionShift c_regionPairs c_regionFirst c_findings c_regionOf c_offset c_begun c_held c_isIn c_numbered c_left c_right c_top c_low c_missed) → va_S A s.heap H locs → lv_has ls 3 [(0, .ref o), (1, .int x1_13)] → k x2_21 c_pairs_22 c_first_23 c_second_24 c_votes_25 = some (c_worked', c_squares', c_square', c_dark', c_light', c_like', c_isCrowded', c_pairs', c_first', c_second', c_votes') → WW p l e (rmq 4 93) s m args below meth c Q H locs 142 ls []) h ?_ ?_
              · intro x2_21 c_pairs_22 c_first_23 c_second_24 c_votes_25 H locs ls hP hD hS hl h
                refine lv_iinc (v := (x1_13 + 1)) (lv' := [(1, .int (x1_13 + 1)), (0, .ref o)]) hx hb dX8_findPairs_142 hl (k := 1) rfl rfl (by decide) rfl (fun ls hl => ?_)
                refine lv_goto (tgt := 53) hx hb dX8_findPairs_145 (by decide) ?_
                exact ih (x1_13 + 1) c_pairs_22 c_first_23 c_second_24 c_votes_25 _ _ _ hP hD hS (lv_sub hl [1, 0] rfl) h
              · intro k_26 K_27 h
                have L_28 : ∀ (n : Nat) (x2_21 : Int32) (c_pairs_22 : Int32) (c_first_23 : (Nat → Int32)) (c_second_24 : (Nat → Int32)) (c_votes_25 : (Nat → Int32)) (H : Heap) (locs : List Loc) (ls : Array Slot), VP G (mW o ad kc 2 c_width c_height c_grey c_setting c_leastOf c_mostOf c_lifted c_squares_2 c_square_3 c_dark_4 c_light_5 c_like_6 c_isCrowded_7 c_pairs_22 c_first_23 c_second_24 c_votes_25 c_shifts c_shiftX c_shiftY c_regionAt c_regions c_regionShift c_regionPairs c_regionFirst c_findings c_regionOf c_offset c_begun c_held c_isIn c_numbered c_left c_right c_top c_low c_missed) H → va_D A (mW o ad kc 2 c_width c_height c_grey c_setting c_leastOf c_mostOf c_lifted c_squares_2 c_square_3 c_dark_4 c_light_5 c_like_6 c_isCrowded_7 c_pairs_22 c_first_23 c_second_24 c_votes_25 c_shifts c_shiftX c_shiftY c_regionAt c_regions c_regionShift c_regionPairs c_regionFirst c_findings c_regionOf c_offset c_begun c_held c_isIn c_numbered c_left c_right c_top c_low c_missed) → va_S A s.heap H locs → lv_has ls 3 [(0, .ref o), (1, .int x1_13), (2, .int x2_21)] → f_X8_findPairs_L65 FU x1_13 c_setting c_squares_2 c_square_3 c_dark_4 c_light_5 c_like_6 c_isCrowded_7 k_26 n x2_21 c_pairs_22 c_first_23 c_second_24 c_votes_25 = some (c_worked', c_squares', c_square', c_dark', c_light', c_like', c_isCrowded', c_pairs', c_first', c_second', c_votes') → WW p l e (rmq 4 93) s m args below meth c Q H locs 65 ls [] := by
                  intro n
                  induction n with
                  | zero => intro x2_21 c_pairs_22 c_first_23 c_second_24 c_votes_25 H locs ls hP hD hS hl h; rw [f_X8_findPairs_L65] at h; cases h
                  | succ n ih =>
                    intro x2_21 c_pairs_22 c_first_23 c_second_24 c_votes_25 H locs ls hP hD hS hl h
                    rw [f_X8_findPairs_L65] at h
                    refine lv_iload_n hx hb dX8_findPairs_65 rfl (lv_at hl 2 rfl) ?_
                    refine lv_aload_n hx hb dX8_findPairs_66 rfl (lv_at hl 0 rfl) ?_
                    refine r_get S gf_X8_126 hK hP 0 rfl rfl dX8_findPairs_67 ?_
                    refine lv_icmp_ge (tgt := 142) hx hb dX8_findPairs_70 (by decide) (fun q_38 => ?_) (fun q_38 => ?_)
                    · have h := it_t q_38 h
                      exact K_27 x2_21 c_pairs_22 c_first_23 c_second_24 c_votes_25 _ _ _ hP hD hS (lv_sub hl [0, 1] rfl) h
                    · have h := it_f q_38 h
                      refine lv_aload_n hx hb dX8_findPairs_73 rfl (lv_at hl 0 rfl) ?_
                      refine lv_iload_n hx hb dX8_findPairs_74 rfl (lv_at hl 1 rfl) ?_
                      refine lv_iload_n hx hb dX8_findPairs_75 rfl (lv_at hl 2 rfl) ?_
                      obtain ⟨r_29, hq, h⟩ := bd1_e h
                      refine cs_Vi (rest := []) (ci := 7) S hN cb_X8_isPair ml_X8_164 ⟨Nat.le_of_ble_eq_true rfl, Nat.le_of_ble_eq_true rfl⟩ (c_X8_isPair l G kc o ad x1_13 x2_21 hq) hK hP hD hS hA 0 rfl rfl rfl rfl rfl (Nat.le_of_ble_eq_true rfl) hl.1 dX8_findPairs_76 (fun H locs hP hD hS => ?_)
                      refine lv_if_eq (tgt := 136) hx hb dX8_findPairs_79 (by decide) (fun q_37 => ?_) (fun q_37 => ?_)
                      · have h := it_t q_37 h
                        refine lv_iinc (v := (x2_21 + 1)) (lv' := [(2, .int (x2_21 + 1)), (0, .ref o), (1, .int x1_13)]) hx hb dX8_findPairs_136 hl (k := 2) rfl rfl (by decide) rfl (fun ls hl => ?_)
                        refine lv_goto (tgt := 65) hx hb dX8_findPairs_139 (by decide) ?_
                        exact ih (x2_21 + 1) c_pairs_22 c_first_23 c_second_24 c_votes_25 _ _ _ hP hD hS (lv_sub hl [1, 2, 0] rfl) h
                      · have h := it_f q_37 h
                        refine lv_aload_n hx hb dX8_findPairs_82 rfl (lv_at hl 0 rfl) ?_
                        refine r_get S gf_X8_48 hK hP 0 rfl rfl dX8_findPairs_83 ?_
                        refine lv_aload_n hx hb dX8_findPairs_86 rfl (lv_at hl 0 rfl) ?_
                        refine r_get S gf_X8_149 hK hP 0 rfl rfl dX8_findPairs_87 ?_
                        refine lv_iload_n hx hb dX8_findPairs_90 rfl (lv_at hl 1 rfl) ?_
                        refine r_iast hx hb hK hP hD hS 11 rfl dX8_findPairs_91 h (fun c_first_30 H locs hP hD hS h => ?_)
                        have hP : VP G (mW o ad kc 2 c_width c_height c_grey c_setting c_leastOf c_mostOf c_lifted c_squares_2 c_square_3 c_dark_4 c_light_5 c_like_6 c_isCrowded_7 c_pairs_22 c_first_30 c_second_24 c_votes_25 c_shifts c_shiftX c_shiftY c_regionAt c_regions c_regionShift c_regionPairs c_regionFirst c_findings c_regionOf c_offset c_begun c_held c_isIn c_numbered c_left c_right c_top c_low c_missed) H := hP
                        have hD : va_D A (mW o ad kc 2 c_width c_height c_grey c_setting c_leastOf c_mostOf c_lifted c_squares_2 c_square_3 c_dark_4 c_light_5 c_like_6 c_isCrowded_7 c_pairs_22 c_first_30 c_second_24 c_votes_25 c_shifts c_shiftX c_shiftY c_regionAt c_regions c_regionShift c_regionPairs c_regionFirst c_findings c_regionOf c_offset c_begun c_held c_isIn c_numbered c_left c_right c_top c_low c_missed) := hD
                        refine lv_aload_n hx hb dX8_findPairs_92 rfl (lv_at hl 0 rfl) ?_
                        refine r_get S gf_X8_51 hK hP 0 rfl rfl dX8_findPairs_93 ?_
                        refine lv_aload_n hx hb dX8_findPairs_96 rfl (lv_at hl 0 rfl) ?_
                        refine r_get S gf_X8_149 hK hP 0 rfl rfl dX8_findPairs_97 ?_
                        refine lv_iload_n hx hb dX8_findPairs_100 rfl (lv_at hl 2 rfl) ?_
                        refine r_iast hx hb hK hP hD hS 12 rfl dX8_findPairs_101 h (fun c_second_31 H locs hP hD hS h => ?_)
                        have hP : VP G (mW o ad kc 2 c_width c_height c_grey c_setting c_leastOf c_mostOf c_lifted c_squares_2 c_square_3 c_dark_4 c_light_5 c_like_6 c_isCrowded_7 c_pairs_22 c_first_30 c_second_31 c_votes_25 c_shifts c_shiftX c_shiftY c_regionAt c_regions c_regionShift c_regionPairs c_regionFirst c_findings c_regionOf c_offset c_begun c_held c_isIn c_numbered c_left c_right c_top c_low c_missed) H := hP
                        have hD : va_D A (mW o ad kc 2 c_width c_height c_grey c_setting c_leastOf c_mostOf c_lifted c_squares_2 c_square_3 c_dark_4 c_light_5 c_like_6 c_isCrowded_7 c_pairs_22 c_first_30 c_second_31 c_votes_25 c_shifts c_shiftX c_shiftY c_regionAt c_regions c_regionShift c_regionPairs c_regionFirst c_findings c_regionOf c_offset c_begun c_held c_isIn c_numbered c_left c_right c_top c_low c_missed) := hD
                        refine lv_aload_n hx hb dX8_findPairs_102 rfl (lv_at hl 0 rfl) ?_
                        refine lv_dup hx hb dX8_findPairs_103 rfl ?_
                        refine r_get S gf_X8_149 hK hP 0 rfl rfl dX8_findPairs_104 ?_
                        refine lv_iconst (v := 1) hx hb dX8_findPairs_107 (by decide) ?_
                        refine lv_iadd hx hb dX8_findPairs_108 ?_
                        refine r_put S pf_X8_149 hK hP hD hS 0 rfl (Nat.le_of_ble_eq_true rfl) dX8_findPairs_109 (fun H locs hP hD hS => ?_)
                        have hP : VP G (mW o ad kc 2 c_width c_height c_grey c_setting c_leastOf c_mostOf c_lifted c_squares_2 c_square_3 c_dark_4 c_light_5 c_like_6 c_isCrowded_7 (c_pairs_22 + 1) c_first_30 c_second_31 c_votes_25 c_shifts c_shiftX c_shiftY c_regionAt c_regions c_regionShift c_regionPairs c_regionFirst c_findings c_regionOf c_offset c_begun c_held c_isIn c_numbered c_left c_right c_top c_low c_missed) H := hP
                        have hD : va_D A (mW o ad kc 2 c_width c_height c_grey c_setting c_leastOf c_mostOf c_lifted c_squares_2 c_square_3 c_dark_4 c_light_5 c_like_6 c_isCrowded_7 (c_pairs_22 + 1) c_first_30 c_second_31 c_votes_25 c_shifts c_shiftX c_shiftY c_regionAt c_regions c_regionShift c_regionPairs c_regionFirst c_findings c_regionOf c_offset c_begun c_held c_isIn c_numbered c_left c_right c_top c_low c_missed) := hD
                        refine lv_aload_n hx hb dX8_findPairs_112 rfl (lv_at hl 0 rfl) ?_
                        refine r_get S gf_X8_54 hK hP 0 rfl rfl dX8_findPairs_113 ?_
                        refine lv_aload_n hx hb dX8_findPairs_116 rfl (lv_at hl 0 rfl) ?_
                        refine lv_iload_n hx hb dX8_findPairs_117 rfl (lv_at hl 1 rfl) ?_
                        refine lv_iload_n hx hb dX8_findPairs_118 rfl (lv_at hl 2 rfl) ?_
                        obtain ⟨r_32, hq, h⟩ := bd1_e h
                        refine cs_Vi (rest := [.ref (ad 17)]) (ci := 7) S hN cb_X8_across ml_X8_152 ⟨Nat.le_of_ble_eq_true rfl, Nat.le_of_ble_eq_true rfl⟩ (c_X8_across l G kc o ad x1_13 x2_21 hq) hK hP hD hS hA 0 rfl rfl rfl rfl rfl (Nat.le_of_ble_eq_true rfl) hl.1 dX8_findPairs_119 (fun H locs hP hD hS => ?_)
                        refine lv_aload_n hx hb dX8_findPairs_122 rfl (lv_at hl 0 rfl) ?_
                        refine lv_iload_n hx hb dX8_findPairs_123 rfl (lv_at hl 1 rfl) ?_
                        refine lv_iload_n hx hb dX8_findPairs_124 rfl (lv_at hl 2 rfl) ?_
                        obtain ⟨r_33, hq, h⟩ := bd1_e h
                        refine cs_Vi (rest := [.int r_32, .ref (ad 17)]) (ci := 7) S hN cb_X8_down ml_X8_158 ⟨Nat.le_of_ble_eq_true rfl, Nat.le_of_ble_eq_true rfl⟩ (c_X8_down l G kc o ad x1_13 x2_21 hq) hK hP hD hS hA 0 rfl rfl rfl rfl rfl (Nat.le_of_ble_eq_true rfl) hl.1 dX8_findPairs_125 (fun H locs hP hD hS => ?_)
                        obtain ⟨r_34, hq, h⟩ := bd1_e h
                        refine cp_Si (rest := [.ref (ad 17)]) [] S hN cb_X8_voteAt ml_X8_167 ⟨Nat.le_of_ble_eq_true rfl, Nat.le_of_ble_eq_true rfl⟩ (c_X8_voteAt l G kc r_32 r_33 hq) hK hP hD hS hA rfl rfl rfl rfl rfl (Nat.le_of_ble_eq_true rfl) hl.1 dX8_findPairs_128 (fun H locs hP hD hS => ?_)
                        have hP : VP G (mW o ad kc 2 c_width c_height c_grey c_setting c_leastOf c_mostOf c_lifted c_squares_2 c_square_3 c_dark_4 c_light_5 c_like_6 c_isCrowded_7 (c_pairs_22 + 1) c_first_30 c_second_31 c_votes_25 c_shifts c_shiftX c_shiftY c_regionAt c_regions c_regionShift c_regionPairs c_regionFirst c_findings c_regionOf c_offset c_begun c_held c_isIn c_numbered c_left c_right c_top c_low c_missed) H := hP
                        have hD : va_D A (mW o ad kc 2 c_width c_height c_grey c_setting c_leastOf c_mostOf c_lifted c_squares_2 c_square_3 c_dark_4 c_light_5 c_like_6 c_isCrowded_7 (c_pairs_22 + 1) c_first_30 c_second_31 c_votes_25 c_shifts c_shiftX c_shiftY c_regionAt c_regions c_regionShift c_regionPairs c_regionFirst c_findings c_regionOf c_offset c_begun c_held c_isIn c_numbered c_left c_right c_top c_low c_missed) := hD
                        refine lv_dup2_11 hx hb dX8_findPairs_131 rfl rfl ?_
                        refine r_iald hx hb hK hP 13 rfl dX8_findPairs_132 h (fun y_35 h => ?_)
                        refine lv_iconst (v := 1) hx hb dX8_findPairs_133 (by decide) ?_
                        refine lv_iadd hx hb dX8_findPairs_134 ?_
                        refine r_iast hx hb hK hP hD hS 13 rfl dX8_findPairs_135 h (fun c_votes_36 H locs hP hD hS h => ?_)
                        have hP : VP G (mW o ad kc 2 c_width c_height c_grey c_setting c_leastOf c_mostOf c_lifted c_squares_2 c_square_3 c_dark_4 c_light_5 c_like_6 c_isCrowded_7 (c_pairs_22 + 1) c_first_30 c_second_31 c_votes_36 c_shifts c_shiftX c_shiftY c_regionAt c_regions c_regionShift c_regionPairs c_regionFirst c_findings c_regionOf c_offset c_begun c_held c_isIn c_numbered c_left c_right c_top c_low c_missed) H := hP
                        have hD : va_D A (mW o ad kc 2 c_width c_height c_grey c_setting c_leastOf c_mostOf c_lifted c_squares_2 c_square_3 c_dark_4 c_light_5 c_like_6 c_isCrowded_7 (c_pairs_22 + 1) c_first_30 c_second_31 c_votes_36 c_shifts c_shiftX c_shiftY c_regionAt c_regions c_regionShift c_regionPairs c_regionFirst c_findings c_regionOf c_offset c_begun c_held c_isIn c_numbered c_left c_right c_top c_low c_missed) := hD
                        refine lv_iinc (v := (x2_21 + 1)) (lv' := [(2, .int (x2_21 + 1)), (0, .ref o), (1, .int x1_13)]) hx hb dX8_findPairs_136 hl (k := 2) rfl rfl (by decide) rfl (fun ls hl => ?_)
                        refine lv_goto (tgt := 65) hx hb dX8_findPairs_139 (by decide) ?_
                        exact ih (x2_21 + 1) (c_pairs_22 + 1) c_first_30 c_second_31 c_votes_36 _ _ _ hP hD hS (lv_sub hl [1, 2, 0] rfl) h
                exact L_28 FU (x1_13 + 1) c_pairs_14 c_first_15 c_second_16 c_votes_17 _ _ _ hP hD hS (lv_sub hl [1, 2, 0] rfl) h
        exact L_20 FU 0 0 c_first c_second c_votes_9 _ _ _ hP hD hS (lv_sub hl [1, 0] rfl) h
    · intro k_10 K_11 h
      have L_12 : ∀ (n : Nat) (x1_8 : Int32) (c_votes_9 : (Nat → Int32)) (H : Heap) (locs : List Loc) (ls : Array Slot), VP G (mW o ad kc 2 c_width c_height c_grey c_setting c_leastOf c_mostOf c_lifted c_squares_2 c_square_3 c_dark_4 c_light_5 c_like_6 c_isCrowded_7 0 c_first c_second c_votes_9 c_shifts c_shiftX c_shiftY c_regionAt c_regions c_regionShift c_regionPairs c_regionFirst c_findings c_regionOf c_offset c_begun c_held c_isIn c_numbered c_left c_right c_top c_low c_missed) H → va_D A (mW o ad kc 2 c_width c_height c_grey c_setting c_leastOf c_mostOf c_lifted c_squares_2 c_square_3 c_dark_4 c_light_5 c_like_6 c_isCrowded_7 0 c_first c_second c_votes_9 c_shifts c_shiftX c_shiftY c_regionAt c_regions c_regionShift c_regionPairs c_regionFirst c_findings c_regionOf c_offset c_begun c_held c_isIn c_numbered c_left c_right c_top c_low c_missed) → va_S A s.heap H locs → lv_has ls 3 [(0, .ref o), (1, .int x1_8)] → f_X8_findPairs_L29 FU  k_10 n x1_8 c_votes_9 = some (c_worked', c_squares', c_square', c_dark', c_light', c_like', c_isCrowded', c_pairs', c_first', c_second', c_votes') → WW p l e (rmq 4 93) s m args below meth c Q H locs 29 ls [] := by
        intro n
        induction n with
        | zero => intro x1_8 c_votes_9 H locs ls hP hD hS hl h; rw [f_X8_findPairs_L29] at h; cases h
        | succ n ih =>
          intro x1_8 c_votes_9 H locs ls hP hD hS hl h
          rw [f_X8_findPairs_L29] at h
          refine lv_iload_n hx hb dX8_findPairs_29 rfl (lv_at hl 1 rfl) ?_
          refine lv_aload_n hx hb dX8_findPairs_30 rfl (lv_at hl 0 rfl) ?_
          refine r_get S gf_X8_54 hK hP 0 rfl rfl dX8_findPairs_31 ?_
          refine va_alen hx hb hK hP 13 0 rfl rfl (v := 496) rfl dX8_findPairs_34 ?_
          refine lv_icmp_ge (tgt := 51) hx hb dX8_findPairs_35 (by decide) (fun q_41 => ?_) (fun q_41 => ?_)
          · have h := it_t q_41 h
            exact K_11 x1_8 c_votes_9 _ _ _ hP hD hS (lv_sub hl [0] rfl) h
          · have h := it_f q_41 h
            refine lv_aload_n hx hb dX8_findPairs_38 rfl (lv_at hl 0 rfl) ?_
            refine r_get S gf_X8_54 hK hP 0 rfl rfl dX8_findPairs_39 ?_
            refine lv_iload_n hx hb dX8_findPairs_42 rfl (lv_at hl 1 rfl) ?_
            refine lv_iconst (v := 0) hx hb dX8_findPairs_43 (by decide) ?_
            refine r_iast hx hb hK hP hD hS 13 rfl dX8_findPairs_44 h (fun c_votes_40 H locs hP hD hS h => ?_)
            have hP : VP G (mW o ad kc 2 c_width c_height c_grey c_setting c_leastOf c_mostOf c_lifted c_squares_2 c_square_3 c_dark_4 c_light_5 c_like_6 c_isCrowded_7 0 c_first c_second c_votes_40 c_shifts c_shiftX c_shiftY c_regionAt c_regions c_regionShift c_regionPairs c_regionFirst c_findings c_regionOf c_offset c_begun c_held c_isIn c_numbered c_left c_right c_top c_low c_missed) H := hP
            have hD : va_D A (mW o ad kc 2 c_width c_height c_grey c_setting c_leastOf c_mostOf c_lifted c_squares_2 c_square_3 c_dark_4 c_light_5 c_like_6 c_isCrowded_7 0 c_first c_second c_votes_40 c_shifts c_shiftX c_shiftY c_regionAt c_regions c_regionShift c_regionPairs c_regionFirst c_findings c_regionOf c_offset c_begun c_held c_isIn c_numbered c_left c_right c_top c_low c_missed) := hD
            refine lv_iinc (v := (x1_8 + 1)) (lv' := [(1, .int (x1_8 + 1)), (0, .ref o)]) hx hb dX8_findPairs_45 hl (k := 1) rfl rfl (by decide) rfl (fun ls hl => ?_)
            refine lv_goto (tgt := 29) hx hb dX8_findPairs_48 (by decide) ?_
            exact ih (x1_8 + 1) c_votes_40 _ _ _ hP hD hS (lv_sub hl [1, 0] rfl) h
      exact L_12 FU 0 c_votes _ _ _ hP hD hS (lv_sub hl [1, 0] rfl) h
  · have h := it_f q_42 h
    cases h
    exact ret_v hx hb hr hQ hlocks hK hP hD hS dX8_findPairs_8
set_option maxHeartbeats 1000000 in
set_option maxRecDepth 100000 in
theorem c_X8_square (l : Launch) (G : va_G) (kc : Nat → ClassId) (o : Nat) (ad : Nat → Nat) {c_worked : Int32} {c_width : Int32} {c_height : Int32} {c_grey : (Nat → Int32)} {c_setting : (Nat → Int32)} {c_leastOf : (Nat → Int32)} {c_mostOf : (Nat → Int32)} {c_lifted : (Nat → Int32)} {c_squares : Int32} {c_square : (Nat → Int32)} {c_dark : (Nat → Int32)} {c_light : (Nat → Int32)} {c_like : (Nat → Int32)} {c_isCrowded : (Nat → Int32)} {c_pairs : Int32} {c_first : (Nat → Int32)} {c_second : (Nat → Int32)} {c_votes : (Nat → Int32)} {c_shifts : Int32} {c_shiftX : (Nat → Int32)} {c_shiftY : (Nat → Int32)} {c_regionAt : (Nat → Int32)} {c_regions : Int32} {c_regionShift : (Nat → Int32)} {c_regionPairs : (Nat → Int32)} {c_regionFirst : (Nat → Int32)} {c_findings : Int32} {c_regionOf : (Nat → Int32)} {c_offset : (Nat → Int32)} {c_begun : (Nat → Int32)} {c_held : (Nat → Int32)} {c_isIn : (Nat → Int32)} {c_numbered : (Nat → Int32)} {c_left : Int32} {c_right : Int32} {c_top : Int32} {c_low : Int32} {c_missed : Int32} (x1 : Int32) (x2 : Int32) (x3 : Int32) {r : Int32} {c_worked' : Int32} {c_squares' : Int32} {c_square' : (Nat → Int32)} {c_dark' : (Nat → Int32)} {c_light' : (Nat → Int32)} {c_like' : (Nat → Int32)} {c_isCrowded' : (Nat → Int32)} {c_pairs' : Int32} {c_first' : (Nat → Int32)} {c_second' : (Nat → Int32)} {c_votes' : (Nat → Int32)} {FU : Nat} (h : f_X8_square FU c_worked c_width c_height c_grey c_setting c_squares c_square c_dark c_light c_like c_isCrowded c_pairs c_first c_second c_votes x1 x2 x3 = some (r, c_worked', c_squares', c_square', c_dark', c_light', c_like', c_isCrowded', c_pairs', c_first', c_second', c_votes')) : CTi l G kc yX8_square cX8_square 7 (some .int) (rmq 5 116) [.ref o, .int x1, .int x2, .int x3] (mW o ad kc c_worked c_width c_height c_grey c_setting c_leastOf c_mostOf c_lifted c_squares c_square c_dark c_light c_like c_isCrowded c_pairs c_first c_second c_votes c_shifts c_shiftX c_shiftY c_regionAt c_regions c_regionShift c_regionPairs c_regionFirst c_findings c_regionOf c_offset c_begun c_held c_isIn c_numbered c_left c_right c_top c_low c_missed) (mW o ad kc (c_worked') c_width c_height c_grey c_setting c_leastOf c_mostOf c_lifted (c_squares') (c_square') (c_dark') (c_light') (c_like') (c_isCrowded') (c_pairs') (c_first') (c_second') (c_votes') c_shifts c_shiftX c_shiftY c_regionAt c_regions c_regionShift c_regionPairs c_regionFirst c_findings c_regionOf c_offset c_begun c_held c_isIn c_numbered c_left c_right c_top c_low c_missed) r := by
  refine CTi.mk (by decide) (Nat.le_of_ble_eq_true rfl) ?_
  intro p e s m args below meth c A ls Q hQ S hr hlocks hN hA hK hl hP hD hS
  have hx := S.1
  have hb := S.2.1
  have hl : lv_has ls 7 [(0, .ref o), (1, .int x1), (2, .int x2), (3, .int x3)] := hl
  unfold f_X8_square at h
  refine lv_aload_n hx hb dX8_square_0 rfl (lv_at hl 0 rfl) ?_
  refine lv_iload_n hx hb dX8_square_1 rfl (lv_at hl 1 rfl) ?_
  refine lv_iload_n hx hb dX8_square_2 rfl (lv_at hl 2 rfl) ?_
  obtain ⟨r_1, c_worked_2, c_squares_3, c_square_4, c_dark_5, c_light_6, c_like_7, hq, h⟩ := bd7_e h
  refine cs_Vi (rest := []) (ci := 7) S hN cb_X8_squareAt ml_X8_143 ⟨Nat.le_of_ble_eq_true rfl, Nat.le_of_ble_eq_true rfl⟩ (c_X8_squareAt l G kc o ad x1 x2 hq) hK hP hD hS hA 0 rfl rfl rfl rfl rfl (Nat.le_of_ble_eq_true rfl) hl.1 dX8_square_3 (fun H locs hP hD hS => ?_)
  refine lv_istore (lv' := [(4, .int r_1), (0, .ref o), (1, .int x1), (2, .int x2), (3, .int x3)]) hx hb dX8_square_6 hl (by decide) rfl (fun ls hl => ?_)
  refine lv_iload hx hb dX8_square_8 (lv_at hl 0 rfl) ?_
  refine lv_bipush (v := (-9)) hx hb dX8_square_10 (by decide) ?_
  refine lv_icmp_ne (tgt := 17) hx hb dX8_square_12 (by decide) (fun q_50 => ?_) (fun q_50 => ?_)
  · have h := it_f q_50 h
    refine lv_iload_n hx hb dX8_square_17 rfl (lv_at hl 4 rfl) ?_
    refine lv_bipush (v := 10) hx hb dX8_square_18 (by decide) ?_
    refine lv_bipush (v := 25) hx hb dX8_square_20 (by decide) ?_
    obtain ⟨r_8, hq, h⟩ := bd1_e h
    refine cp_Si (rest := []) [] S hN cb_X8_within ml_X8_96 ⟨Nat.le_of_ble_eq_true rfl, Nat.le_of_ble_eq_true rfl⟩ (c_X8_within l G kc x3 10 25 hq) hK hP hD hS hA rfl rfl rfl rfl rfl (Nat.le_of_ble_eq_true rfl) hl.1 dX8_square_22 (fun H locs hP hD hS => ?_)
    have hP : VP G (mW o ad kc c_worked_2 c_width c_height c_grey c_setting c_leastOf c_mostOf c_lifted c_squares_3 c_square_4 c_dark_5 c_light_6 c_like_7 c_isCrowded c_pairs c_first c_second c_votes c_shifts c_shiftX c_shiftY c_regionAt c_regions c_regionShift c_regionPairs c_regionFirst c_findings c_regionOf c_offset c_begun c_held c_isIn c_numbered c_left c_right c_top c_low c_missed) H := hP
    have hD : va_D A (mW o ad kc c_worked_2 c_width c_height c_grey c_setting c_leastOf c_mostOf c_lifted c_squares_3 c_square_4 c_dark_5 c_light_6 c_like_7 c_isCrowded c_pairs c_first c_second c_votes c_shifts c_shiftX c_shiftY c_regionAt c_regions c_regionShift c_regionPairs c_regionFirst c_findings c_regionOf c_offset c_begun c_held c_isIn c_numbered c_left c_right c_top c_low c_missed) := hD
    refine lv_if_eq (tgt := 55) hx hb dX8_square_25 (by decide) (fun q_49 => ?_) (fun q_49 => ?_)
    · have h := it_t q_49 h
      refine lv_aload_n hx hb dX8_square_55 rfl (lv_at hl 1 rfl) ?_
      obtain ⟨c_worked_9, c_squares_10, c_square_11, c_dark_12, c_light_13, c_like_14, c_isCrowded_15, c_pairs_16, c_first_17, c_second_18, c_votes_19, hq, h⟩ := bd11_e h
      refine cs_Vv (rest := []) (ci := 7) S hN cb_X8_findPairs ml_X8_146 ⟨Nat.le_of_ble_eq_true rfl, Nat.le_of_ble_eq_true rfl⟩ (c_X8_findPairs l G kc o ad  hq) hK hP hD hS hA 0 rfl rfl rfl rfl rfl (Nat.le_of_ble_eq_true rfl) hl.1 dX8_square_56 (fun H locs hP hD hS => ?_)
      refine lv_iconst (v := 0) hx hb dX8_square_59 (by decide) ?_
      refine lv_istore (lv' := [(5, .int 0), (4, .int r_1), (0, .ref o), (1, .int x1), (2, .int x2), (3, .int x3)]) hx hb dX8_square_60 hl (by decide) rfl (fun ls hl => ?_)
      refine lv_iload_n hx hb dX8_square_62 rfl (lv_at hl 5 rfl) ?_
      by_cases q_20 : x3 = 0
      · have h := it_t q_20 h
        refine lv_tableIn (off := 37) (tgt := 100) hx hb dX8_square_63 (by rw [q_20]; decide) (by rw [q_20]; decide) (by rw [q_20]; rfl) (by decide) ?_
        refine lv_aload_n hx hb dX8_square_100 rfl (lv_at hl 2 rfl) ?_
        refine r_get S gf_X8_35 hK hP 0 rfl rfl dX8_square_101 ?_
        refine lv_iload hx hb dX8_square_104 (lv_at hl 1 rfl) ?_
        refine r_iald hx hb hK hP 7 rfl dX8_square_106 h (fun y_21 h => ?_)
        cases h
        exact ret_i hx hb hr rfl hQ hlocks hK hP hD hS dX8_square_107
      · have h := it_f q_20 h
        by_cases q_22 : x3 = 1
        · have h := it_t q_22 h
          refine lv_tableIn (off := 45) (tgt := 108) hx hb dX8_square_63 (by rw [q_22]; decide) (by rw [q_22]; decide) (by rw [q_22]; rfl) (by decide) ?_
          refine lv_aload_n hx hb dX8_square_108 rfl (lv_at hl 2 rfl) ?_
          refine r_get S gf_X8_38 hK hP 0 rfl rfl dX8_square_109 ?_
          refine lv_iload hx hb dX8_square_112 (lv_at hl 1 rfl) ?_
          refine r_iald hx hb hK hP 8 rfl dX8_square_114 h (fun y_23 h => ?_)
          cases h
          exact ret_i hx hb hr rfl hQ hlocks hK hP hD hS dX8_square_115
        · have h := it_f q_22 h
          by_cases q_24 : x3 = 2
          · have h := it_t q_24 h
            refine lv_tableIn (off := 53) (tgt := 116) hx hb dX8_square_63 (by rw [q_24]; decide) (by rw [q_24]; decide) (by rw [q_24]; rfl) (by decide) ?_
            refine lv_aload_n hx hb dX8_square_116 rfl (lv_at hl 2 rfl) ?_
            refine lv_iload hx hb dX8_square_117 (lv_at hl 1 rfl) ?_
            obtain ⟨r_25, hq, h⟩ := bd1_e h
            refine cs_Vi (rest := []) (ci := 7) S hN cb_X8_isFlat ml_X8_132 ⟨Nat.le_of_ble_eq_true rfl, Nat.le_of_ble_eq_true rfl⟩ (c_X8_isFlat l G kc o ad r_1 hq) hK hP hD hS hA 0 rfl rfl rfl rfl rfl (Nat.le_of_ble_eq_true rfl) hl.1 dX8_square_119 (fun H locs hP hD hS => ?_)
            refine lv_if_eq (tgt := 129) hx hb dX8_square_122 (by decide) (fun q_26 => ?_) (fun q_26 => ?_)
            · have h := it_t q_26 h
              refine lv_iconst (v := 0) hx hb dX8_square_129 (by decide) ?_
              cases h
              exact ret_i hx hb hr rfl hQ hlocks hK hP hD hS dX8_square_130
            · have h := it_f q_26 h
              refine lv_iconst (v := 1) hx hb dX8_square_125 (by decide) ?_
              refine lv_goto (tgt := 130) hx hb dX8_square_126 (by decide) ?_
              cases h
              exact ret_i hx hb hr rfl hQ hlocks hK hP hD hS dX8_square_130
          · have h := it_f q_24 h
            by_cases q_27 : x3 = 3
            · have h := it_t q_27 h
              refine lv_tableIn (off := 68) (tgt := 131) hx hb dX8_square_63 (by rw [q_27]; decide) (by rw [q_27]; decide) (by rw [q_27]; rfl) (by decide) ?_
              refine lv_aload_n hx hb dX8_square_131 rfl (lv_at hl 2 rfl) ?_
              refine r_get S gf_X8_44 hK hP 0 rfl rfl dX8_square_132 ?_
              refine lv_iload hx hb dX8_square_135 (lv_at hl 1 rfl) ?_
              refine r_zald hx hb hK hP 10 rfl dX8_square_137 h (fun y_28 h => ?_)
              refine lv_if_eq (tgt := 145) hx hb dX8_square_138 (by decide) (fun q_29 => ?_) (fun q_29 => ?_)
              · have h := it_t q_29 h
                refine lv_iconst (v := 0) hx hb dX8_square_145 (by decide) ?_
                cases h
                exact ret_i hx hb hr rfl hQ hlocks hK hP hD hS dX8_square_146
              · have h := it_f q_29 h
                refine lv_iconst (v := 1) hx hb dX8_square_141 (by decide) ?_
                refine lv_goto (tgt := 146) hx hb dX8_square_142 (by decide) ?_
                cases h
                exact ret_i hx hb hr rfl hQ hlocks hK hP hD hS dX8_square_146
            · have h := it_f q_27 h
              by_cases q_30 : x3 = 4
              · have h := it_t q_30 h
                refine lv_tableIn (off := 84) (tgt := 147) hx hb dX8_square_63 (by rw [q_30]; decide) (by rw [q_30]; decide) (by rw [q_30]; rfl) (by decide) ?_
                refine lv_aload_n hx hb dX8_square_147 rfl (lv_at hl 2 rfl) ?_
                refine lv_iload hx hb dX8_square_148 (lv_at hl 1 rfl) ?_
                refine lv_iconst (v := 1) hx hb dX8_square_150 (by decide) ?_
                obtain ⟨r_31, hq, h⟩ := bd1_e h
                refine cs_Vi (rest := []) (ci := 7) S hN cb_X8_manyLike ml_X8_136 ⟨Nat.le_of_ble_eq_true rfl, Nat.le_of_ble_eq_true rfl⟩ (c_X8_manyLike l G kc o ad r_1 1 hq) hK hP hD hS hA 0 rfl rfl rfl rfl rfl (Nat.le_of_ble_eq_true rfl) hl.1 dX8_square_151 (fun H locs hP hD hS => ?_)
                cases h
                exact ret_i hx hb hr rfl hQ hlocks hK hP hD hS dX8_square_154
              · have h := it_f q_30 h
                by_cases q_32 : x3 = 5
                · have h := it_t q_32 h
                  refine lv_tableIn (off := 92) (tgt := 155) hx hb dX8_square_63 (by rw [q_32]; decide) (by rw [q_32]; decide) (by rw [q_32]; rfl) (by decide) ?_
                  refine lv_iconst (v := 0) hx hb dX8_square_155 (by decide) ?_
                  refine lv_istore (lv' := [(6, .int 0), (5, .int 0), (4, .int r_1), (0, .ref o), (1, .int x1), (2, .int x2), (3, .int x3)]) hx hb dX8_square_156 hl (by decide) rfl (fun ls hl => ?_)
                  refine jn_w (t := fun k => f_X8_square_L158 FU r_1 c_pairs_16 c_first_17 c_second_18 k FU 0 0) (fun (k : Int32 → Int32 → Option (Int32 × Int32 × Int32 × (Nat → Int32) × (Nat → Int32) × (Nat → Int32) × (Nat → Int32) × (Nat → Int32) × Int32 × (Nat → Int32) × (Nat → Int32) × (Nat → Int32))) => ∀ (x5_33 : Int32) (x6_34 : Int32) (H : Heap) (locs : List Loc) (ls : Array Slot), VP G (mW o ad kc c_worked_9 c_width c_height c_grey c_setting c_leastOf c_mostOf c_lifted c_squares_10 c_square_11 c_dark_12 c_light_13 c_like_14 c_isCrowded_15 c_pairs_16 c_first_17 c_second_18 c_votes_19 c_shifts c_shiftX c_shiftY c_regionAt c_regions c_regionShift c_regionPairs c_regionFirst c_findings c_regionOf c_offset c_begun c_held c_isIn c_numbered c_left c_right c_top c_low c_missed) H → va_D A (mW o ad kc c_worked_9 c_width c_height c_grey c_setting c_leastOf c_mostOf c_lifted c_squares_10 c_square_11 c_dark_12 c_light_13 c_like_14 c_isCrowded_15 c_pairs_16 c_first_17 c_second_18 c_votes_19 c_shifts c_shiftX c_shiftY c_regionAt c_regions c_regionShift c_regionPairs c_regionFirst c_findings c_regionOf c_offset c_begun c_held c_isIn c_numbered c_left c_right c_top c_low c_missed) → va_S A s.heap H locs → lv_has ls 7 [(5, .int x5_33)] → k x5_33 x6_34 = some (r, c_worked', c_squares', c_square', c_dark', c_light', c_like', c_isCrowded', c_pairs', c_first', c_second', c_votes') → WW p l e (rmq 5 116) s m args below meth c Q H locs 207 ls []) h ?_ ?_
                  · intro x5_33 x6_34 H locs ls hP hD hS hl h
                    refine lv_iload hx hb dX8_square_207 (lv_at hl 0 rfl) ?_
                    cases h
                    exact ret_i hx hb hr rfl hQ hlocks hK hP hD hS dX8_square_209
                  · intro k_35 K_36 h
                    have L_37 : ∀ (n : Nat) (x5_33 : Int32) (x6_34 : Int32) (H : Heap) (locs : List Loc) (ls : Array Slot), VP G (mW o ad kc c_worked_9 c_width c_height c_grey c_setting c_leastOf c_mostOf c_lifted c_squares_10 c_square_11 c_dark_12 c_light_13 c_like_14 c_isCrowded_15 c_pairs_16 c_first_17 c_second_18 c_votes_19 c_shifts c_shiftX c_shiftY c_regionAt c_regions c_regionShift c_regionPairs c_regionFirst c_findings c_regionOf c_offset c_begun c_held c_isIn c_numbered c_left c_right c_top c_low c_missed) H → va_D A (mW o ad kc c_worked_9 c_width c_height c_grey c_setting c_leastOf c_mostOf c_lifted c_squares_10 c_square_11 c_dark_12 c_light_13 c_like_14 c_isCrowded_15 c_pairs_16 c_first_17 c_second_18 c_votes_19 c_shifts c_shiftX c_shiftY c_regionAt c_regions c_regionShift c_regionPairs c_regionFirst c_findings c_regionOf c_offset c_begun c_held c_isIn c_numbered c_left c_right c_top c_low c_missed) → va_S A s.heap H locs → lv_has ls 7 [(0, .ref o), (4, .int r_1), (5, .int x5_33), (6, .int x6_34)] → f_X8_square_L158 FU r_1 c_pairs_16 c_first_17 c_second_18 k_35 n x5_33 x6_34 = some (r, c_worked', c_squares', c_square', c_dark', c_light', c_like', c_isCrowded', c_pairs', c_first', c_second', c_votes') → WW p l e (rmq 5 116) s m args below meth c Q H locs 158 ls [] := by
                      intro n
                      induction n with
                      | zero => intro x5_33 x6_34 H locs ls hP hD hS hl h; rw [f_X8_square_L158] at h; cases h
                      | succ n ih =>
                        intro x5_33 x6_34 H locs ls hP hD hS hl h
                        rw [f_X8_square_L158] at h
                        refine lv_iload hx hb dX8_square_158 (lv_at hl 3 rfl) ?_
                        refine lv_aload_n hx hb dX8_square_160 rfl (lv_at hl 0 rfl) ?_
                        refine r_get S gf_X8_149 hK hP 0 rfl rfl dX8_square_161 ?_
                        refine lv_icmp_ge (tgt := 207) hx hb dX8_square_164 (by decide) (fun q_45 => ?_) (fun q_45 => ?_)
                        · have h := it_t q_45 h
                          exact K_36 x5_33 x6_34 _ _ _ hP hD hS (lv_sub hl [2] rfl) h
                        · have h := it_f q_45 h
                          refine lv_iload hx hb dX8_square_167 (lv_at hl 2 rfl) ?_
                          refine lv_aload_n hx hb dX8_square_169 rfl (lv_at hl 0 rfl) ?_
                          refine r_get S gf_X8_48 hK hP 0 rfl rfl dX8_square_170 ?_
                          refine lv_iload hx hb dX8_square_173 (lv_at hl 3 rfl) ?_
                          refine r_iald hx hb hK hP 11 rfl dX8_square_175 h (fun y_38 h => ?_)
                          refine lv_iload hx hb dX8_square_176 (lv_at hl 1 rfl) ?_
                          refine jn_w (fun (k : Int32 → Option (Int32 × Int32 × Int32 × (Nat → Int32) × (Nat → Int32) × (Nat → Int32) × (Nat → Int32) × (Nat → Int32) × Int32 × (Nat → Int32) × (Nat → Int32) × (Nat → Int32))) => ∀ (t_39 : Int32) (H : Heap) (locs : List Loc) (ls : Array Slot), VP G (mW o ad kc c_worked_9 c_width c_height c_grey c_setting c_leastOf c_mostOf c_lifted c_squares_10 c_square_11 c_dark_12 c_light_13 c_like_14 c_isCrowded_15 c_pairs_16 c_first_17 c_second_18 c_votes_19 c_shifts c_shiftX c_shiftY c_regionAt c_regions c_regionShift c_regionPairs c_regionFirst c_findings c_regionOf c_offset c_begun c_held c_isIn c_numbered c_left c_right c_top c_low c_missed) H → va_D A (mW o ad kc c_worked_9 c_width c_height c_grey c_setting c_leastOf c_mostOf c_lifted c_squares_10 c_square_11 c_dark_12 c_light_13 c_like_14 c_isCrowded_15 c_pairs_16 c_first_17 c_second_18 c_votes_19 c_shifts c_shiftX c_shiftY c_regionAt c_regions c_regionShift c_regionPairs c_regionFirst c_findings c_regionOf c_offset c_begun c_held c_isIn c_numbered c_left c_right c_top c_low c_missed) → va_S A s.heap H locs → lv_has ls 7 [(0, .ref o), (4, .int r_1), (6, .int x6_34)] → k t_39 = some (r, c_worked', c_squares', c_square', c_dark', c_light', c_like', c_isCrowded', c_pairs', c_first', c_second', c_votes') → WW p l e (rmq 5 116) s m args below meth c Q H locs 198 ls [.int t_39, .int x5_33]) h ?_ ?_
                          · intro t_39 H locs ls hP hD hS hl h
                            refine lv_iadd hx hb dX8_square_198 ?_
                            refine lv_istore (lv' := [(5, .int (x5_33 + t_39)), (0, .ref o), (4, .int r_1), (6, .int x6_34)]) hx hb dX8_square_199 hl (by decide) rfl (fun ls hl => ?_)
                            refine lv_iinc (v := (x6_34 + 1)) (lv' := [(6, .int (x6_34 + 1)), (5, .int (x5_33 + t_39)), (0, .ref o), (4, .int r_1)]) hx hb dX8_square_201 hl (k := 3) rfl rfl (by decide) rfl (fun ls hl => ?_)
                            refine lv_goto (tgt := 158) hx hb dX8_square_204 (by decide) ?_
                            exact ih (x5_33 + t_39) (x6_34 + 1) _ _ _ hP hD hS (lv_sub hl [2, 3, 1, 0] rfl) h
                          · intro j_40 J_41 h
                            refine lv_icmp_eq (tgt := 193) hx hb dX8_square_178 (by decide) (fun q_44 => ?_) (fun q_44 => ?_)
                            · have h := it_t q_44 h
                              refine lv_iconst (v := 1) hx hb dX8_square_193 (by decide) ?_
                              refine lv_goto (tgt := 198) hx hb dX8_square_194 (by decide) ?_
                              exact J_41 1 _ _ _ hP hD hS (lv_sub hl [0, 1, 3] rfl) h
                            · have h := it_f q_44 h
                              refine lv_aload_n hx hb dX8_square_181 rfl (lv_at hl 0 rfl) ?_
                              refine r_get S gf_X8_51 hK hP 0 rfl rfl dX8_square_182 ?_
                              refine lv_iload hx hb dX8_square_185 (lv_at hl 3 rfl) ?_
                              refine r_iald hx hb hK hP 12 rfl dX8_square_187 h (fun y_42 h => ?_)
                              refine lv_iload hx hb dX8_square_188 (lv_at hl 1 rfl) ?_
                              refine lv_icmp_ne (tgt := 197) hx hb dX8_square_190 (by decide) (fun q_43 => ?_) (fun q_43 => ?_)
                              · have h := it_f q_43 h
                                refine lv_iconst (v := 0) hx hb dX8_square_197 (by decide) ?_
                                exact J_41 0 _ _ _ hP hD hS (lv_sub hl [0, 1, 3] rfl) h
                              · have h := it_t q_43 h
                                refine lv_iconst (v := 1) hx hb dX8_square_193 (by decide) ?_
                                refine lv_goto (tgt := 198) hx hb dX8_square_194 (by decide) ?_
                                exact J_41 1 _ _ _ hP hD hS (lv_sub hl [0, 1, 3] rfl) h
                    exact L_37 FU 0 0 _ _ _ hP hD hS (lv_sub hl [3, 2, 1, 0] rfl) h
                · have h := it_f q_32 h
                  have nq_20 := lv_neT (a := 0) q_20 (by decide)
                  have nq_22 := lv_neT (a := 1) q_22 (by decide)
                  have nq_24 := lv_neT (a := 2) q_24 (by decide)
                  have nq_27 := lv_neT (a := 3) q_27 (by decide)
                  have nq_30 := lv_neT (a := 4) q_30 (by decide)
                  have nq_32 := lv_neT (a := 5) q_32 (by decide)
                  refine lv_tableOut (tgt := 210) hx hb dX8_square_63 (by omega) (by decide) ?_
                  refine lv_bipush (v := (-2)) hx hb dX8_square_210 (by decide) ?_
                  cases h
                  exact ret_i hx hb hr rfl hQ hlocks hK hP hD hS dX8_square_212
    · have h := it_f q_49 h
      refine lv_iload_n hx hb dX8_square_28 rfl (lv_at hl 4 rfl) ?_
      refine lv_bipush (v := 10) hx hb dX8_square_29 (by decide) ?_
      refine lv_isub hx hb dX8_square_31 ?_
      refine lv_aload_n hx hb dX8_square_32 rfl (lv_at hl 1 rfl) ?_
      obtain ⟨r_46, hq, h⟩ := bd1_e h
      refine cs_Vi (rest := [.int (x3 - 10)]) (ci := 7) S hN cb_X8_numbers ml_X8_119 ⟨Nat.le_of_ble_eq_true rfl, Nat.le_of_ble_eq_true rfl⟩ (c_X8_numbers l G kc o ad  hq) hK hP hD hS hA 0 rfl rfl rfl rfl rfl (Nat.le_of_ble_eq_true rfl) hl.1 dX8_square_33 (fun H locs hP hD hS => ?_)
      refine lv_icmp_ge (tgt := 52) hx hb dX8_square_36 (by decide) (fun q_48 => ?_) (fun q_48 => ?_)
      · have h := it_t q_48 h
        refine lv_bipush (v := (-9)) hx hb dX8_square_52 (by decide) ?_
        cases h
        exact ret_i hx hb hr rfl hQ hlocks hK hP hD hS dX8_square_54
      · have h := it_f q_48 h
        refine lv_aload_n hx hb dX8_square_39 rfl (lv_at hl 1 rfl) ?_
        refine lv_iload hx hb dX8_square_40 (lv_at hl 0 rfl) ?_
        refine lv_iload_n hx hb dX8_square_42 rfl (lv_at hl 4 rfl) ?_
        refine lv_bipush (v := 10) hx hb dX8_square_43 (by decide) ?_
        refine lv_isub hx hb dX8_square_45 ?_
        obtain ⟨r_47, hq, h⟩ := bd1_e h
        refine cs_Vi (rest := []) (ci := 7) S hN cb_X8_numberIn ml_X8_123 ⟨Nat.le_of_ble_eq_true rfl, Nat.le_of_ble_eq_true rfl⟩ (c_X8_numberIn l G kc o ad r_1 (x3 - 10) hq) hK hP hD hS hA 0 rfl rfl rfl rfl rfl (Nat.le_of_ble_eq_true rfl) hl.1 dX8_square_46 (fun H locs hP hD hS => ?_)
        refine lv_goto (tgt := 54) hx hb dX8_square_49 (by decide) ?_
        cases h
        exact ret_i hx hb hr rfl hQ hlocks hK hP hD hS dX8_square_54
  · have h := it_t q_50 h
    refine lv_iconst (v := (-1)) hx hb dX8_square_15 (by decide) ?_
    cases h
    exact ret_i hx hb hr rfl hQ hlocks hK hP hD hS dX8_square_16
set_option maxHeartbeats 1000000 in
set_option maxRecDepth 100000 in
theorem c_X8_inOrder (l : Launch) (G : va_G) (kc : Nat → ClassId) (o : Nat) (ad : Nat → Nat) {c_worked : Int32} {c_width : Int32} {c_height : Int32} {c_grey : (Nat → Int32)} {c_setting : (Nat → Int32)} {c_leastOf : (Nat → Int32)} {c_mostOf : (Nat → Int32)} {c_lifted : (Nat → Int32)} {c_squares : Int32} {c_square : (Nat → Int32)} {c_dark : (Nat → Int32)} {c_light : (Nat → Int32)} {c_like : (Nat → Int32)} {c_isCrowded : (Nat → Int32)} {c_pairs : Int32} {c_first : (Nat → Int32)} {c_second : (Nat → Int32)} {c_votes : (Nat → Int32)} {c_shifts : Int32} {c_shiftX : (Nat → Int32)} {c_shiftY : (Nat → Int32)} {c_regionAt : (Nat → Int32)} {c_regions : Int32} {c_regionShift : (Nat → Int32)} {c_regionPairs : (Nat → Int32)} {c_regionFirst : (Nat → Int32)} {c_findings : Int32} {c_regionOf : (Nat → Int32)} {c_offset : (Nat → Int32)} {c_begun : (Nat → Int32)} {c_held : (Nat → Int32)} {c_isIn : (Nat → Int32)} {c_numbered : (Nat → Int32)} {c_left : Int32} {c_right : Int32} {c_top : Int32} {c_low : Int32} {c_missed : Int32} (x1 : Int32) {r : Int32} {c_worked' : Int32} {c_squares' : Int32} {c_square' : (Nat → Int32)} {c_dark' : (Nat → Int32)} {c_light' : (Nat → Int32)} {c_like' : (Nat → Int32)} {FU : Nat} (h : f_X8_inOrder FU c_worked c_width c_height c_grey c_setting c_squares c_square c_dark c_light c_like x1 = some (r, c_worked', c_squares', c_square', c_dark', c_light', c_like')) : CTi l G kc yX8_inOrder cX8_inOrder 6 (some .int) (rmq 4 93) [.ref o, .int x1] (mW o ad kc c_worked c_width c_height c_grey c_setting c_leastOf c_mostOf c_lifted c_squares c_square c_dark c_light c_like c_isCrowded c_pairs c_first c_second c_votes c_shifts c_shiftX c_shiftY c_regionAt c_regions c_regionShift c_regionPairs c_regionFirst c_findings c_regionOf c_offset c_begun c_held c_isIn c_numbered c_left c_right c_top c_low c_missed) (mW o ad kc (c_worked') c_width c_height c_grey c_setting c_leastOf c_mostOf c_lifted (c_squares') (c_square') (c_dark') (c_light') (c_like') c_isCrowded c_pairs c_first c_second c_votes c_shifts c_shiftX c_shiftY c_regionAt c_regions c_regionShift c_regionPairs c_regionFirst c_findings c_regionOf c_offset c_begun c_held c_isIn c_numbered c_left c_right c_top c_low c_missed) r := by
  refine CTi.mk (by decide) (Nat.le_of_ble_eq_true rfl) ?_
  intro p e s m args below meth c A ls Q hQ S hr hlocks hN hA hK hl hP hD hS
  have hx := S.1
  have hb := S.2.1
  have hl : lv_has ls 6 [(0, .ref o), (1, .int x1)] := hl
  unfold f_X8_inOrder at h
  refine lv_aload_n hx hb dX8_inOrder_0 rfl (lv_at hl 0 rfl) ?_
  obtain ⟨c_worked_1, c_squares_2, c_square_3, c_dark_4, c_light_5, c_like_6, hq, h⟩ := bd6_e h
  refine cs_Vv (rest := []) (ci := 7) S hN cb_X8_findSquares ml_X8_140 ⟨Nat.le_of_ble_eq_true rfl, Nat.le_of_ble_eq_true rfl⟩ (c_X8_findSquares l G kc o ad  hq) hK hP hD hS hA 0 rfl rfl rfl rfl rfl (Nat.le_of_ble_eq_true rfl) hl.1 dX8_inOrder_1 (fun H locs hP hD hS => ?_)
  refine lv_iconst (v := 0) hx hb dX8_inOrder_4 (by decide) ?_
  refine lv_istore_n (lv' := [(2, .int 0), (0, .ref o), (1, .int x1)]) hx hb dX8_inOrder_5 rfl hl (by decide) rfl (fun ls hl => ?_)
  refine jn_w (t := fun k => f_X8_inOrder_L6 FU x1 c_worked_1 c_grey c_setting c_squares_2 c_square_3 c_dark_4 c_light_5 c_like_6 k FU 0) (fun (k : Int32 → Option (Int32 × Int32 × Int32 × (Nat → Int32) × (Nat → Int32) × (Nat → Int32) × (Nat → Int32))) => ∀ (x2_7 : Int32) (H : Heap) (locs : List Loc) (ls : Array Slot), VP G (mW o ad kc c_worked_1 c_width c_height c_grey c_setting c_leastOf c_mostOf c_lifted c_squares_2 c_square_3 c_dark_4 c_light_5 c_like_6 c_isCrowded c_pairs c_first c_second c_votes c_shifts c_shiftX c_shiftY c_regionAt c_regions c_regionShift c_regionPairs c_regionFirst c_findings c_regionOf c_offset c_begun c_held c_isIn c_numbered c_left c_right c_top c_low c_missed) H → va_D A (mW o ad kc c_worked_1 c_width c_height c_grey c_setting c_leastOf c_mostOf c_lifted c_squares_2 c_square_3 c_dark_4 c_light_5 c_like_6 c_isCrowded c_pairs c_first c_second c_votes c_shifts c_shiftX c_shiftY c_regionAt c_regions c_regionShift c_regionPairs c_regionFirst c_findings c_regionOf c_offset c_begun c_held c_isIn c_numbered c_left c_right c_top c_low c_missed) → va_S A s.heap H locs → lv_has ls 6 [] → k x2_7 = some (r, c_worked', c_squares', c_square', c_dark', c_light', c_like') → WW p l e (rmq 4 93) s m args below meth c Q H locs 85 ls []) h ?_ ?_
  · intro x2_7 H locs ls hP hD hS hl h
    refine lv_iconst (v := (-1)) hx hb dX8_inOrder_85 (by decide) ?_
    cases h
    exact ret_i hx hb hr rfl hQ hlocks hK hP hD hS dX8_inOrder_86
  · intro k_8 K_9 h
    have L_10 : ∀ (n : Nat) (x2_7 : Int32) (H : Heap) (locs : List Loc) (ls : Array Slot), VP G (mW o ad kc c_worked_1 c_width c_height c_grey c_setting c_leastOf c_mostOf c_lifted c_squares_2 c_square_3 c_dark_4 c_light_5 c_like_6 c_isCrowded c_pairs c_first c_second c_votes c_shifts c_shiftX c_shiftY c_regionAt c_regions c_regionShift c_regionPairs c_regionFirst c_findings c_regionOf c_offset c_begun c_held c_isIn c_numbered c_left c_right c_top c_low c_missed) H → va_D A (mW o ad kc c_worked_1 c_width c_height c_grey c_setting c_leastOf c_mostOf c_lifted c_squares_2 c_square_3 c_dark_4 c_light_5 c_like_6 c_isCrowded c_pairs c_first c_second c_votes c_shifts c_shiftX c_shiftY c_regionAt c_regions c_regionShift c_regionPairs c_regionFirst c_findings c_regionOf c_offset c_begun c_held c_isIn c_numbered c_left c_right c_top c_low c_missed) → va_S A s.heap H locs → lv_has ls 6 [(0, .ref o), (1, .int x1), (2, .int x2_7)] → f_X8_inOrder_L6 FU x1 c_worked_1 c_grey c_setting c_squares_2 c_square_3 c_dark_4 c_light_5 c_like_6 k_8 n x2_7 = some (r, c_worked', c_squares', c_square', c_dark', c_light', c_like') → WW p l e (rmq 4 93) s m args below meth c Q H locs 6 ls [] := by
      intro n
      induction n with
      | zero => intro x2_7 H locs ls hP hD hS hl h; rw [f_X8_inOrder_L6] at h; cases h
      | succ n ih =>
        intro x2_7 H locs ls hP hD hS hl h
        rw [f_X8_inOrder_L6] at h
        refine lv_iload_n hx hb dX8_inOrder_6 rfl (lv_at hl 2 rfl) ?_
        refine lv_aload_n hx hb dX8_inOrder_7 rfl (lv_at hl 0 rfl) ?_
        refine r_get S gf_X8_126 hK hP 0 rfl rfl dX8_inOrder_8 ?_
        refine lv_icmp_ge (tgt := 85) hx hb dX8_inOrder_11 (by decide) (fun q_26 => ?_) (fun q_26 => ?_)
        · have h := it_t q_26 h
          exact K_9 x2_7 _ _ _ hP hD hS (lv_sub hl [] rfl) h
        · have h := it_f q_26 h
          refine lv_iconst (v := 0) hx hb dX8_inOrder_14 (by decide) ?_
          refine lv_istore_n (lv' := [(3, .int 0), (0, .ref o), (1, .int x1), (2, .int x2_7)]) hx hb dX8_inOrder_15 rfl hl (by decide) rfl (fun ls hl => ?_)
          refine lv_iconst (v := 0) hx hb dX8_inOrder_16 (by decide) ?_
          refine lv_istore (lv' := [(4, .int 0), (3, .int 0), (0, .ref o), (1, .int x1), (2, .int x2_7)]) hx hb dX8_inOrder_17 hl (by decide) rfl (fun ls hl => ?_)
          refine jn_w (t := fun k => f_X8_inOrder_L19 FU x2_7 c_grey c_setting c_squares_2 c_square_3 c_dark_4 k FU 0 0) (fun (k : Int32 → Int32 → Option (Int32 × Int32 × Int32 × (Nat → Int32) × (Nat → Int32) × (Nat → Int32) × (Nat → Int32))) => ∀ (x3_11 : Int32) (x4_12 : Int32) (H : Heap) (locs : List Loc) (ls : Array Slot), VP G (mW o ad kc c_worked_1 c_width c_height c_grey c_setting c_leastOf c_mostOf c_lifted c_squares_2 c_square_3 c_dark_4 c_light_5 c_like_6 c_isCrowded c_pairs c_first c_second c_votes c_shifts c_shiftX c_shiftY c_regionAt c_regions c_regionShift c_regionPairs c_regionFirst c_findings c_regionOf c_offset c_begun c_held c_isIn c_numbered c_left c_right c_top c_low c_missed) H → va_D A (mW o ad kc c_worked_1 c_width c_height c_grey c_setting c_leastOf c_mostOf c_lifted c_squares_2 c_square_3 c_dark_4 c_light_5 c_like_6 c_isCrowded c_pairs c_first c_second c_votes c_shifts c_shiftX c_shiftY c_regionAt c_regions c_regionShift c_regionPairs c_regionFirst c_findings c_regionOf c_offset c_begun c_held c_isIn c_numbered c_left c_right c_top c_low c_missed) → va_S A s.heap H locs → lv_has ls 6 [(0, .ref o), (1, .int x1), (2, .int x2_7), (3, .int x3_11)] → k x3_11 x4_12 = some (r, c_worked', c_squares', c_square', c_dark', c_light', c_like') → WW p l e (rmq 4 93) s m args below meth c Q H locs 67 ls []) h ?_ ?_
          · intro x3_11 x4_12 H locs ls hP hD hS hl h
            refine lv_iload_n hx hb dX8_inOrder_67 rfl (lv_at hl 3 rfl) ?_
            refine lv_iload_n hx hb dX8_inOrder_68 rfl (lv_at hl 1 rfl) ?_
            refine lv_icmp_ne (tgt := 79) hx hb dX8_inOrder_69 (by decide) (fun q_17 => ?_) (fun q_17 => ?_)
            · have h := it_f q_17 h
              refine lv_iinc (v := (x2_7 + 1)) (lv' := [(2, .int (x2_7 + 1)), (0, .ref o), (1, .int x1), (3, .int x3_11)]) hx hb dX8_inOrder_79 hl (k := 2) rfl rfl (by decide) rfl (fun ls hl => ?_)
              refine lv_goto (tgt := 6) hx hb dX8_inOrder_82 (by decide) ?_
              exact ih (x2_7 + 1) _ _ _ hP hD hS (lv_sub hl [1, 2, 0] rfl) h
            · have h := it_t q_17 h
              refine lv_aload_n hx hb dX8_inOrder_72 rfl (lv_at hl 0 rfl) ?_
              refine r_get S gf_X8_32 hK hP 0 rfl rfl dX8_inOrder_73 ?_
              refine lv_iload_n hx hb dX8_inOrder_76 rfl (lv_at hl 2 rfl) ?_
              refine r_iald hx hb hK hP 6 rfl dX8_inOrder_77 h (fun y_16 h => ?_)
              cases h
              exact ret_i hx hb hr rfl hQ hlocks hK hP hD hS dX8_inOrder_78
          · intro k_13 K_14 h
            have L_15 : ∀ (n : Nat) (x3_11 : Int32) (x4_12 : Int32) (H : Heap) (locs : List Loc) (ls : Array Slot), VP G (mW o ad kc c_worked_1 c_width c_height c_grey c_setting c_leastOf c_mostOf c_lifted c_squares_2 c_square_3 c_dark_4 c_light_5 c_like_6 c_isCrowded c_pairs c_first c_second c_votes c_shifts c_shiftX c_shiftY c_regionAt c_regions c_regionShift c_regionPairs c_regionFirst c_findings c_regionOf c_offset c_begun c_held c_isIn c_numbered c_left c_right c_top c_low c_missed) H → va_D A (mW o ad kc c_worked_1 c_width c_height c_grey c_setting c_leastOf c_mostOf c_lifted c_squares_2 c_square_3 c_dark_4 c_light_5 c_like_6 c_isCrowded c_pairs c_first c_second c_votes c_shifts c_shiftX c_shiftY c_regionAt c_regions c_regionShift c_regionPairs c_regionFirst c_findings c_regionOf c_offset c_begun c_held c_isIn c_numbered c_left c_right c_top c_low c_missed) → va_S A s.heap H locs → lv_has ls 6 [(0, .ref o), (1, .int x1), (2, .int x2_7), (3, .int x3_11), (4, .int x4_12)] → f_X8_inOrder_L19 FU x2_7 c_grey c_setting c_squares_2 c_square_3 c_dark_4 k_13 n x3_11 x4_12 = some (r, c_worked', c_squares', c_square', c_dark', c_light', c_like') → WW p l e (rmq 4 93) s m args below meth c Q H locs 19 ls [] := by
              intro n
              induction n with
              | zero => intro x3_11 x4_12 H locs ls hP hD hS hl h; rw [f_X8_inOrder_L19] at h; cases h
              | succ n ih =>
                intro x3_11 x4_12 H locs ls hP hD hS hl h
                rw [f_X8_inOrder_L19] at h
                refine lv_iload hx hb dX8_inOrder_19 (lv_at hl 4 rfl) ?_
                refine lv_aload_n hx hb dX8_inOrder_21 rfl (lv_at hl 0 rfl) ?_
                refine r_get S gf_X8_126 hK hP 0 rfl rfl dX8_inOrder_22 ?_
                refine lv_icmp_ge (tgt := 67) hx hb dX8_inOrder_25 (by decide) (fun q_25 => ?_) (fun q_25 => ?_)
                · have h := it_t q_25 h
                  exact K_14 x3_11 x4_12 _ _ _ hP hD hS (lv_sub hl [0, 1, 2, 3] rfl) h
                · have h := it_f q_25 h
                  refine lv_aload_n hx hb dX8_inOrder_28 rfl (lv_at hl 0 rfl) ?_
                  refine lv_iload hx hb dX8_inOrder_29 (lv_at hl 4 rfl) ?_
                  refine lv_iload_n hx hb dX8_inOrder_31 rfl (lv_at hl 2 rfl) ?_
                  obtain ⟨r_18, hq, h⟩ := bd1_e h
                  refine cs_Vi (rest := []) (ci := 7) S hN cb_X8_compared ml_X8_129 ⟨Nat.le_of_ble_eq_true rfl, Nat.le_of_ble_eq_true rfl⟩ (c_X8_compared l G kc o ad x4_12 x2_7 hq) hK hP hD hS hA 0 rfl rfl rfl rfl rfl (Nat.le_of_ble_eq_true rfl) hl.1 dX8_inOrder_32 (fun H locs hP hD hS => ?_)
                  refine lv_istore (lv' := [(5, .int r_18), (0, .ref o), (1, .int x1), (2, .int x2_7), (3, .int x3_11), (4, .int x4_12)]) hx hb dX8_inOrder_35 hl (by decide) rfl (fun ls hl => ?_)
                  refine lv_iload_n hx hb dX8_inOrder_37 rfl (lv_at hl 4 rfl) ?_
                  refine lv_iload hx hb dX8_inOrder_38 (lv_at hl 0 rfl) ?_
                  refine jn_w (fun (k : Int32 → Option (Int32 × Int32 × Int32 × (Nat → Int32) × (Nat → Int32) × (Nat → Int32) × (Nat → Int32))) => ∀ (t_19 : Int32) (H : Heap) (locs : List Loc) (ls : Array Slot), VP G (mW o ad kc c_worked_1 c_width c_height c_grey c_setting c_leastOf c_mostOf c_lifted c_squares_2 c_square_3 c_dark_4 c_light_5 c_like_6 c_isCrowded c_pairs c_first c_second c_votes c_shifts c_shiftX c_shiftY c_regionAt c_regions c_regionShift c_regionPairs c_regionFirst c_findings c_regionOf c_offset c_begun c_held c_isIn c_numbered c_left c_right c_top c_low c_missed) H → va_D A (mW o ad kc c_worked_1 c_width c_height c_grey c_setting c_leastOf c_mostOf c_lifted c_squares_2 c_square_3 c_dark_4 c_light_5 c_like_6 c_isCrowded c_pairs c_first c_second c_votes c_shifts c_shiftX c_shiftY c_regionAt c_regions c_regionShift c_regionPairs c_regionFirst c_findings c_regionOf c_offset c_begun c_held c_isIn c_numbered c_left c_right c_top c_low c_missed) → va_S A s.heap H locs → lv_has ls 6 [(0, .ref o), (1, .int x1), (2, .int x2_7), (4, .int x4_12)] → k t_19 = some (r, c_worked', c_squares', c_square', c_dark', c_light', c_like') → WW p l e (rmq 4 93) s m args below meth c Q H locs 59 ls [.int t_19, .int x3_11]) h ?_ ?_
                  · intro t_19 H locs ls hP hD hS hl h
                    refine lv_iadd hx hb dX8_inOrder_59 ?_
                    refine lv_istore_n (lv' := [(3, .int (x3_11 + t_19)), (0, .ref o), (1, .int x1), (2, .int x2_7), (4, .int x4_12)]) hx hb dX8_inOrder_60 rfl hl (by decide) rfl (fun ls hl => ?_)
                    refine lv_iinc (v := (x4_12 + 1)) (lv' := [(4, .int (x4_12 + 1)), (3, .int (x3_11 + t_19)), (0, .ref o), (1, .int x1), (2, .int x2_7)]) hx hb dX8_inOrder_61 hl (k := 4) rfl rfl (by decide) rfl (fun ls hl => ?_)
                    refine lv_goto (tgt := 19) hx hb dX8_inOrder_64 (by decide) ?_
                    exact ih (x3_11 + t_19) (x4_12 + 1) _ _ _ hP hD hS (lv_sub hl [2, 3, 4, 1, 0] rfl) h
                  · intro j_20 J_21 h
                    refine lv_if_lt (tgt := 54) hx hb dX8_inOrder_40 (by decide) (fun q_24 => ?_) (fun q_24 => ?_)
                    · have h := it_t q_24 h
                      refine lv_iconst (v := 1) hx hb dX8_inOrder_54 (by decide) ?_
                      refine lv_goto (tgt := 59) hx hb dX8_inOrder_55 (by decide) ?_
                      exact J_21 1 _ _ _ hP hD hS (lv_sub hl [1, 2, 3, 5] rfl) h
                    · have h := it_f q_24 h
                      refine lv_iload hx hb dX8_inOrder_43 (lv_at hl 0 rfl) ?_
                      refine lv_if_ne (tgt := 58) hx hb dX8_inOrder_45 (by decide) (fun q_23 => ?_) (fun q_23 => ?_)
                      · have h := it_f q_23 h
                        refine lv_iconst (v := 0) hx hb dX8_inOrder_58 (by decide) ?_
                        exact J_21 0 _ _ _ hP hD hS (lv_sub hl [1, 2, 3, 5] rfl) h
                      · have h := it_t q_23 h
                        refine lv_iload hx hb dX8_inOrder_48 (lv_at hl 5 rfl) ?_
                        refine lv_iload_n hx hb dX8_inOrder_50 rfl (lv_at hl 3 rfl) ?_
                        refine lv_icmp_ge (tgt := 58) hx hb dX8_inOrder_51 (by decide) (fun q_22 => ?_) (fun q_22 => ?_)
                        · have h := it_t q_22 h
                          refine lv_iconst (v := 0) hx hb dX8_inOrder_58 (by decide) ?_
                          exact J_21 0 _ _ _ hP hD hS (lv_sub hl [1, 2, 3, 5] rfl) h
                        · have h := it_f q_22 h
                          refine lv_iconst (v := 1) hx hb dX8_inOrder_54 (by decide) ?_
                          refine lv_goto (tgt := 59) hx hb dX8_inOrder_55 (by decide) ?_
                          exact J_21 1 _ _ _ hP hD hS (lv_sub hl [1, 2, 3, 5] rfl) h
            exact L_15 FU 0 0 _ _ _ hP hD hS (lv_sub hl [2, 3, 4, 1, 0] rfl) h
    exact L_10 FU 0 _ _ _ hP hD hS (lv_sub hl [1, 2, 0] rfl) h
set_option maxHeartbeats 1000000 in
set_option maxRecDepth 100000 in
theorem c_X8_isShift (l : Launch) (G : va_G) (kc : Nat → ClassId) (o : Nat) (ad : Nat → Nat) {c_worked : Int32} {c_width : Int32} {c_height : Int32} {c_grey : (Nat → Int32)} {c_setting : (Nat → Int32)} {c_leastOf : (Nat → Int32)} {c_mostOf : (Nat → Int32)} {c_lifted : (Nat → Int32)} {c_squares : Int32} {c_square : (Nat → Int32)} {c_dark : (Nat → Int32)} {c_light : (Nat → Int32)} {c_like : (Nat → Int32)} {c_isCrowded : (Nat → Int32)} {c_pairs : Int32} {c_first : (Nat → Int32)} {c_second : (Nat → Int32)} {c_votes : (Nat → Int32)} {c_shifts : Int32} {c_shiftX : (Nat → Int32)} {c_shiftY : (Nat → Int32)} {c_regionAt : (Nat → Int32)} {c_regions : Int32} {c_regionShift : (Nat → Int32)} {c_regionPairs : (Nat → Int32)} {c_regionFirst : (Nat → Int32)} {c_findings : Int32} {c_regionOf : (Nat → Int32)} {c_offset : (Nat → Int32)} {c_begun : (Nat → Int32)} {c_held : (Nat → Int32)} {c_isIn : (Nat → Int32)} {c_numbered : (Nat → Int32)} {c_left : Int32} {c_right : Int32} {c_top : Int32} {c_low : Int32} {c_missed : Int32} (x1 : Int32) (x2 : Int32) {r : Int32} {FU : Nat} (h : f_X8_isShift FU c_shifts c_shiftX c_shiftY x1 x2 = some r) : CTi l G kc yX8_isShift cX8_isShift 4 (some .boolean) (rmq 0 0) [.ref o, .int x1, .int x2] (mW o ad kc c_worked c_width c_height c_grey c_setting c_leastOf c_mostOf c_lifted c_squares c_square c_dark c_light c_like c_isCrowded c_pairs c_first c_second c_votes c_shifts c_shiftX c_shiftY c_regionAt c_regions c_regionShift c_regionPairs c_regionFirst c_findings c_regionOf c_offset c_begun c_held c_isIn c_numbered c_left c_right c_top c_low c_missed) (mW o ad kc c_worked c_width c_height c_grey c_setting c_leastOf c_mostOf c_lifted c_squares c_square c_dark c_light c_like c_isCrowded c_pairs c_first c_second c_votes c_shifts c_shiftX c_shiftY c_regionAt c_regions c_regionShift c_regionPairs c_regionFirst c_findings c_regionOf c_offset c_begun c_held c_isIn c_numbered c_left c_right c_top c_low c_missed) r := by
  refine CTi.mk (by decide) (Nat.le_of_ble_eq_true rfl) ?_
  intro p e s m args below meth c A ls Q hQ S hr hlocks hN hA hK hl hP hD hS
  have hx := S.1
  have hb := S.2.1
  have hl : lv_has ls 4 [(0, .ref o), (1, .int x1), (2, .int x2)] := hl
  unfold f_X8_isShift at h
  refine lv_iconst (v := 0) hx hb dX8_isShift_0 (by decide) ?_
  refine lv_istore_n (lv' := [(3, .int 0), (0, .ref o), (1, .int x1), (2, .int x2)]) hx hb dX8_isShift_1 rfl hl (by decide) rfl (fun ls hl => ?_)
  refine jn_w (t := fun k => f_X8_isShift_L2 FU x1 x2 c_shifts c_shiftX c_shiftY k FU 0) (fun (k : Int32 → Option (Int32)) => ∀ (x3_1 : Int32) (H : Heap) (locs : List Loc) (ls : Array Slot), VP G (mW o ad kc c_worked c_width c_height c_grey c_setting c_leastOf c_mostOf c_lifted c_squares c_square c_dark c_light c_like c_isCrowded c_pairs c_first c_second c_votes c_shifts c_shiftX c_shiftY c_regionAt c_regions c_regionShift c_regionPairs c_regionFirst c_findings c_regionOf c_offset c_begun c_held c_isIn c_numbered c_left c_right c_top c_low c_missed) H → va_D A (mW o ad kc c_worked c_width c_height c_grey c_setting c_leastOf c_mostOf c_lifted c_squares c_square c_dark c_light c_like c_isCrowded c_pairs c_first c_second c_votes c_shifts c_shiftX c_shiftY c_regionAt c_regions c_regionShift c_regionPairs c_regionFirst c_findings c_regionOf c_offset c_begun c_held c_isIn c_numbered c_left c_right c_top c_low c_missed) → va_S A s.heap H locs → lv_has ls 4 [] → k x3_1 = some r → WW p l e (rmq 0 0) s m args below meth c Q H locs 38 ls []) h ?_ ?_
  · intro x3_1 H locs ls hP hD hS hl h
    refine lv_iconst (v := 0) hx hb dX8_isShift_38 (by decide) ?_
    cases h
    exact ret_i hx hb hr rfl hQ hlocks hK hP hD hS dX8_isShift_39
  · intro k_2 K_3 h
    have L_4 : ∀ (n : Nat) (x3_1 : Int32) (H : Heap) (locs : List Loc) (ls : Array Slot), VP G (mW o ad kc c_worked c_width c_height c_grey c_setting c_leastOf c_mostOf c_lifted c_squares c_square c_dark c_light c_like c_isCrowded c_pairs c_first c_second c_votes c_shifts c_shiftX c_shiftY c_regionAt c_regions c_regionShift c_regionPairs c_regionFirst c_findings c_regionOf c_offset c_begun c_held c_isIn c_numbered c_left c_right c_top c_low c_missed) H → va_D A (mW o ad kc c_worked c_width c_height c_grey c_setting c_leastOf c_mostOf c_lifted c_squares c_square c_dark c_light c_like c_isCrowded c_pairs c_first c_second c_votes c_shifts c_shiftX c_shiftY c_regionAt c_regions c_regionShift c_regionPairs c_regionFirst c_findings c_regionOf c_offset c_begun c_held c_isIn c_numbered c_left c_right c_top c_low c_missed) → va_S A s.heap H locs → lv_has ls 4 [(0, .ref o), (1, .int x1), (2, .int x2), (3, .int x3_1)] → f_X8_isShift_L2 FU x1 x2 c_shifts c_shiftX c_shiftY k_2 n x3_1 = some r → WW p l e (rmq 0 0) s m args below meth c Q H locs 2 ls [] := by
      intro n
      induction n with
      | zero => intro x3_1 H locs ls hP hD hS hl h; rw [f_X8_isShift_L2] at h; cases h
      | succ n ih =>
        intro x3_1 H locs ls hP hD hS hl h
        rw [f_X8_isShift_L2] at h
        refine lv_iload_n hx hb dX8_isShift_2 rfl (lv_at hl 3 rfl) ?_
        refine lv_aload_n hx hb dX8_isShift_3 rfl (lv_at hl 0 rfl) ?_
        refine r_get S gf_X8_170 hK hP 0 rfl rfl dX8_isShift_4 ?_
        refine lv_icmp_ge (tgt := 38) hx hb dX8_isShift_7 (by decide) (fun q_9 => ?_) (fun q_9 => ?_)
        · have h := it_t q_9 h
          exact K_3 x3_1 _ _ _ hP hD hS (lv_sub hl [] rfl) h
        · have h := it_f q_9 h
          refine lv_aload_n hx hb dX8_isShift_10 rfl (lv_at hl 0 rfl) ?_
          refine r_get S gf_X8_57 hK hP 0 rfl rfl dX8_isShift_11 ?_
          refine lv_iload_n hx hb dX8_isShift_14 rfl (lv_at hl 3 rfl) ?_
          refine r_iald hx hb hK hP 14 rfl dX8_isShift_15 h (fun y_5 h => ?_)
          refine lv_iload_n hx hb dX8_isShift_16 rfl (lv_at hl 1 rfl) ?_
          refine lv_icmp_ne (tgt := 32) hx hb dX8_isShift_17 (by decide) (fun q_8 => ?_) (fun q_8 => ?_)
          · have h := it_f q_8 h
            refine lv_iinc (v := (x3_1 + 1)) (lv' := [(3, .int (x3_1 + 1)), (0, .ref o), (1, .int x1), (2, .int x2)]) hx hb dX8_isShift_32 hl (k := 3) rfl rfl (by decide) rfl (fun ls hl => ?_)
            refine lv_goto (tgt := 2) hx hb dX8_isShift_35 (by decide) ?_
            exact ih (x3_1 + 1) _ _ _ hP hD hS (lv_sub hl [1, 2, 3, 0] rfl) h
          · have h := it_t q_8 h
            refine lv_aload_n hx hb dX8_isShift_20 rfl (lv_at hl 0 rfl) ?_
            refine r_get S gf_X8_60 hK hP 0 rfl rfl dX8_isShift_21 ?_
            refine lv_iload_n hx hb dX8_isShift_24 rfl (lv_at hl 3 rfl) ?_
            refine r_iald hx hb hK hP 15 rfl dX8_isShift_25 h (fun y_6 h => ?_)
            refine lv_iload_n hx hb dX8_isShift_26 rfl (lv_at hl 2 rfl) ?_
            refine lv_icmp_ne (tgt := 32) hx hb dX8_isShift_27 (by decide) (fun q_7 => ?_) (fun q_7 => ?_)
            · have h := it_f q_7 h
              refine lv_iinc (v := (x3_1 + 1)) (lv' := [(3, .int (x3_1 + 1)), (0, .ref o), (1, .int x1), (2, .int x2)]) hx hb dX8_isShift_32 hl (k := 3) rfl rfl (by decide) rfl (fun ls hl => ?_)
              refine lv_goto (tgt := 2) hx hb dX8_isShift_35 (by decide) ?_
              exact ih (x3_1 + 1) _ _ _ hP hD hS (lv_sub hl [1, 2, 3, 0] rfl) h
            · have h := it_t q_7 h
              refine lv_iconst (v := 1) hx hb dX8_isShift_30 (by decide) ?_
              cases h
              exact ret_i hx hb hr rfl hQ hlocks hK hP hD hS dX8_isShift_31
    exact L_4 FU 0 _ _ _ hP hD hS (lv_sub hl [1, 2, 3, 0] rfl) h
set_option maxHeartbeats 1000000 in
set_option maxRecDepth 100000 in
theorem c_X8_isShiftAhead (l : Launch) (G : va_G) (kc : Nat → ClassId) (o : Nat) (ad : Nat → Nat) {c_worked : Int32} {c_width : Int32} {c_height : Int32} {c_grey : (Nat → Int32)} {c_setting : (Nat → Int32)} {c_leastOf : (Nat → Int32)} {c_mostOf : (Nat → Int32)} {c_lifted : (Nat → Int32)} {c_squares : Int32} {c_square : (Nat → Int32)} {c_dark : (Nat → Int32)} {c_light : (Nat → Int32)} {c_like : (Nat → Int32)} {c_isCrowded : (Nat → Int32)} {c_pairs : Int32} {c_first : (Nat → Int32)} {c_second : (Nat → Int32)} {c_votes : (Nat → Int32)} {c_shifts : Int32} {c_shiftX : (Nat → Int32)} {c_shiftY : (Nat → Int32)} {c_regionAt : (Nat → Int32)} {c_regions : Int32} {c_regionShift : (Nat → Int32)} {c_regionPairs : (Nat → Int32)} {c_regionFirst : (Nat → Int32)} {c_findings : Int32} {c_regionOf : (Nat → Int32)} {c_offset : (Nat → Int32)} {c_begun : (Nat → Int32)} {c_held : (Nat → Int32)} {c_isIn : (Nat → Int32)} {c_numbered : (Nat → Int32)} {c_left : Int32} {c_right : Int32} {c_top : Int32} {c_low : Int32} {c_missed : Int32} (x1 : Int32) (x2 : Int32) (x3 : Int32) (x4 : Int32) {r : Int32} {FU : Nat} (h : f_X8_isShiftAhead FU c_votes x1 x2 x3 x4 = some r) : CTi l G kc yX8_isShiftAhead cX8_isShiftAhead 7 (some .boolean) (rmq 1 21) [.ref o, .int x1, .int x2, .int x3, .int x4] (mW o ad kc c_worked c_width c_height c_grey c_setting c_leastOf c_mostOf c_lifted c_squares c_square c_dark c_light c_like c_isCrowded c_pairs c_first c_second c_votes c_shifts c_shiftX c_shiftY c_regionAt c_regions c_regionShift c_regionPairs c_regionFirst c_findings c_regionOf c_offset c_begun c_held c_isIn c_numbered c_left c_right c_top c_low c_missed) (mW o ad kc c_worked c_width c_height c_grey c_setting c_leastOf c_mostOf c_lifted c_squares c_square c_dark c_light c_like c_isCrowded c_pairs c_first c_second c_votes c_shifts c_shiftX c_shiftY c_regionAt c_regions c_regionShift c_regionPairs c_regionFirst c_findings c_regionOf c_offset c_begun c_held c_isIn c_numbered c_left c_right c_top c_low c_missed) r := by
  refine CTi.mk (by decide) (Nat.le_of_ble_eq_true rfl) ?_
  intro p e s m args below meth c A ls Q hQ S hr hlocks hN hA hK hl hP hD hS
  have hx := S.1
  have hb := S.2.1
  have hl : lv_has ls 7 [(0, .ref o), (1, .int x1), (2, .int x2), (3, .int x3), (4, .int x4)] := hl
  unfold f_X8_isShiftAhead at h
  refine lv_aload_n hx hb dX8_isShiftAhead_0 rfl (lv_at hl 0 rfl) ?_
  refine r_get S gf_X8_54 hK hP 0 rfl rfl dX8_isShiftAhead_1 ?_
  refine lv_iload_n hx hb dX8_isShiftAhead_4 rfl (lv_at hl 1 rfl) ?_
  refine lv_iload_n hx hb dX8_isShiftAhead_5 rfl (lv_at hl 2 rfl) ?_
  obtain ⟨r_1, hq, h⟩ := bd1_e h
  refine cp_Si (rest := [.ref (ad 17)]) [] S hN cb_X8_voteAt ml_X8_167 ⟨Nat.le_of_ble_eq_true rfl, Nat.le_of_ble_eq_true rfl⟩ (c_X8_voteAt l G kc x1 x2 hq) hK hP hD hS hA rfl rfl rfl rfl rfl (Nat.le_of_ble_eq_true rfl) hl.1 dX8_isShiftAhead_6 (fun H locs hP hD hS => ?_)
  have hP : VP G (mW o ad kc c_worked c_width c_height c_grey c_setting c_leastOf c_mostOf c_lifted c_squares c_square c_dark c_light c_like c_isCrowded c_pairs c_first c_second c_votes c_shifts c_shiftX c_shiftY c_regionAt c_regions c_regionShift c_regionPairs c_regionFirst c_findings c_regionOf c_offset c_begun c_held c_isIn c_numbered c_left c_right c_top c_low c_missed) H := hP
  have hD : va_D A (mW o ad kc c_worked c_width c_height c_grey c_setting c_leastOf c_mostOf c_lifted c_squares c_square c_dark c_light c_like c_isCrowded c_pairs c_first c_second c_votes c_shifts c_shiftX c_shiftY c_regionAt c_regions c_regionShift c_regionPairs c_regionFirst c_findings c_regionOf c_offset c_begun c_held c_isIn c_numbered c_left c_right c_top c_low c_missed) := hD
  refine r_iald hx hb hK hP 13 rfl dX8_isShiftAhead_9 h (fun y_2 h => ?_)
  refine lv_aload_n hx hb dX8_isShiftAhead_10 rfl (lv_at hl 0 rfl) ?_
  refine r_get S gf_X8_54 hK hP 0 rfl rfl dX8_isShiftAhead_11 ?_
  refine lv_iload_n hx hb dX8_isShiftAhead_14 rfl (lv_at hl 3 rfl) ?_
  refine lv_iload hx hb dX8_isShiftAhead_15 (lv_at hl 4 rfl) ?_
  obtain ⟨r_3, hq, h⟩ := bd1_e h
  refine cp_Si (rest := [.ref (ad 17), .int y_2]) [] S hN cb_X8_voteAt ml_X8_167 ⟨Nat.le_of_ble_eq_true rfl, Nat.le_of_ble_eq_true rfl⟩ (c_X8_voteAt l G kc x3 x4 hq) hK hP hD hS hA rfl rfl rfl rfl rfl (Nat.le_of_ble_eq_true rfl) hl.1 dX8_isShiftAhead_17 (fun H locs hP hD hS => ?_)
  have hP : VP G (mW o ad kc c_worked c_width c_height c_grey c_setting c_leastOf c_mostOf c_lifted c_squares c_square c_dark c_light c_like c_isCrowded c_pairs c_first c_second c_votes c_shifts c_shiftX c_shiftY c_regionAt c_regions c_regionShift c_regionPairs c_regionFirst c_findings c_regionOf c_offset c_begun c_held c_isIn c_numbered c_left c_right c_top c_low c_missed) H := hP
  have hD : va_D A (mW o ad kc c_worked c_width c_height c_grey c_setting c_leastOf c_mostOf c_lifted c_squares c_square c_dark c_light c_like c_isCrowded c_pairs c_first c_second c_votes c_shifts c_shiftX c_shiftY c_regionAt c_regions c_regionShift c_regionPairs c_regionFirst c_findings c_regionOf c_offset c_begun c_held c_isIn c_numbered c_left c_right c_top c_low c_missed) := hD
  refine r_iald hx hb hK hP 13 rfl dX8_isShiftAhead_20 h (fun y_4 h => ?_)
  refine lv_isub hx hb dX8_isShiftAhead_21 ?_
  refine lv_istore (lv' := [(5, .int (y_2 - y_4)), (0, .ref o), (1, .int x1), (2, .int x2), (3, .int x3), (4, .int x4)]) hx hb dX8_isShiftAhead_22 hl (by decide) rfl (fun ls hl => ?_)
  refine lv_iload hx hb dX8_isShiftAhead_24 (lv_at hl 0 rfl) ?_
  refine lv_if_eq (tgt := 40) hx hb dX8_isShiftAhead_26 (by decide) (fun q_13 => ?_) (fun q_13 => ?_)
  · have h := it_t q_13 h
    refine lv_iload_n hx hb dX8_isShiftAhead_40 rfl (lv_at hl 2 rfl) ?_
    obtain ⟨r_5, hq, h⟩ := bd1_e h
    refine cp_Si (rest := []) [] S hN cb_X8_size ml_X8_155 ⟨Nat.le_of_ble_eq_true rfl, Nat.le_of_ble_eq_true rfl⟩ (c_X8_size l G kc x1 hq) hK hP hD hS hA rfl rfl rfl rfl rfl (Nat.le_of_ble_eq_true rfl) hl.1 dX8_isShiftAhead_41 (fun H locs hP hD hS => ?_)
    have hP : VP G (mW o ad kc c_worked c_width c_height c_grey c_setting c_leastOf c_mostOf c_lifted c_squares c_square c_dark c_light c_like c_isCrowded c_pairs c_first c_second c_votes c_shifts c_shiftX c_shiftY c_regionAt c_regions c_regionShift c_regionPairs c_regionFirst c_findings c_regionOf c_offset c_begun c_held c_isIn c_numbered c_left c_right c_top c_low c_missed) H := hP
    have hD : va_D A (mW o ad kc c_worked c_width c_height c_grey c_setting c_leastOf c_mostOf c_lifted c_squares c_square c_dark c_light c_like c_isCrowded c_pairs c_first c_second c_votes c_shifts c_shiftX c_shiftY c_regionAt c_regions c_regionShift c_regionPairs c_regionFirst c_findings c_regionOf c_offset c_begun c_held c_isIn c_numbered c_left c_right c_top c_low c_missed) := hD
    refine lv_iload_n hx hb dX8_isShiftAhead_44 rfl (lv_at hl 3 rfl) ?_
    refine lv_iadd hx hb dX8_isShiftAhead_45 ?_
    refine lv_iload_n hx hb dX8_isShiftAhead_46 rfl (lv_at hl 4 rfl) ?_
    obtain ⟨r_6, hq, h⟩ := bd1_e h
    refine cp_Si (rest := [.int (r_5 + x2)]) [] S hN cb_X8_size ml_X8_155 ⟨Nat.le_of_ble_eq_true rfl, Nat.le_of_ble_eq_true rfl⟩ (c_X8_size l G kc x3 hq) hK hP hD hS hA rfl rfl rfl rfl rfl (Nat.le_of_ble_eq_true rfl) hl.1 dX8_isShiftAhead_47 (fun H locs hP hD hS => ?_)
    have hP : VP G (mW o ad kc c_worked c_width c_height c_grey c_setting c_leastOf c_mostOf c_lifted c_squares c_square c_dark c_light c_like c_isCrowded c_pairs c_first c_second c_votes c_shifts c_shiftX c_shiftY c_regionAt c_regions c_regionShift c_regionPairs c_regionFirst c_findings c_regionOf c_offset c_begun c_held c_isIn c_numbered c_left c_right c_top c_low c_missed) H := hP
    have hD : va_D A (mW o ad kc c_worked c_width c_height c_grey c_setting c_leastOf c_mostOf c_lifted c_squares c_square c_dark c_light c_like c_isCrowded c_pairs c_first c_second c_votes c_shifts c_shiftX c_shiftY c_regionAt c_regions c_regionShift c_regionPairs c_regionFirst c_findings c_regionOf c_offset c_begun c_held c_isIn c_numbered c_left c_right c_top c_low c_missed) := hD
    refine lv_isub hx hb dX8_isShiftAhead_50 ?_
    refine lv_iload hx hb dX8_isShiftAhead_51 (lv_at hl 5 rfl) ?_
    refine lv_isub hx hb dX8_isShiftAhead_53 ?_
    refine lv_istore (lv' := [(6, .int (((r_5 + x2) - r_6) - x4)), (5, .int (y_2 - y_4)), (0, .ref o), (1, .int x1), (2, .int x2), (3, .int x3), (4, .int x4)]) hx hb dX8_isShiftAhead_54 hl (by decide) rfl (fun ls hl => ?_)
    refine lv_iload hx hb dX8_isShiftAhead_56 (lv_at hl 0 rfl) ?_
    refine lv_if_eq (tgt := 74) hx hb dX8_isShiftAhead_58 (by decide) (fun q_11 => ?_) (fun q_11 => ?_)
    · have h := it_t q_11 h
      refine lv_iload_n hx hb dX8_isShiftAhead_74 rfl (lv_at hl 4 rfl) ?_
      refine lv_iload hx hb dX8_isShiftAhead_75 (lv_at hl 6 rfl) ?_
      refine lv_icmp_eq (tgt := 94) hx hb dX8_isShiftAhead_77 (by decide) (fun q_9 => ?_) (fun q_9 => ?_)
      · have h := it_t q_9 h
        refine lv_iload_n hx hb dX8_isShiftAhead_94 rfl (lv_at hl 3 rfl) ?_
        refine lv_iload_n hx hb dX8_isShiftAhead_95 rfl (lv_at hl 5 rfl) ?_
        refine lv_icmp_ge (tgt := 103) hx hb dX8_isShiftAhead_96 (by decide) (fun q_7 => ?_) (fun q_7 => ?_)
        · have h := it_t q_7 h
          refine lv_iconst (v := 0) hx hb dX8_isShiftAhead_103 (by decide) ?_
          cases h
          exact ret_i hx hb hr rfl hQ hlocks hK hP hD hS dX8_isShiftAhead_104
        · have h := it_f q_7 h
          refine lv_iconst (v := 1) hx hb dX8_isShiftAhead_99 (by decide) ?_
          refine lv_goto (tgt := 104) hx hb dX8_isShiftAhead_100 (by decide) ?_
          cases h
          exact ret_i hx hb hr rfl hQ hlocks hK hP hD hS dX8_isShiftAhead_104
      · have h := it_f q_9 h
        refine lv_iload_n hx hb dX8_isShiftAhead_80 rfl (lv_at hl 4 rfl) ?_
        refine lv_iload hx hb dX8_isShiftAhead_81 (lv_at hl 6 rfl) ?_
        refine lv_icmp_ge (tgt := 90) hx hb dX8_isShiftAhead_83 (by decide) (fun q_8 => ?_) (fun q_8 => ?_)
        · have h := it_t q_8 h
          refine lv_iconst (v := 0) hx hb dX8_isShiftAhead_90 (by decide) ?_
          refine lv_goto (tgt := 104) hx hb dX8_isShiftAhead_91 (by decide) ?_
          cases h
          exact ret_i hx hb hr rfl hQ hlocks hK hP hD hS dX8_isShiftAhead_104
        · have h := it_f q_8 h
          refine lv_iconst (v := 1) hx hb dX8_isShiftAhead_86 (by decide) ?_
          refine lv_goto (tgt := 104) hx hb dX8_isShiftAhead_87 (by decide) ?_
          cases h
          exact ret_i hx hb hr rfl hQ hlocks hK hP hD hS dX8_isShiftAhead_104
    · have h := it_f q_11 h
      refine lv_iload hx hb dX8_isShiftAhead_61 (lv_at hl 0 rfl) ?_
      refine lv_if_ge (tgt := 70) hx hb dX8_isShiftAhead_63 (by decide) (fun q_10 => ?_) (fun q_10 => ?_)
      · have h := it_t q_10 h
        refine lv_iconst (v := 0) hx hb dX8_isShiftAhead_70 (by decide) ?_
        refine lv_goto (tgt := 104) hx hb dX8_isShiftAhead_71 (by decide) ?_
        cases h
        exact ret_i hx hb hr rfl hQ hlocks hK hP hD hS dX8_isShiftAhead_104
      · have h := it_f q_10 h
        refine lv_iconst (v := 1) hx hb dX8_isShiftAhead_66 (by decide) ?_
        refine lv_goto (tgt := 104) hx hb dX8_isShiftAhead_67 (by decide) ?_
        cases h
        exact ret_i hx hb hr rfl hQ hlocks hK hP hD hS dX8_isShiftAhead_104
  · have h := it_f q_13 h
    refine lv_iload hx hb dX8_isShiftAhead_29 (lv_at hl 0 rfl) ?_
    refine lv_if_le (tgt := 38) hx hb dX8_isShiftAhead_31 (by decide) (fun q_12 => ?_) (fun q_12 => ?_)
    · have h := it_t q_12 h
      refine lv_iconst (v := 0) hx hb dX8_isShiftAhead_38 (by decide) ?_
      cases h
      exact ret_i hx hb hr rfl hQ hlocks hK hP hD hS dX8_isShiftAhead_39
    · have h := it_f q_12 h
      refine lv_iconst (v := 1) hx hb dX8_isShiftAhead_34 (by decide) ?_
      refine lv_goto (tgt := 39) hx hb dX8_isShiftAhead_35 (by decide) ?_
      cases h
      exact ret_i hx hb hr rfl hQ hlocks hK hP hD hS dX8_isShiftAhead_39
set_option maxHeartbeats 1000000 in
set_option maxRecDepth 100000 in
theorem c_X8_findShifts (l : Launch) (G : va_G) (kc : Nat → ClassId) (o : Nat) (ad : Nat → Nat) {c_worked : Int32} {c_width : Int32} {c_height : Int32} {c_grey : (Nat → Int32)} {c_setting : (Nat → Int32)} {c_leastOf : (Nat → Int32)} {c_mostOf : (Nat → Int32)} {c_lifted : (Nat → Int32)} {c_squares : Int32} {c_square : (Nat → Int32)} {c_dark : (Nat → Int32)} {c_light : (Nat → Int32)} {c_like : (Nat → Int32)} {c_isCrowded : (Nat → Int32)} {c_pairs : Int32} {c_first : (Nat → Int32)} {c_second : (Nat → Int32)} {c_votes : (Nat → Int32)} {c_shifts : Int32} {c_shiftX : (Nat → Int32)} {c_shiftY : (Nat → Int32)} {c_regionAt : (Nat → Int32)} {c_regions : Int32} {c_regionShift : (Nat → Int32)} {c_regionPairs : (Nat → Int32)} {c_regionFirst : (Nat → Int32)} {c_findings : Int32} {c_regionOf : (Nat → Int32)} {c_offset : (Nat → Int32)} {c_begun : (Nat → Int32)} {c_held : (Nat → Int32)} {c_isIn : (Nat → Int32)} {c_numbered : (Nat → Int32)} {c_left : Int32} {c_right : Int32} {c_top : Int32} {c_low : Int32} {c_missed : Int32}  {c_worked' : Int32} {c_squares' : Int32} {c_square' : (Nat → Int32)} {c_dark' : (Nat → Int32)} {c_light' : (Nat → Int32)} {c_like' : (Nat → Int32)} {c_isCrowded' : (Nat → Int32)} {c_pairs' : Int32} {c_first' : (Nat → Int32)} {c_second' : (Nat → Int32)} {c_votes' : (Nat → Int32)} {c_shifts' : Int32} {c_shiftX' : (Nat → Int32)} {c_shiftY' : (Nat → Int32)} {FU : Nat} (h : f_X8_findShifts FU c_worked c_width c_height c_grey c_setting c_squares c_square c_dark c_light c_like c_isCrowded c_pairs c_first c_second c_votes c_shifts c_shiftX c_shiftY = some (c_worked', c_squares', c_square', c_dark', c_light', c_like', c_isCrowded', c_pairs', c_first', c_second', c_votes', c_shifts', c_shiftX', c_shiftY')) : CTv l G kc yX8_findShifts cX8_findShifts 5 none (rmq 5 115) [.ref o] (mW o ad kc c_worked c_width c_height c_grey c_setting c_leastOf c_mostOf c_lifted c_squares c_square c_dark c_light c_like c_isCrowded c_pairs c_first c_second c_votes c_shifts c_shiftX c_shiftY c_regionAt c_regions c_regionShift c_regionPairs c_regionFirst c_findings c_regionOf c_offset c_begun c_held c_isIn c_numbered c_left c_right c_top c_low c_missed) (mW o ad kc (c_worked') c_width c_height c_grey c_setting c_leastOf c_mostOf c_lifted (c_squares') (c_square') (c_dark') (c_light') (c_like') (c_isCrowded') (c_pairs') (c_first') (c_second') (c_votes') (c_shifts') (c_shiftX') (c_shiftY') c_regionAt c_regions c_regionShift c_regionPairs c_regionFirst c_findings c_regionOf c_offset c_begun c_held c_isIn c_numbered c_left c_right c_top c_low c_missed) := by
  refine CTv.mk (by decide) (Nat.le_of_ble_eq_true rfl) ?_
  intro p e s m args below meth c A ls Q hQ S hr hlocks hN hA hK hl hP hD hS
  have hx := S.1
  have hb := S.2.1
  have hl : lv_has ls 5 [(0, .ref o)] := hl
  unfold f_X8_findShifts at h
  refine lv_aload_n hx hb dX8_findShifts_0 rfl (lv_at hl 0 rfl) ?_
  refine r_get S gf_X8_93 hK hP 0 rfl rfl dX8_findShifts_1 ?_
  refine lv_iconst (v := 2) hx hb dX8_findShifts_4 (by decide) ?_
  refine lv_icmp_le (tgt := 9) hx hb dX8_findShifts_5 (by decide) (fun q_61 => ?_) (fun q_61 => ?_)
  · have h := it_t q_61 h
    refine lv_aload_n hx hb dX8_findShifts_9 rfl (lv_at hl 0 rfl) ?_
    obtain ⟨c_worked_1, c_squares_2, c_square_3, c_dark_4, c_light_5, c_like_6, c_isCrowded_7, c_pairs_8, c_first_9, c_second_10, c_votes_11, hq, h⟩ := bd11_e h
    refine cs_Vv (rest := []) (ci := 7) S hN cb_X8_findPairs ml_X8_146 ⟨Nat.le_of_ble_eq_true rfl, Nat.le_of_ble_eq_true rfl⟩ (c_X8_findPairs l G kc o ad  hq) hK hP hD hS hA 0 rfl rfl rfl rfl rfl (Nat.le_of_ble_eq_true rfl) hl.1 dX8_findShifts_10 (fun H locs hP hD hS => ?_)
    refine lv_aload_n hx hb dX8_findShifts_13 rfl (lv_at hl 0 rfl) ?_
    refine lv_iconst (v := 3) hx hb dX8_findShifts_14 (by decide) ?_
    refine r_put S pf_X8_93 hK hP hD hS 0 rfl (Nat.le_of_ble_eq_true rfl) dX8_findShifts_15 (fun H locs hP hD hS => ?_)
    have hP : VP G (mW o ad kc 3 c_width c_height c_grey c_setting c_leastOf c_mostOf c_lifted c_squares_2 c_square_3 c_dark_4 c_light_5 c_like_6 c_isCrowded_7 c_pairs_8 c_first_9 c_second_10 c_votes_11 c_shifts c_shiftX c_shiftY c_regionAt c_regions c_regionShift c_regionPairs c_regionFirst c_findings c_regionOf c_offset c_begun c_held c_isIn c_numbered c_left c_right c_top c_low c_missed) H := hP
    have hD : va_D A (mW o ad kc 3 c_width c_height c_grey c_setting c_leastOf c_mostOf c_lifted c_squares_2 c_square_3 c_dark_4 c_light_5 c_like_6 c_isCrowded_7 c_pairs_8 c_first_9 c_second_10 c_votes_11 c_shifts c_shiftX c_shiftY c_regionAt c_regions c_regionShift c_regionPairs c_regionFirst c_findings c_regionOf c_offset c_begun c_held c_isIn c_numbered c_left c_right c_top c_low c_missed) := hD
    refine lv_aload_n hx hb dX8_findShifts_18 rfl (lv_at hl 0 rfl) ?_
    refine lv_iconst (v := 0) hx hb dX8_findShifts_19 (by decide) ?_
    refine r_put S pf_X8_170 hK hP hD hS 0 rfl (Nat.le_of_ble_eq_true rfl) dX8_findShifts_20 (fun H locs hP hD hS => ?_)
    have hP : VP G (mW o ad kc 3 c_width c_height c_grey c_setting c_leastOf c_mostOf c_lifted c_squares_2 c_square_3 c_dark_4 c_light_5 c_like_6 c_isCrowded_7 c_pairs_8 c_first_9 c_second_10 c_votes_11 0 c_shiftX c_shiftY c_regionAt c_regions c_regionShift c_regionPairs c_regionFirst c_findings c_regionOf c_offset c_begun c_held c_isIn c_numbered c_left c_right c_top c_low c_missed) H := hP
    have hD : va_D A (mW o ad kc 3 c_width c_height c_grey c_setting c_leastOf c_mostOf c_lifted c_squares_2 c_square_3 c_dark_4 c_light_5 c_like_6 c_isCrowded_7 c_pairs_8 c_first_9 c_second_10 c_votes_11 0 c_shiftX c_shiftY c_regionAt c_regions c_regionShift c_regionPairs c_regionFirst c_findings c_regionOf c_offset c_begun c_held c_isIn c_numbered c_left c_right c_top c_low c_missed) := hD
    refine lv_iconst (v := 1) hx hb dX8_findShifts_23 (by decide) ?_
    refine lv_istore_n (lv' := [(1, .int 1), (0, .ref o)]) hx hb dX8_findShifts_24 rfl hl (by decide) rfl (fun ls hl => ?_)
    refine jn_w (t := fun k => f_X8_findShifts_L25 FU c_setting c_votes_11 k FU 1 0 c_shiftX c_shiftY) (fun (k : Int32 → Int32 → (Nat → Int32) → (Nat → Int32) → Option (Int32 × Int32 × (Nat → Int32) × (Nat → Int32) × (Nat → Int32) × (Nat → Int32) × (Nat → Int32) × Int32 × (Nat → Int32) × (Nat → Int32) × (Nat → Int32) × Int32 × (Nat → Int32) × (Nat → Int32))) => ∀ (x1_12 : Int32) (c_shifts_13 : Int32) (c_shiftX_14 : (Nat → Int32)) (c_shiftY_15 : (Nat → Int32)) (H : Heap) (locs : List Loc) (ls : Array Slot), VP G (mW o ad kc 3 c_width c_height c_grey c_setting c_leastOf c_mostOf c_lifted c_squares_2 c_square_3 c_dark_4 c_light_5 c_like_6 c_isCrowded_7 c_pairs_8 c_first_9 c_second_10 c_votes_11 c_shifts_13 c_shiftX_14 c_shiftY_15 c_regionAt c_regions c_regionShift c_regionPairs c_regionFirst c_findings c_regionOf c_offset c_begun c_held c_isIn c_numbered c_left c_right c_top c_low c_missed) H → va_D A (mW o ad kc 3 c_width c_height c_grey c_setting c_leastOf c_mostOf c_lifted c_squares_2 c_square_3 c_dark_4 c_light_5 c_like_6 c_isCrowded_7 c_pairs_8 c_first_9 c_second_10 c_votes_11 c_shifts_13 c_shiftX_14 c_shiftY_15 c_regionAt c_regions c_regionShift c_regionPairs c_regionFirst c_findings c_regionOf c_offset c_begun c_held c_isIn c_numbered c_left c_right c_top c_low c_missed) → va_S A s.heap H locs → lv_has ls 5 [] → k x1_12 c_shifts_13 c_shiftX_14 c_shiftY_15 = some (c_worked', c_squares', c_square', c_dark', c_light', c_like', c_isCrowded', c_pairs', c_first', c_second', c_votes', c_shifts', c_shiftX', c_shiftY') → WW p l e (rmq 5 115) s m args below meth c Q H locs 184 ls []) h ?_ ?_
    · intro x1_12 c_shifts_13 c_shiftX_14 c_shiftY_15 H locs ls hP hD hS hl h
      cases h
      exact ret_v hx hb hr hQ hlocks hK hP hD hS dX8_findShifts_184
    · intro k_16 K_17 h
      have L_18 : ∀ (n : Nat) (x1_12 : Int32) (c_shifts_13 : Int32) (c_shiftX_14 : (Nat → Int32)) (c_shiftY_15 : (Nat → Int32)) (H : Heap) (locs : List Loc) (ls : Array Slot), VP G (mW o ad kc 3 c_width c_height c_grey c_setting c_leastOf c_mostOf c_lifted c_squares_2 c_square_3 c_dark_4 c_light_5 c_like_6 c_isCrowded_7 c_pairs_8 c_first_9 c_second_10 c_votes_11 c_shifts_13 c_shiftX_14 c_shiftY_15 c_regionAt c_regions c_regionShift c_regionPairs c_regionFirst c_findings c_regionOf c_offset c_begun c_held c_isIn c_numbered c_left c_right c_top c_low c_missed) H → va_D A (mW o ad kc 3 c_width c_height c_grey c_setting c_leastOf c_mostOf c_lifted c_squares_2 c_square_3 c_dark_4 c_light_5 c_like_6 c_isCrowded_7 c_pairs_8 c_first_9 c_second_10 c_votes_11 c_shifts_13 c_shiftX_14 c_shiftY_15 c_regionAt c_regions c_regionShift c_regionPairs c_regionFirst c_findings c_regionOf c_offset c_begun c_held c_isIn c_numbered c_left c_right c_top c_low c_missed) → va_S A s.heap H locs → lv_has ls 5 [(0, .ref o), (1, .int x1_12)] → f_X8_findShifts_L25 FU c_setting c_votes_11 k_16 n x1_12 c_shifts_13 c_shiftX_14 c_shiftY_15 = some (c_worked', c_squares', c_square', c_dark', c_light', c_like', c_isCrowded', c_pairs', c_first', c_second', c_votes', c_shifts', c_shiftX', c_shiftY') → WW p l e (rmq 5 115) s m args below meth c Q H locs 25 ls [] := by
        intro n
        induction n with
        | zero => intro x1_12 c_shifts_13 c_shiftX_14 c_shiftY_15 H locs ls hP hD hS hl h; rw [f_X8_findShifts_L25] at h; cases h
        | succ n ih =>
          intro x1_12 c_shifts_13 c_shiftX_14 c_shiftY_15 H locs ls hP hD hS hl h
          rw [f_X8_findShifts_L25] at h
          refine lv_iload_n hx hb dX8_findShifts_25 rfl (lv_at hl 1 rfl) ?_
          refine lv_if_eq (tgt := 184) hx hb dX8_findShifts_26 (by decide) (fun q_60 => ?_) (fun q_60 => ?_)
          · have h := it_t q_60 h
            exact K_17 x1_12 c_shifts_13 c_shiftX_14 c_shiftY_15 _ _ _ hP hD hS (lv_sub hl [] rfl) h
          · have h := it_f q_60 h
            refine lv_aload_n hx hb dX8_findShifts_29 rfl (lv_at hl 0 rfl) ?_
            refine r_get S gf_X8_170 hK hP 0 rfl rfl dX8_findShifts_30 ?_
            refine lv_bipush (v := 8) hx hb dX8_findShifts_33 (by decide) ?_
            refine lv_icmp_ge (tgt := 184) hx hb dX8_findShifts_35 (by decide) (fun q_59 => ?_) (fun q_59 => ?_)
            · have h := it_t q_59 h
              exact K_17 x1_12 c_shifts_13 c_shiftX_14 c_shiftY_15 _ _ _ hP hD hS (lv_sub hl [] rfl) h
            · have h := it_f q_59 h
              refine lv_iconst (v := 0) hx hb dX8_findShifts_38 (by decide) ?_
              refine lv_istore_n (lv' := [(1, .int 0), (0, .ref o)]) hx hb dX8_findShifts_39 rfl hl (by decide) rfl (fun ls hl => ?_)
              refine lv_bipush (v := (-15)) hx hb dX8_findShifts_40 (by decide) ?_
              refine lv_istore_n (lv' := [(2, .int (-15)), (1, .int 0), (0, .ref o)]) hx hb dX8_findShifts_42 rfl hl (by decide) rfl (fun ls hl => ?_)
              refine jn_w (t := fun k => f_X8_findShifts_L43 FU c_setting c_votes_11 c_shifts_13 k FU 0 (-15) c_shiftX_14 c_shiftY_15) (fun (k : Int32 → Int32 → (Nat → Int32) → (Nat → Int32) → Option (Int32 × Int32 × (Nat → Int32) × (Nat → Int32) × (Nat → Int32) × (Nat → Int32) × (Nat → Int32) × Int32 × (Nat → Int32) × (Nat → Int32) × (Nat → Int32) × Int32 × (Nat → Int32) × (Nat → Int32))) => ∀ (x1_19 : Int32) (x2_20 : Int32) (c_shiftX_21 : (Nat → Int32)) (c_shiftY_22 : (Nat → Int32)) (H : Heap) (locs : List Loc) (ls : Array Slot), VP G (mW o ad kc 3 c_width c_height c_grey c_setting c_leastOf c_mostOf c_lifted c_squares_2 c_square_3 c_dark_4 c_light_5 c_like_6 c_isCrowded_7 c_pairs_8 c_first_9 c_second_10 c_votes_11 c_shifts_13 c_shiftX_21 c_shiftY_22 c_regionAt c_regions c_regionShift c_regionPairs c_regionFirst c_findings c_regionOf c_offset c_begun c_held c_isIn c_numbered c_left c_right c_top c_low c_missed) H → va_D A (mW o ad kc 3 c_width c_height c_grey c_setting c_leastOf c_mostOf c_lifted c_squares_2 c_square_3 c_dark_4 c_light_5 c_like_6 c_isCrowded_7 c_pairs_8 c_first_9 c_second_10 c_votes_11 c_shifts_13 c_shiftX_21 c_shiftY_22 c_regionAt c_regions c_regionShift c_regionPairs c_regionFirst c_findings c_regionOf c_offset c_begun c_held c_isIn c_numbered c_left c_right c_top c_low c_missed) → va_S A s.heap H locs → lv_has ls 5 [(0, .ref o), (1, .int x1_19)] → k x1_19 x2_20 c_shiftX_21 c_shiftY_22 = some (c_worked', c_squares', c_square', c_dark', c_light', c_like', c_isCrowded', c_pairs', c_first', c_second', c_votes', c_shifts', c_shiftX', c_shiftY') → WW p l e (rmq 5 115) s m args below meth c Q H locs 163 ls []) h ?_ ?_
              · intro x1_19 x2_20 c_shiftX_21 c_shiftY_22 H locs ls hP hD hS hl h
                refine lv_aload_n hx hb dX8_findShifts_163 rfl (lv_at hl 0 rfl) ?_
                refine lv_dup hx hb dX8_findShifts_164 rfl ?_
                refine r_get S gf_X8_170 hK hP 0 rfl rfl dX8_findShifts_165 ?_
                refine lv_iload_n hx hb dX8_findShifts_168 rfl (lv_at hl 1 rfl) ?_
                refine jn_w (fun (k : Int32 → Option (Int32 × Int32 × (Nat → Int32) × (Nat → Int32) × (Nat → Int32) × (Nat → Int32) × (Nat → Int32) × Int32 × (Nat → Int32) × (Nat → Int32) × (Nat → Int32) × Int32 × (Nat → Int32) × (Nat → Int32))) => ∀ (t_26 : Int32) (H : Heap) (locs : List Loc) (ls : Array Slot), VP G (mW o ad kc 3 c_width c_height c_grey c_setting c_leastOf c_mostOf c_lifted c_squares_2 c_square_3 c_dark_4 c_light_5 c_like_6 c_isCrowded_7 c_pairs_8 c_first_9 c_second_10 c_votes_11 c_shifts_13 c_shiftX_21 c_shiftY_22 c_regionAt c_regions c_regionShift c_regionPairs c_regionFirst c_findings c_regionOf c_offset c_begun c_held c_isIn c_numbered c_left c_right c_top c_low c_missed) H → va_D A (mW o ad kc 3 c_width c_height c_grey c_setting c_leastOf c_mostOf c_lifted c_squares_2 c_square_3 c_dark_4 c_light_5 c_like_6 c_isCrowded_7 c_pairs_8 c_first_9 c_second_10 c_votes_11 c_shifts_13 c_shiftX_21 c_shiftY_22 c_regionAt c_regions c_regionShift c_regionPairs c_regionFirst c_findings c_regionOf c_offset c_begun c_held c_isIn c_numbered c_left c_right c_top c_low c_missed) → va_S A s.heap H locs → lv_has ls 5 [(0, .ref o), (1, .int x1_19)] → k t_26 = some (c_worked', c_squares', c_square', c_dark', c_light', c_like', c_isCrowded', c_pairs', c_first', c_second', c_votes', c_shifts', c_shiftX', c_shiftY') → WW p l e (rmq 5 115) s m args below meth c Q H locs 177 ls [.int t_26, .int c_shifts_13, .ref o]) h ?_ ?_
                · intro t_26 H locs ls hP hD hS hl h
                  refine lv_iadd hx hb dX8_findShifts_177 ?_
                  refine r_put S pf_X8_170 hK hP hD hS 0 rfl (Nat.le_of_ble_eq_true rfl) dX8_findShifts_178 (fun H locs hP hD hS => ?_)
                  have hP : VP G (mW o ad kc 3 c_width c_height c_grey c_setting c_leastOf c_mostOf c_lifted c_squares_2 c_square_3 c_dark_4 c_light_5 c_like_6 c_isCrowded_7 c_pairs_8 c_first_9 c_second_10 c_votes_11 (c_shifts_13 + t_26) c_shiftX_21 c_shiftY_22 c_regionAt c_regions c_regionShift c_regionPairs c_regionFirst c_findings c_regionOf c_offset c_begun c_held c_isIn c_numbered c_left c_right c_top c_low c_missed) H := hP
                  have hD : va_D A (mW o ad kc 3 c_width c_height c_grey c_setting c_leastOf c_mostOf c_lifted c_squares_2 c_square_3 c_dark_4 c_light_5 c_like_6 c_isCrowded_7 c_pairs_8 c_first_9 c_second_10 c_votes_11 (c_shifts_13 + t_26) c_shiftX_21 c_shiftY_22 c_regionAt c_regions c_regionShift c_regionPairs c_regionFirst c_findings c_regionOf c_offset c_begun c_held c_isIn c_numbered c_left c_right c_top c_low c_missed) := hD
                  refine lv_goto (tgt := 25) hx hb dX8_findShifts_181 (by decide) ?_
                  exact ih x1_19 (c_shifts_13 + t_26) c_shiftX_21 c_shiftY_22 _ _ _ hP hD hS (lv_sub hl [0, 1] rfl) h
                · intro j_27 J_28 h
                  refine lv_if_eq (tgt := 176) hx hb dX8_findShifts_169 (by decide) (fun q_29 => ?_) (fun q_29 => ?_)
                  · have h := it_t q_29 h
                    refine lv_iconst (v := 0) hx hb dX8_findShifts_176 (by decide) ?_
                    exact J_28 0 _ _ _ hP hD hS (lv_sub hl [0, 1] rfl) h
                  · have h := it_f q_29 h
                    refine lv_iconst (v := 1) hx hb dX8_findShifts_172 (by decide) ?_
                    refine lv_goto (tgt := 177) hx hb dX8_findShifts_173 (by decide) ?_
                    exact J_28 1 _ _ _ hP hD hS (lv_sub hl [0, 1] rfl) h
              · intro k_23 K_24 h
                have L_25 : ∀ (n : Nat) (x1_19 : Int32) (x2_20 : Int32) (c_shiftX_21 : (Nat → Int32)) (c_shiftY_22 : (Nat → Int32)) (H : Heap) (locs : List Loc) (ls : Array Slot), VP G (mW o ad kc 3 c_width c_height c_grey c_setting c_leastOf c_mostOf c_lifted c_squares_2 c_square_3 c_dark_4 c_light_5 c_like_6 c_isCrowded_7 c_pairs_8 c_first_9 c_second_10 c_votes_11 c_shifts_13 c_shiftX_21 c_shiftY_22 c_regionAt c_regions c_regionShift c_regionPairs c_regionFirst c_findings c_regionOf c_offset c_begun c_held c_isIn c_numbered c_left c_right c_top c_low c_missed) H → va_D A (mW o ad kc 3 c_width c_height c_grey c_setting c_leastOf c_mostOf c_lifted c_squares_2 c_square_3 c_dark_4 c_light_5 c_like_6 c_isCrowded_7 c_pairs_8 c_first_9 c_second_10 c_votes_11 c_shifts_13 c_shiftX_21 c_shiftY_22 c_regionAt c_regions c_regionShift c_regionPairs c_regionFirst c_findings c_regionOf c_offset c_begun c_held c_isIn c_numbered c_left c_right c_top c_low c_missed) → va_S A s.heap H locs → lv_has ls 5 [(0, .ref o), (1, .int x1_19), (2, .int x2_20)] → f_X8_findShifts_L43 FU c_setting c_votes_11 c_shifts_13 k_23 n x1_19 x2_20 c_shiftX_21 c_shiftY_22 = some (c_worked', c_squares', c_square', c_dark', c_light', c_like', c_isCrowded', c_pairs', c_first', c_second', c_votes', c_shifts', c_shiftX', c_shiftY') → WW p l e (rmq 5 115) s m args below meth c Q H locs 43 ls [] := by
                  intro n
                  induction n with
                  | zero => intro x1_19 x2_20 c_shiftX_21 c_shiftY_22 H locs ls hP hD hS hl h; rw [f_X8_findShifts_L43] at h; cases h
                  | succ n ih =>
                    intro x1_19 x2_20 c_shiftX_21 c_shiftY_22 H locs ls hP hD hS hl h
                    rw [f_X8_findShifts_L43] at h
                    refine lv_iload_n hx hb dX8_findShifts_43 rfl (lv_at hl 2 rfl) ?_
                    refine lv_bipush (v := 15) hx hb dX8_findShifts_44 (by decide) ?_
                    refine lv_icmp_gt (tgt := 163) hx hb dX8_findShifts_46 (by decide) (fun q_58 => ?_) (fun q_58 => ?_)
                    · have h := it_t q_58 h
                      exact K_24 x1_19 x2_20 c_shiftX_21 c_shiftY_22 _ _ _ hP hD hS (lv_sub hl [0, 1] rfl) h
                    · have h := it_f q_58 h
                      refine lv_iconst (v := 0) hx hb dX8_findShifts_49 (by decide) ?_
                      refine lv_istore_n (lv' := [(3, .int 0), (0, .ref o), (1, .int x1_19), (2, .int x2_20)]) hx hb dX8_findShifts_50 rfl hl (by decide) rfl (fun ls hl => ?_)
                      refine jn_w (t := fun k => f_X8_findShifts_L51 FU x2_20 c_setting c_votes_11 c_shifts_13 k FU x1_19 0 c_shiftX_21 c_shiftY_22) (fun (k : Int32 → Int32 → (Nat → Int32) → (Nat → Int32) → Option (Int32 × Int32 × (Nat → Int32) × (Nat → Int32) × (Nat → Int32) × (Nat → Int32) × (Nat → Int32) × Int32 × (Nat → Int32) × (Nat → Int32) × (Nat → Int32) × Int32 × (Nat → Int32) × (Nat → Int32))) => ∀ (x1_30 : Int32) (x3_31 : Int32) (c_shiftX_32 : (Nat → Int32)) (c_shiftY_33 : (Nat → Int32)) (H : Heap) (locs : List Loc) (ls : Array Slot), VP G (mW o ad kc 3 c_width c_height c_grey c_setting c_leastOf c_mostOf c_lifted c_squares_2 c_square_3 c_dark_4 c_light_5 c_like_6 c_isCrowded_7 c_pairs_8 c_first_9 c_second_10 c_votes_11 c_shifts_13 c_shiftX_32 c_shiftY_33 c_regionAt c_regions c_regionShift c_regionPairs c_regionFirst c_findings c_regionOf c_offset c_begun c_held c_isIn c_numbered c_left c_right c_top c_low c_missed) H → va_D A (mW o ad kc 3 c_width c_height c_grey c_setting c_leastOf c_mostOf c_lifted c_squares_2 c_square_3 c_dark_4 c_light_5 c_like_6 c_isCrowded_7 c_pairs_8 c_first_9 c_second_10 c_votes_11 c_shifts_13 c_shiftX_32 c_shiftY_33 c_regionAt c_regions c_regionShift c_regionPairs c_regionFirst c_findings c_regionOf c_offset c_begun c_held c_isIn c_numbered c_left c_right c_top c_low c_missed) → va_S A s.heap H locs → lv_has ls 5 [(0, .ref o), (1, .int x1_30), (2, .int x2_20)] → k x1_30 x3_31 c_shiftX_32 c_shiftY_33 = some (c_worked', c_squares', c_square', c_dark', c_light', c_like', c_isCrowded', c_pairs', c_first', c_second', c_votes', c_shifts', c_shiftX', c_shiftY') → WW p l e (rmq 5 115) s m args below meth c Q H locs 157 ls []) h ?_ ?_
                      · intro x1_30 x3_31 c_shiftX_32 c_shiftY_33 H locs ls hP hD hS hl h
                        refine lv_iinc (v := (x2_20 + 1)) (lv' := [(2, .int (x2_20 + 1)), (0, .ref o), (1, .int x1_30)]) hx hb dX8_findShifts_157 hl (k := 2) rfl rfl (by decide) rfl (fun ls hl => ?_)
                        refine lv_goto (tgt := 43) hx hb dX8_findShifts_160 (by decide) ?_
                        exact ih x1_30 (x2_20 + 1) c_shiftX_32 c_shiftY_33 _ _ _ hP hD hS (lv_sub hl [1, 2, 0] rfl) h
                      · intro k_34 K_35 h
                        have L_36 : ∀ (n : Nat) (x1_30 : Int32) (x3_31 : Int32) (c_shiftX_32 : (Nat → Int32)) (c_shiftY_33 : (Nat → Int32)) (H : Heap) (locs : List Loc) (ls : Array Slot), VP G (mW o ad kc 3 c_width c_height c_grey c_setting c_leastOf c_mostOf c_lifted c_squares_2 c_square_3 c_dark_4 c_light_5 c_like_6 c_isCrowded_7 c_pairs_8 c_first_9 c_second_10 c_votes_11 c_shifts_13 c_shiftX_32 c_shiftY_33 c_regionAt c_regions c_regionShift c_regionPairs c_regionFirst c_findings c_regionOf c_offset c_begun c_held c_isIn c_numbered c_left c_right c_top c_low c_missed) H → va_D A (mW o ad kc 3 c_width c_height c_grey c_setting c_leastOf c_mostOf c_lifted c_squares_2 c_square_3 c_dark_4 c_light_5 c_like_6 c_isCrowded_7 c_pairs_8 c_first_9 c_second_10 c_votes_11 c_shifts_13 c_shiftX_32 c_shiftY_33 c_regionAt c_regions c_regionShift c_regionPairs c_regionFirst c_findings c_regionOf c_offset c_begun c_held c_isIn c_numbered c_left c_right c_top c_low c_missed) → va_S A s.heap H locs → lv_has ls 5 [(0, .ref o), (1, .int x1_30), (2, .int x2_20), (3, .int x3_31)] → f_X8_findShifts_L51 FU x2_20 c_setting c_votes_11 c_shifts_13 k_34 n x1_30 x3_31 c_shiftX_32 c_shiftY_33 = some (c_worked', c_squares', c_square', c_dark', c_light', c_like', c_isCrowded', c_pairs', c_first', c_second', c_votes', c_shifts', c_shiftX', c_shiftY') → WW p l e (rmq 5 115) s m args below meth c Q H locs 51 ls [] := by
                          intro n
                          induction n with
                          | zero => intro x1_30 x3_31 c_shiftX_32 c_shiftY_33 H locs ls hP hD hS hl h; rw [f_X8_findShifts_L51] at h; cases h
                          | succ n ih =>
                            intro x1_30 x3_31 c_shiftX_32 c_shiftY_33 H locs ls hP hD hS hl h
                            rw [f_X8_findShifts_L51] at h
                            refine lv_iload_n hx hb dX8_findShifts_51 rfl (lv_at hl 3 rfl) ?_
                            refine lv_bipush (v := 15) hx hb dX8_findShifts_52 (by decide) ?_
                            refine lv_icmp_gt (tgt := 157) hx hb dX8_findShifts_54 (by decide) (fun q_57 => ?_) (fun q_57 => ?_)
                            · have h := it_t q_57 h
                              exact K_35 x1_30 x3_31 c_shiftX_32 c_shiftY_33 _ _ _ hP hD hS (lv_sub hl [0, 1, 2] rfl) h
                            · have h := it_f q_57 h
                              refine lv_aload_n hx hb dX8_findShifts_57 rfl (lv_at hl 0 rfl) ?_
                              refine r_get S gf_X8_54 hK hP 0 rfl rfl dX8_findShifts_58 ?_
                              refine lv_iload_n hx hb dX8_findShifts_61 rfl (lv_at hl 2 rfl) ?_
                              refine lv_iload_n hx hb dX8_findShifts_62 rfl (lv_at hl 3 rfl) ?_
                              obtain ⟨r_37, hq, h⟩ := bd1_e h
                              refine cp_Si (rest := [.ref (ad 17)]) [] S hN cb_X8_voteAt ml_X8_167 ⟨Nat.le_of_ble_eq_true rfl, Nat.le_of_ble_eq_true rfl⟩ (c_X8_voteAt l G kc x2_20 x3_31 hq) hK hP hD hS hA rfl rfl rfl rfl rfl (Nat.le_of_ble_eq_true rfl) hl.1 dX8_findShifts_63 (fun H locs hP hD hS => ?_)
                              have hP : VP G (mW o ad kc 3 c_width c_height c_grey c_setting c_leastOf c_mostOf c_lifted c_squares_2 c_square_3 c_dark_4 c_light_5 c_like_6 c_isCrowded_7 c_pairs_8 c_first_9 c_second_10 c_votes_11 c_shifts_13 c_shiftX_32 c_shiftY_33 c_regionAt c_regions c_regionShift c_regionPairs c_regionFirst c_findings c_regionOf c_offset c_begun c_held c_isIn c_numbered c_left c_right c_top c_low c_missed) H := hP
                              have hD : va_D A (mW o ad kc 3 c_width c_height c_grey c_setting c_leastOf c_mostOf c_lifted c_squares_2 c_square_3 c_dark_4 c_light_5 c_like_6 c_isCrowded_7 c_pairs_8 c_first_9 c_second_10 c_votes_11 c_shifts_13 c_shiftX_32 c_shiftY_33 c_regionAt c_regions c_regionShift c_regionPairs c_regionFirst c_findings c_regionOf c_offset c_begun c_held c_isIn c_numbered c_left c_right c_top c_low c_missed) := hD
                              refine r_iald hx hb hK hP 13 rfl dX8_findShifts_66 h (fun y_38 h => ?_)
                              refine lv_aload_n hx hb dX8_findShifts_67 rfl (lv_at hl 0 rfl) ?_
                              refine r_get S gf_X8_20 hK hP 0 rfl rfl dX8_findShifts_68 ?_
                              refine lv_bipush (v := 6) hx hb dX8_findShifts_71 (by decide) ?_
                              refine r_iald hx hb hK hP 2 rfl dX8_findShifts_73 h (fun y_39 h => ?_)
                              refine jn_w (fun (k : Int32 → Option (Int32 × Int32 × (Nat → Int32) × (Nat → Int32) × (Nat → Int32) × (Nat → Int32) × (Nat → Int32) × Int32 × (Nat → Int32) × (Nat → Int32) × (Nat → Int32) × Int32 × (Nat → Int32) × (Nat → Int32))) => ∀ (t_40 : Int32) (H : Heap) (locs : List Loc) (ls : Array Slot), VP G (mW o ad kc 3 c_width c_height c_grey c_setting c_leastOf c_mostOf c_lifted c_squares_2 c_square_3 c_dark_4 c_light_5 c_like_6 c_isCrowded_7 c_pairs_8 c_first_9 c_second_10 c_votes_11 c_shifts_13 c_shiftX_32 c_shiftY_33 c_regionAt c_regions c_regionShift c_regionPairs c_regionFirst c_findings c_regionOf c_offset c_begun c_held c_isIn c_numbered c_left c_right c_top c_low c_missed) H → va_D A (mW o ad kc 3 c_width c_height c_grey c_setting c_leastOf c_mostOf c_lifted c_squares_2 c_square_3 c_dark_4 c_light_5 c_like_6 c_isCrowded_7 c_pairs_8 c_first_9 c_second_10 c_votes_11 c_shifts_13 c_shiftX_32 c_shiftY_33 c_regionAt c_regions c_regionShift c_regionPairs c_regionFirst c_findings c_regionOf c_offset c_begun c_held c_isIn c_numbered c_left c_right c_top c_low c_missed) → va_S A s.heap H locs → lv_has ls 5 [(0, .ref o), (1, .int x1_30), (2, .int x2_20), (3, .int x3_31)] → k t_40 = some (c_worked', c_squares', c_square', c_dark', c_light', c_like', c_isCrowded', c_pairs', c_first', c_second', c_votes', c_shifts', c_shiftX', c_shiftY') → WW p l e (rmq 5 115) s m args below meth c Q H locs 91 ls [.int t_40]) h ?_ ?_
                              · intro t_40 H locs ls hP hD hS hl h
                                refine lv_istore (lv' := [(4, .int t_40), (0, .ref o), (1, .int x1_30), (2, .int x2_20), (3, .int x3_31)]) hx hb dX8_findShifts_91 hl (by decide) rfl (fun ls hl => ?_)
                                refine lv_iload hx hb dX8_findShifts_93 (lv_at hl 0 rfl) ?_
                                refine lv_if_eq (tgt := 151) hx hb dX8_findShifts_95 (by decide) (fun q_53 => ?_) (fun q_53 => ?_)
                                · have h := it_t q_53 h
                                  refine lv_iinc (v := (x3_31 + 1)) (lv' := [(3, .int (x3_31 + 1)), (4, .int t_40), (0, .ref o), (1, .int x1_30), (2, .int x2_20)]) hx hb dX8_findShifts_151 hl (k := 4) rfl rfl (by decide) rfl (fun ls hl => ?_)
                                  refine lv_goto (tgt := 51) hx hb dX8_findShifts_154 (by decide) ?_
                                  exact ih x1_30 (x3_31 + 1) c_shiftX_32 c_shiftY_33 _ _ _ hP hD hS (lv_sub hl [2, 3, 4, 0] rfl) h
                                · have h := it_f q_53 h
                                  refine lv_iload_n hx hb dX8_findShifts_98 rfl (lv_at hl 2 rfl) ?_
                                  refine jn_w (fun (k : Int32 → Option (Int32 × Int32 × (Nat → Int32) × (Nat → Int32) × (Nat → Int32) × (Nat → Int32) × (Nat → Int32) × Int32 × (Nat → Int32) × (Nat → Int32) × (Nat → Int32) × Int32 × (Nat → Int32) × (Nat → Int32))) => ∀ (x3_43 : Int32) (H : Heap) (locs : List Loc) (ls : Array Slot), VP G (mW o ad kc 3 c_width c_height c_grey c_setting c_leastOf c_mostOf c_lifted c_squares_2 c_square_3 c_dark_4 c_light_5 c_like_6 c_isCrowded_7 c_pairs_8 c_first_9 c_second_10 c_votes_11 c_shifts_13 c_shiftX_32 c_shiftY_33 c_regionAt c_regions c_regionShift c_regionPairs c_regionFirst c_findings c_regionOf c_offset c_begun c_held c_isIn c_numbered c_left c_right c_top c_low c_missed) H → va_D A (mW o ad kc 3 c_width c_height c_grey c_setting c_leastOf c_mostOf c_lifted c_squares_2 c_square_3 c_dark_4 c_light_5 c_like_6 c_isCrowded_7 c_pairs_8 c_first_9 c_second_10 c_votes_11 c_shifts_13 c_shiftX_32 c_shiftY_33 c_regionAt c_regions c_regionShift c_regionPairs c_regionFirst c_findings c_regionOf c_offset c_begun c_held c_isIn c_numbered c_left c_right c_top c_low c_missed) → va_S A s.heap H locs → lv_has ls 5 [(0, .ref o), (2, .int x2_20), (3, .int x3_43)] → k x3_43 = some (c_worked', c_squares', c_square', c_dark', c_light', c_like', c_isCrowded', c_pairs', c_first', c_second', c_votes', c_shifts', c_shiftX', c_shiftY') → WW p l e (rmq 5 115) s m args below meth c Q H locs 129 ls []) h ?_ ?_
                                  · intro x3_43 H locs ls hP hD hS hl h
                                    refine lv_aload_n hx hb dX8_findShifts_129 rfl (lv_at hl 0 rfl) ?_
                                    refine r_get S gf_X8_57 hK hP 0 rfl rfl dX8_findShifts_130 ?_
                                    refine lv_aload_n hx hb dX8_findShifts_133 rfl (lv_at hl 0 rfl) ?_
                                    refine r_get S gf_X8_170 hK hP 0 rfl rfl dX8_findShifts_134 ?_
                                    refine lv_iload_n hx hb dX8_findShifts_137 rfl (lv_at hl 1 rfl) ?_
                                    refine r_iast hx hb hK hP hD hS 14 rfl dX8_findShifts_138 h (fun c_shiftX_46 H locs hP hD hS h => ?_)
                                    have hP : VP G (mW o ad kc 3 c_width c_height c_grey c_setting c_leastOf c_mostOf c_lifted c_squares_2 c_square_3 c_dark_4 c_light_5 c_like_6 c_isCrowded_7 c_pairs_8 c_first_9 c_second_10 c_votes_11 c_shifts_13 c_shiftX_46 c_shiftY_33 c_regionAt c_regions c_regionShift c_regionPairs c_regionFirst c_findings c_regionOf c_offset c_begun c_held c_isIn c_numbered c_left c_right c_top c_low c_missed) H := hP
                                    have hD : va_D A (mW o ad kc 3 c_width c_height c_grey c_setting c_leastOf c_mostOf c_lifted c_squares_2 c_square_3 c_dark_4 c_light_5 c_like_6 c_isCrowded_7 c_pairs_8 c_first_9 c_second_10 c_votes_11 c_shifts_13 c_shiftX_46 c_shiftY_33 c_regionAt c_regions c_regionShift c_regionPairs c_regionFirst c_findings c_regionOf c_offset c_begun c_held c_isIn c_numbered c_left c_right c_top c_low c_missed) := hD
                                    refine lv_aload_n hx hb dX8_findShifts_139 rfl (lv_at hl 0 rfl) ?_
                                    refine r_get S gf_X8_60 hK hP 0 rfl rfl dX8_findShifts_140 ?_
                                    refine lv_aload_n hx hb dX8_findShifts_143 rfl (lv_at hl 0 rfl) ?_
                                    refine r_get S gf_X8_170 hK hP 0 rfl rfl dX8_findShifts_144 ?_
                                    refine lv_iload_n hx hb dX8_findShifts_147 rfl (lv_at hl 2 rfl) ?_
                                    refine r_iast hx hb hK hP hD hS 15 rfl dX8_findShifts_148 h (fun c_shiftY_47 H locs hP hD hS h => ?_)
                                    have hP : VP G (mW o ad kc 3 c_width c_height c_grey c_setting c_leastOf c_mostOf c_lifted c_squares_2 c_square_3 c_dark_4 c_light_5 c_like_6 c_isCrowded_7 c_pairs_8 c_first_9 c_second_10 c_votes_11 c_shifts_13 c_shiftX_46 c_shiftY_47 c_regionAt c_regions c_regionShift c_regionPairs c_regionFirst c_findings c_regionOf c_offset c_begun c_held c_isIn c_numbered c_left c_right c_top c_low c_missed) H := hP
                                    have hD : va_D A (mW o ad kc 3 c_width c_height c_grey c_setting c_leastOf c_mostOf c_lifted c_squares_2 c_square_3 c_dark_4 c_light_5 c_like_6 c_isCrowded_7 c_pairs_8 c_first_9 c_second_10 c_votes_11 c_shifts_13 c_shiftX_46 c_shiftY_47 c_regionAt c_regions c_regionShift c_regionPairs c_regionFirst c_findings c_regionOf c_offset c_begun c_held c_isIn c_numbered c_left c_right c_top c_low c_missed) := hD
                                    refine lv_iconst (v := 1) hx hb dX8_findShifts_149 (by decide) ?_
                                    refine lv_istore_n (lv' := [(1, .int 1), (0, .ref o), (2, .int x2_20), (3, .int x3_43)]) hx hb dX8_findShifts_150 rfl hl (by decide) rfl (fun ls hl => ?_)
                                    refine lv_iinc (v := (x3_43 + 1)) (lv' := [(3, .int (x3_43 + 1)), (1, .int 1), (0, .ref o), (2, .int x2_20)]) hx hb dX8_findShifts_151 hl (k := 3) rfl rfl (by decide) rfl (fun ls hl => ?_)
                                    refine lv_goto (tgt := 51) hx hb dX8_findShifts_154 (by decide) ?_
                                    exact ih 1 (x3_43 + 1) c_shiftX_46 c_shiftY_47 _ _ _ hP hD hS (lv_sub hl [2, 1, 3, 0] rfl) h
                                  · intro j_44 J_45 h
                                    refine lv_if_eq (tgt := 129) hx hb dX8_findShifts_99 (by decide) (fun q_52 => ?_) (fun q_52 => ?_)
                                    · have h := it_t q_52 h
                                      exact J_45 x3_31 _ _ _ hP hD hS (lv_sub hl [1, 3, 4] rfl) h
                                    · have h := it_f q_52 h
                                      refine lv_aload_n hx hb dX8_findShifts_102 rfl (lv_at hl 1 rfl) ?_
                                      refine lv_iload_n hx hb dX8_findShifts_103 rfl (lv_at hl 3 rfl) ?_
                                      refine lv_iload_n hx hb dX8_findShifts_104 rfl (lv_at hl 4 rfl) ?_
                                      refine lv_aload_n hx hb dX8_findShifts_105 rfl (lv_at hl 1 rfl) ?_
                                      refine r_get S gf_X8_57 hK hP 0 rfl rfl dX8_findShifts_106 ?_
                                      refine lv_aload_n hx hb dX8_findShifts_109 rfl (lv_at hl 1 rfl) ?_
                                      refine r_get S gf_X8_170 hK hP 0 rfl rfl dX8_findShifts_110 ?_
                                      refine r_iald hx hb hK hP 14 rfl dX8_findShifts_113 h (fun y_48 h => ?_)
                                      refine lv_aload_n hx hb dX8_findShifts_114 rfl (lv_at hl 1 rfl) ?_
                                      refine r_get S gf_X8_60 hK hP 0 rfl rfl dX8_findShifts_115 ?_
                                      refine lv_aload_n hx hb dX8_findShifts_118 rfl (lv_at hl 1 rfl) ?_
                                      refine r_get S gf_X8_170 hK hP 0 rfl rfl dX8_findShifts_119 ?_
                                      refine r_iald hx hb hK hP 15 rfl dX8_findShifts_122 h (fun y_49 h => ?_)
                                      obtain ⟨r_50, hq, h⟩ := bd1_e h
                                      refine cs_Vi (rest := []) (ci := 7) S hN cb_X8_isShiftAhead ml_X8_176 ⟨Nat.le_of_ble_eq_true rfl, Nat.le_of_ble_eq_true rfl⟩ (c_X8_isShiftAhead l G kc o ad x2_20 x3_31 y_48 y_49 hq) hK hP hD hS hA 0 rfl rfl rfl rfl rfl (Nat.le_of_ble_eq_true rfl) hl.1 dX8_findShifts_123 (fun H locs hP hD hS => ?_)
                                      refine lv_if_eq (tgt := 151) hx hb dX8_findShifts_126 (by decide) (fun q_51 => ?_) (fun q_51 => ?_)
                                      · have h := it_t q_51 h
                                        refine lv_iinc (v := (x3_31 + 1)) (lv' := [(3, .int (x3_31 + 1)), (4, .int t_40), (0, .ref o), (1, .int x1_30), (2, .int x2_20)]) hx hb dX8_findShifts_151 hl (k := 4) rfl rfl (by decide) rfl (fun ls hl => ?_)
                                        refine lv_goto (tgt := 51) hx hb dX8_findShifts_154 (by decide) ?_
                                        exact ih x1_30 (x3_31 + 1) c_shiftX_32 c_shiftY_33 _ _ _ hP hD hS (lv_sub hl [2, 3, 4, 0] rfl) h
                                      · have h := it_f q_51 h
                                        exact J_45 x3_31 _ _ _ hP hD hS (lv_sub hl [1, 3, 4] rfl) h
                              · intro j_41 J_42 h
                                refine lv_icmp_lt (tgt := 90) hx hb dX8_findShifts_74 (by decide) (fun q_56 => ?_) (fun q_56 => ?_)
                                · have h := it_t q_56 h
                                  refine lv_iconst (v := 0) hx hb dX8_findShifts_90 (by decide) ?_
                                  exact J_42 0 _ _ _ hP hD hS (lv_sub hl [0, 1, 2, 3] rfl) h
                                · have h := it_f q_56 h
                                  refine lv_aload_n hx hb dX8_findShifts_77 rfl (lv_at hl 0 rfl) ?_
                                  refine lv_iload_n hx hb dX8_findShifts_78 rfl (lv_at hl 2 rfl) ?_
                                  refine lv_iload_n hx hb dX8_findShifts_79 rfl (lv_at hl 3 rfl) ?_
                                  obtain ⟨r_54, hq, h⟩ := bd1_e h
                                  refine cs_Vi (rest := []) (ci := 7) S hN cb_X8_isShift ml_X8_173 ⟨Nat.le_of_ble_eq_true rfl, Nat.le_of_ble_eq_true rfl⟩ (c_X8_isShift l G kc o ad x2_20 x3_31 hq) hK hP hD hS hA 0 rfl rfl rfl rfl rfl (Nat.le_of_ble_eq_true rfl) hl.1 dX8_findShifts_80 (fun H locs hP hD hS => ?_)
                                  refine lv_if_ne (tgt := 90) hx hb dX8_findShifts_83 (by decide) (fun q_55 => ?_) (fun q_55 => ?_)
                                  · have h := it_f q_55 h
                                    refine lv_iconst (v := 0) hx hb dX8_findShifts_90 (by decide) ?_
                                    exact J_42 0 _ _ _ hP hD hS (lv_sub hl [0, 1, 2, 3] rfl) h
                                  · have h := it_t q_55 h
                                    refine lv_iconst (v := 1) hx hb dX8_findShifts_86 (by decide) ?_
                                    refine lv_goto (tgt := 91) hx hb dX8_findShifts_87 (by decide) ?_
                                    exact J_42 1 _ _ _ hP hD hS (lv_sub hl [0, 1, 2, 3] rfl) h
                        exact L_36 FU x1_19 0 c_shiftX_21 c_shiftY_22 _ _ _ hP hD hS (lv_sub hl [1, 2, 3, 0] rfl) h
                exact L_25 FU 0 (-15) c_shiftX_14 c_shiftY_15 _ _ _ hP hD hS (lv_sub hl [2, 1, 0] rfl) h
      exact L_18 FU 1 0 c_shiftX c_shiftY _ _ _ hP hD hS (lv_sub hl [1, 0] rfl) h
  · have h := it_f q_61 h
    cases h
    exact ret_v hx hb hr hQ hlocks hK hP hD hS dX8_findShifts_8
