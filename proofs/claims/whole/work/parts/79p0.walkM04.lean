set_option maxHeartbeats 1000000 in
set_option maxRecDepth 100000 in
theorem c_X8_nextRegion (l : Launch) (G : va_G) (kc : Nat → ClassId) (o : Nat) (ad : Nat → Nat) {c_worked : Int32} {c_width : Int32} {c_height : Int32} {c_grey : (Nat → Int32)} {c_setting : (Nat → Int32)} {c_leastOf : (Nat → Int32)} {c_mostOf : (Nat → Int32)} {c_lifted : (Nat → Int32)} {c_squares : Int32} {c_square : (Nat → Int32)} {c_dark : (Nat → Int32)} {c_light : (Nat → Int32)} {c_like : (Nat → Int32)} {c_isCrowded : (Nat → Int32)} {c_pairs : Int32} {c_first : (Nat → Int32)} {c_second : (Nat → Int32)} {c_votes : (Nat → Int32)} {c_shifts : Int32} {c_shiftX : (Nat → Int32)} {c_shiftY : (Nat → Int32)} {c_regionAt : (Nat → Int32)} {c_regions : Int32} {c_regionShift : (Nat → Int32)} {c_regionPairs : (Nat → Int32)} {c_regionFirst : (Nat → Int32)} {c_findings : Int32} {c_regionOf : (Nat → Int32)} {c_offset : (Nat → Int32)} {c_begun : (Nat → Int32)} {c_held : (Nat → Int32)} {c_isIn : (Nat → Int32)} {c_numbered : (Nat → Int32)} {c_left : Int32} {c_right : Int32} {c_top : Int32} {c_low : Int32} {c_missed : Int32}  {r : Int32} {FU : Nat} (h : f_X8_nextRegion FU c_regions c_regionPairs c_findings c_regionOf = some r) : CTi l G kc yX8_nextRegion cX8_nextRegion 4 (some .int) (rmq 1 22) [.ref o] (mW o ad kc c_worked c_width c_height c_grey c_setting c_leastOf c_mostOf c_lifted c_squares c_square c_dark c_light c_like c_isCrowded c_pairs c_first c_second c_votes c_shifts c_shiftX c_shiftY c_regionAt c_regions c_regionShift c_regionPairs c_regionFirst c_findings c_regionOf c_offset c_begun c_held c_isIn c_numbered c_left c_right c_top c_low c_missed) (mW o ad kc c_worked c_width c_height c_grey c_setting c_leastOf c_mostOf c_lifted c_squares c_square c_dark c_light c_like c_isCrowded c_pairs c_first c_second c_votes c_shifts c_shiftX c_shiftY c_regionAt c_regions c_regionShift c_regionPairs c_regionFirst c_findings c_regionOf c_offset c_begun c_held c_isIn c_numbered c_left c_right c_top c_low c_missed) r := by
  refine CTi.mk (by decide) (Nat.le_of_ble_eq_true rfl) ?_
  intro p e s m args below meth c A ls Q hQ S hr hlocks hN hA hK hl hP hD hS
  have hx := S.1
  have hb := S.2.1
  have hl : lv_has ls 4 [(0, .ref o)] := hl
  unfold f_X8_nextRegion at h
  refine lv_bipush (v := (-9)) hx hb dX8_nextRegion_0 (by decide) ?_
  refine lv_istore_n (lv' := [(1, .int (-9)), (0, .ref o)]) hx hb dX8_nextRegion_2 rfl hl (by decide) rfl (fun ls hl => ?_)
  refine lv_iconst (v := 0) hx hb dX8_nextRegion_3 (by decide) ?_
  refine lv_istore_n (lv' := [(2, .int 0), (1, .int (-9)), (0, .ref o)]) hx hb dX8_nextRegion_4 rfl hl (by decide) rfl (fun ls hl => ?_)
  refine jn_w (t := fun k => f_X8_nextRegion_L5 FU c_regions c_regionPairs c_findings c_regionOf k FU (-9) 0) (fun (k : Int32 → Int32 → Option (Int32)) => ∀ (x1_1 : Int32) (x2_2 : Int32) (H : Heap) (locs : List Loc) (ls : Array Slot), VP G (mW o ad kc c_worked c_width c_height c_grey c_setting c_leastOf c_mostOf c_lifted c_squares c_square c_dark c_light c_like c_isCrowded c_pairs c_first c_second c_votes c_shifts c_shiftX c_shiftY c_regionAt c_regions c_regionShift c_regionPairs c_regionFirst c_findings c_regionOf c_offset c_begun c_held c_isIn c_numbered c_left c_right c_top c_low c_missed) H → va_D A (mW o ad kc c_worked c_width c_height c_grey c_setting c_leastOf c_mostOf c_lifted c_squares c_square c_dark c_light c_like c_isCrowded c_pairs c_first c_second c_votes c_shifts c_shiftX c_shiftY c_regionAt c_regions c_regionShift c_regionPairs c_regionFirst c_findings c_regionOf c_offset c_begun c_held c_isIn c_numbered c_left c_right c_top c_low c_missed) → va_S A s.heap H locs → lv_has ls 4 [(1, .int x1_1)] → k x1_1 x2_2 = some r → WW p l e (rmq 1 22) s m args below meth c Q H locs 64 ls []) h ?_ ?_
  · intro x1_1 x2_2 H locs ls hP hD hS hl h
    refine lv_iload_n hx hb dX8_nextRegion_64 rfl (lv_at hl 0 rfl) ?_
    cases h
    exact ret_i hx hb hr rfl hQ hlocks hK hP hD hS dX8_nextRegion_65
  · intro k_3 K_4 h
    have L_5 : ∀ (n : Nat) (x1_1 : Int32) (x2_2 : Int32) (H : Heap) (locs : List Loc) (ls : Array Slot), VP G (mW o ad kc c_worked c_width c_height c_grey c_setting c_leastOf c_mostOf c_lifted c_squares c_square c_dark c_light c_like c_isCrowded c_pairs c_first c_second c_votes c_shifts c_shiftX c_shiftY c_regionAt c_regions c_regionShift c_regionPairs c_regionFirst c_findings c_regionOf c_offset c_begun c_held c_isIn c_numbered c_left c_right c_top c_low c_missed) H → va_D A (mW o ad kc c_worked c_width c_height c_grey c_setting c_leastOf c_mostOf c_lifted c_squares c_square c_dark c_light c_like c_isCrowded c_pairs c_first c_second c_votes c_shifts c_shiftX c_shiftY c_regionAt c_regions c_regionShift c_regionPairs c_regionFirst c_findings c_regionOf c_offset c_begun c_held c_isIn c_numbered c_left c_right c_top c_low c_missed) → va_S A s.heap H locs → lv_has ls 4 [(0, .ref o), (1, .int x1_1), (2, .int x2_2)] → f_X8_nextRegion_L5 FU c_regions c_regionPairs c_findings c_regionOf k_3 n x1_1 x2_2 = some r → WW p l e (rmq 1 22) s m args below meth c Q H locs 5 ls [] := by
      intro n
      induction n with
      | zero => intro x1_1 x2_2 H locs ls hP hD hS hl h; rw [f_X8_nextRegion_L5] at h; cases h
      | succ n ih =>
        intro x1_1 x2_2 H locs ls hP hD hS hl h
        rw [f_X8_nextRegion_L5] at h
        refine lv_iload_n hx hb dX8_nextRegion_5 rfl (lv_at hl 2 rfl) ?_
        refine lv_aload_n hx hb dX8_nextRegion_6 rfl (lv_at hl 0 rfl) ?_
        refine r_get S gf_X8_189 hK hP 0 rfl rfl dX8_nextRegion_7 ?_
        refine lv_icmp_ge (tgt := 64) hx hb dX8_nextRegion_10 (by decide) (fun q_19 => ?_) (fun q_19 => ?_)
        · have h := it_t q_19 h
          exact K_4 x1_1 x2_2 _ _ _ hP hD hS (lv_sub hl [1] rfl) h
        · have h := it_f q_19 h
          refine lv_aload_n hx hb dX8_nextRegion_13 rfl (lv_at hl 0 rfl) ?_
          refine lv_iload_n hx hb dX8_nextRegion_14 rfl (lv_at hl 2 rfl) ?_
          obtain ⟨r_6, hq, h⟩ := bd1_e h
          refine cs_Vi (rest := []) (ci := 7) S hN cb_X8_isTaken ml_X8_202 ⟨Nat.le_of_ble_eq_true rfl, Nat.le_of_ble_eq_true rfl⟩ (c_X8_isTaken l G kc o ad x2_2 hq) hK hP hD hS hA 0 rfl rfl rfl rfl rfl (Nat.le_of_ble_eq_true rfl) hl.1 dX8_nextRegion_15 (fun H locs hP hD hS => ?_)
          refine jn_w (fun (k : Int32 → Option (Int32)) => ∀ (t_7 : Int32) (H : Heap) (locs : List Loc) (ls : Array Slot), VP G (mW o ad kc c_worked c_width c_height c_grey c_setting c_leastOf c_mostOf c_lifted c_squares c_square c_dark c_light c_like c_isCrowded c_pairs c_first c_second c_votes c_shifts c_shiftX c_shiftY c_regionAt c_regions c_regionShift c_regionPairs c_regionFirst c_findings c_regionOf c_offset c_begun c_held c_isIn c_numbered c_left c_right c_top c_low c_missed) H → va_D A (mW o ad kc c_worked c_width c_height c_grey c_setting c_leastOf c_mostOf c_lifted c_squares c_square c_dark c_light c_like c_isCrowded c_pairs c_first c_second c_votes c_shifts c_shiftX c_shiftY c_regionAt c_regions c_regionShift c_regionPairs c_regionFirst c_findings c_regionOf c_offset c_begun c_held c_isIn c_numbered c_left c_right c_top c_low c_missed) → va_S A s.heap H locs → lv_has ls 4 [(0, .ref o), (1, .int x1_1), (2, .int x2_2)] → k t_7 = some r → WW p l e (rmq 1 22) s m args below meth c Q H locs 26 ls [.int t_7]) h ?_ ?_
          · intro t_7 H locs ls hP hD hS hl h
            refine lv_istore_n (lv' := [(3, .int t_7), (0, .ref o), (1, .int x1_1), (2, .int x2_2)]) hx hb dX8_nextRegion_26 rfl hl (by decide) rfl (fun ls hl => ?_)
            refine lv_iload_n hx hb dX8_nextRegion_27 rfl (lv_at hl 0 rfl) ?_
            refine jn_w (fun (k : Int32 → Option (Int32)) => ∀ (t_10 : Int32) (H : Heap) (locs : List Loc) (ls : Array Slot), VP G (mW o ad kc c_worked c_width c_height c_grey c_setting c_leastOf c_mostOf c_lifted c_squares c_square c_dark c_light c_like c_isCrowded c_pairs c_first c_second c_votes c_shifts c_shiftX c_shiftY c_regionAt c_regions c_regionShift c_regionPairs c_regionFirst c_findings c_regionOf c_offset c_begun c_held c_isIn c_numbered c_left c_right c_top c_low c_missed) H → va_D A (mW o ad kc c_worked c_width c_height c_grey c_setting c_leastOf c_mostOf c_lifted c_squares c_square c_dark c_light c_like c_isCrowded c_pairs c_first c_second c_votes c_shifts c_shiftX c_shiftY c_regionAt c_regions c_regionShift c_regionPairs c_regionFirst c_findings c_regionOf c_offset c_begun c_held c_isIn c_numbered c_left c_right c_top c_low c_missed) → va_S A s.heap H locs → lv_has ls 4 [(0, .ref o), (2, .int x2_2)] → k t_10 = some r → WW p l e (rmq 1 22) s m args below meth c Q H locs 57 ls [.int t_10]) h ?_ ?_
            · intro t_10 H locs ls hP hD hS hl h
              refine lv_istore_n (lv' := [(1, .int t_10), (0, .ref o), (2, .int x2_2)]) hx hb dX8_nextRegion_57 rfl hl (by decide) rfl (fun ls hl => ?_)
              refine lv_iinc (v := (x2_2 + 1)) (lv' := [(2, .int (x2_2 + 1)), (1, .int t_10), (0, .ref o)]) hx hb dX8_nextRegion_58 hl (k := 2) rfl rfl (by decide) rfl (fun ls hl => ?_)
              refine lv_goto (tgt := 5) hx hb dX8_nextRegion_61 (by decide) ?_
              exact ih t_10 (x2_2 + 1) _ _ _ hP hD hS (lv_sub hl [2, 1, 0] rfl) h
            · intro j_11 J_12 h
              refine lv_if_eq (tgt := 56) hx hb dX8_nextRegion_28 (by decide) (fun q_17 => ?_) (fun q_17 => ?_)
              · have h := it_t q_17 h
                refine lv_iload_n hx hb dX8_nextRegion_56 rfl (lv_at hl 2 rfl) ?_
                exact J_12 x1_1 _ _ _ hP hD hS (lv_sub hl [1, 3] rfl) h
              · have h := it_f q_17 h
                refine lv_iload_n hx hb dX8_nextRegion_31 rfl (lv_at hl 2 rfl) ?_
                refine lv_bipush (v := (-9)) hx hb dX8_nextRegion_32 (by decide) ?_
                refine lv_icmp_eq (tgt := 52) hx hb dX8_nextRegion_34 (by decide) (fun q_16 => ?_) (fun q_16 => ?_)
                · have h := it_t q_16 h
                  refine lv_iload_n hx hb dX8_nextRegion_52 rfl (lv_at hl 3 rfl) ?_
                  refine lv_goto (tgt := 57) hx hb dX8_nextRegion_53 (by decide) ?_
                  exact J_12 x2_2 _ _ _ hP hD hS (lv_sub hl [1, 3] rfl) h
                · have h := it_f q_16 h
                  refine lv_aload_n hx hb dX8_nextRegion_37 rfl (lv_at hl 1 rfl) ?_
                  refine r_get S gf_X8_69 hK hP 0 rfl rfl dX8_nextRegion_38 ?_
                  refine lv_iload_n hx hb dX8_nextRegion_41 rfl (lv_at hl 3 rfl) ?_
                  refine r_iald hx hb hK hP 18 rfl dX8_nextRegion_42 h (fun y_13 h => ?_)
                  refine lv_aload_n hx hb dX8_nextRegion_43 rfl (lv_at hl 1 rfl) ?_
                  refine r_get S gf_X8_69 hK hP 0 rfl rfl dX8_nextRegion_44 ?_
                  refine lv_iload_n hx hb dX8_nextRegion_47 rfl (lv_at hl 2 rfl) ?_
                  refine r_iald hx hb hK hP 18 rfl dX8_nextRegion_48 h (fun y_14 h => ?_)
                  refine lv_icmp_le (tgt := 56) hx hb dX8_nextRegion_49 (by decide) (fun q_15 => ?_) (fun q_15 => ?_)
                  · have h := it_t q_15 h
                    refine lv_iload_n hx hb dX8_nextRegion_56 rfl (lv_at hl 2 rfl) ?_
                    exact J_12 x1_1 _ _ _ hP hD hS (lv_sub hl [1, 3] rfl) h
                  · have h := it_f q_15 h
                    refine lv_iload_n hx hb dX8_nextRegion_52 rfl (lv_at hl 3 rfl) ?_
                    refine lv_goto (tgt := 57) hx hb dX8_nextRegion_53 (by decide) ?_
                    exact J_12 x2_2 _ _ _ hP hD hS (lv_sub hl [1, 3] rfl) h
          · intro j_8 J_9 h
            refine lv_if_ne (tgt := 25) hx hb dX8_nextRegion_18 (by decide) (fun q_18 => ?_) (fun q_18 => ?_)
            · have h := it_f q_18 h
              refine lv_iconst (v := 0) hx hb dX8_nextRegion_25 (by decide) ?_
              exact J_9 0 _ _ _ hP hD hS (lv_sub hl [0, 1, 2] rfl) h
            · have h := it_t q_18 h
              refine lv_iconst (v := 1) hx hb dX8_nextRegion_21 (by decide) ?_
              refine lv_goto (tgt := 26) hx hb dX8_nextRegion_22 (by decide) ?_
              exact J_9 1 _ _ _ hP hD hS (lv_sub hl [0, 1, 2] rfl) h
    exact L_5 FU (-9) 0 _ _ _ hP hD hS (lv_sub hl [2, 1, 0] rfl) h
set_option maxHeartbeats 1000000 in
set_option maxRecDepth 100000 in
theorem c_X8_shiftOf (l : Launch) (G : va_G) (kc : Nat → ClassId) (o : Nat) (ad : Nat → Nat) {c_worked : Int32} {c_width : Int32} {c_height : Int32} {c_grey : (Nat → Int32)} {c_setting : (Nat → Int32)} {c_leastOf : (Nat → Int32)} {c_mostOf : (Nat → Int32)} {c_lifted : (Nat → Int32)} {c_squares : Int32} {c_square : (Nat → Int32)} {c_dark : (Nat → Int32)} {c_light : (Nat → Int32)} {c_like : (Nat → Int32)} {c_isCrowded : (Nat → Int32)} {c_pairs : Int32} {c_first : (Nat → Int32)} {c_second : (Nat → Int32)} {c_votes : (Nat → Int32)} {c_shifts : Int32} {c_shiftX : (Nat → Int32)} {c_shiftY : (Nat → Int32)} {c_regionAt : (Nat → Int32)} {c_regions : Int32} {c_regionShift : (Nat → Int32)} {c_regionPairs : (Nat → Int32)} {c_regionFirst : (Nat → Int32)} {c_findings : Int32} {c_regionOf : (Nat → Int32)} {c_offset : (Nat → Int32)} {c_begun : (Nat → Int32)} {c_held : (Nat → Int32)} {c_isIn : (Nat → Int32)} {c_numbered : (Nat → Int32)} {c_left : Int32} {c_right : Int32} {c_top : Int32} {c_low : Int32} {c_missed : Int32} (x1 : Int32) {r : Int32} {FU : Nat} (h : f_X8_shiftOf FU c_regionShift c_regionOf x1 = some r) : CTi l G kc yX8_shiftOf cX8_shiftOf 2 (some .int) (rmq 0 0) [.ref o, .int x1] (mW o ad kc c_worked c_width c_height c_grey c_setting c_leastOf c_mostOf c_lifted c_squares c_square c_dark c_light c_like c_isCrowded c_pairs c_first c_second c_votes c_shifts c_shiftX c_shiftY c_regionAt c_regions c_regionShift c_regionPairs c_regionFirst c_findings c_regionOf c_offset c_begun c_held c_isIn c_numbered c_left c_right c_top c_low c_missed) (mW o ad kc c_worked c_width c_height c_grey c_setting c_leastOf c_mostOf c_lifted c_squares c_square c_dark c_light c_like c_isCrowded c_pairs c_first c_second c_votes c_shifts c_shiftX c_shiftY c_regionAt c_regions c_regionShift c_regionPairs c_regionFirst c_findings c_regionOf c_offset c_begun c_held c_isIn c_numbered c_left c_right c_top c_low c_missed) r := by
  refine CTi.mk (by decide) (Nat.le_of_ble_eq_true rfl) ?_
  intro p e s m args below meth c A ls Q hQ S hr hlocks hN hA hK hl hP hD hS
  have hx := S.1
  have hb := S.2.1
  have hl : lv_has ls 2 [(0, .ref o), (1, .int x1)] := hl
  unfold f_X8_shiftOf at h
  refine lv_aload_n hx hb dX8_shiftOf_0 rfl (lv_at hl 0 rfl) ?_
  refine r_get S gf_X8_66 hK hP 0 rfl rfl dX8_shiftOf_1 ?_
  refine lv_aload_n hx hb dX8_shiftOf_4 rfl (lv_at hl 0 rfl) ?_
  refine r_get S gf_X8_75 hK hP 0 rfl rfl dX8_shiftOf_5 ?_
  refine lv_iload_n hx hb dX8_shiftOf_8 rfl (lv_at hl 1 rfl) ?_
  refine r_iald hx hb hK hP 20 rfl dX8_shiftOf_9 h (fun y_1 h => ?_)
  refine r_iald hx hb hK hP 17 rfl dX8_shiftOf_10 h (fun y_2 h => ?_)
  cases h
  exact ret_i hx hb hr rfl hQ hlocks hK hP hD hS dX8_shiftOf_11
set_option maxHeartbeats 1000000 in
set_option maxRecDepth 100000 in
theorem c_X8_copyOf (l : Launch) (G : va_G) (kc : Nat → ClassId) (o : Nat) (ad : Nat → Nat) {c_worked : Int32} {c_width : Int32} {c_height : Int32} {c_grey : (Nat → Int32)} {c_setting : (Nat → Int32)} {c_leastOf : (Nat → Int32)} {c_mostOf : (Nat → Int32)} {c_lifted : (Nat → Int32)} {c_squares : Int32} {c_square : (Nat → Int32)} {c_dark : (Nat → Int32)} {c_light : (Nat → Int32)} {c_like : (Nat → Int32)} {c_isCrowded : (Nat → Int32)} {c_pairs : Int32} {c_first : (Nat → Int32)} {c_second : (Nat → Int32)} {c_votes : (Nat → Int32)} {c_shifts : Int32} {c_shiftX : (Nat → Int32)} {c_shiftY : (Nat → Int32)} {c_regionAt : (Nat → Int32)} {c_regions : Int32} {c_regionShift : (Nat → Int32)} {c_regionPairs : (Nat → Int32)} {c_regionFirst : (Nat → Int32)} {c_findings : Int32} {c_regionOf : (Nat → Int32)} {c_offset : (Nat → Int32)} {c_begun : (Nat → Int32)} {c_held : (Nat → Int32)} {c_isIn : (Nat → Int32)} {c_numbered : (Nat → Int32)} {c_left : Int32} {c_right : Int32} {c_top : Int32} {c_low : Int32} {c_missed : Int32} (x1 : Int32) (x2 : Int32) {r : Int32} {FU : Nat} (h : f_X8_copyOf FU c_width c_height c_shiftX c_shiftY c_regionShift c_regionOf x1 x2 = some r) : CTi l G kc yX8_copyOf cX8_copyOf 5 (some .int) (rmq 2 44) [.ref o, .int x1, .int x2] (mW o ad kc c_worked c_width c_height c_grey c_setting c_leastOf c_mostOf c_lifted c_squares c_square c_dark c_light c_like c_isCrowded c_pairs c_first c_second c_votes c_shifts c_shiftX c_shiftY c_regionAt c_regions c_regionShift c_regionPairs c_regionFirst c_findings c_regionOf c_offset c_begun c_held c_isIn c_numbered c_left c_right c_top c_low c_missed) (mW o ad kc c_worked c_width c_height c_grey c_setting c_leastOf c_mostOf c_lifted c_squares c_square c_dark c_light c_like c_isCrowded c_pairs c_first c_second c_votes c_shifts c_shiftX c_shiftY c_regionAt c_regions c_regionShift c_regionPairs c_regionFirst c_findings c_regionOf c_offset c_begun c_held c_isIn c_numbered c_left c_right c_top c_low c_missed) r := by
  refine CTi.mk (by decide) (Nat.le_of_ble_eq_true rfl) ?_
  intro p e s m args below meth c A ls Q hQ S hr hlocks hN hA hK hl hP hD hS
  have hx := S.1
  have hb := S.2.1
  have hl : lv_has ls 5 [(0, .ref o), (1, .int x1), (2, .int x2)] := hl
  unfold f_X8_copyOf at h
  refine lv_iload_n hx hb dX8_copyOf_0 rfl (lv_at hl 2 rfl) ?_
  refine lv_bipush (v := 16) hx hb dX8_copyOf_1 (by decide) ?_
  refine lv_irem hx hb dX8_copyOf_3 (by decide) ?_
  refine lv_aload_n hx hb dX8_copyOf_4 rfl (lv_at hl 0 rfl) ?_
  refine r_get S gf_X8_57 hK hP 0 rfl rfl dX8_copyOf_5 ?_
  refine lv_aload_n hx hb dX8_copyOf_8 rfl (lv_at hl 0 rfl) ?_
  refine lv_iload_n hx hb dX8_copyOf_9 rfl (lv_at hl 1 rfl) ?_
  obtain ⟨r_1, hq, h⟩ := bd1_e h
  refine cs_Vi (rest := [.ref (ad 19), .int (x2 - x2 / 16 * 16)]) (ci := 7) S hN cb_X8_shiftOf ml_X8_205 ⟨Nat.le_of_ble_eq_true rfl, Nat.le_of_ble_eq_true rfl⟩ (c_X8_shiftOf l G kc o ad x1 hq) hK hP hD hS hA 0 rfl rfl rfl rfl rfl (Nat.le_of_ble_eq_true rfl) hl.1 dX8_copyOf_10 (fun H locs hP hD hS => ?_)
  refine r_iald hx hb hK hP 14 rfl dX8_copyOf_13 h (fun y_2 h => ?_)
  refine lv_iadd hx hb dX8_copyOf_14 ?_
  refine lv_istore_n (lv' := [(3, .int ((x2 - x2 / 16 * 16) + y_2)), (0, .ref o), (1, .int x1), (2, .int x2)]) hx hb dX8_copyOf_15 rfl hl (by decide) rfl (fun ls hl => ?_)
  refine lv_iload_n hx hb dX8_copyOf_16 rfl (lv_at hl 3 rfl) ?_
  refine lv_bipush (v := 16) hx hb dX8_copyOf_17 (by decide) ?_
  refine lv_idiv hx hb dX8_copyOf_19 (by decide) ?_
  refine lv_aload_n hx hb dX8_copyOf_20 rfl (lv_at hl 1 rfl) ?_
  refine r_get S gf_X8_60 hK hP 0 rfl rfl dX8_copyOf_21 ?_
  refine lv_aload_n hx hb dX8_copyOf_24 rfl (lv_at hl 1 rfl) ?_
  refine lv_iload_n hx hb dX8_copyOf_25 rfl (lv_at hl 2 rfl) ?_
  obtain ⟨r_3, hq, h⟩ := bd1_e h
  refine cs_Vi (rest := [.ref (ad 20), .int (x2 / 16)]) (ci := 7) S hN cb_X8_shiftOf ml_X8_205 ⟨Nat.le_of_ble_eq_true rfl, Nat.le_of_ble_eq_true rfl⟩ (c_X8_shiftOf l G kc o ad x1 hq) hK hP hD hS hA 0 rfl rfl rfl rfl rfl (Nat.le_of_ble_eq_true rfl) hl.1 dX8_copyOf_26 (fun H locs hP hD hS => ?_)
  refine r_iald hx hb hK hP 15 rfl dX8_copyOf_29 h (fun y_4 h => ?_)
  refine lv_iadd hx hb dX8_copyOf_30 ?_
  refine lv_istore (lv' := [(4, .int ((x2 / 16) + y_4)), (3, .int ((x2 - x2 / 16 * 16) + y_2)), (0, .ref o), (1, .int x1), (2, .int x2)]) hx hb dX8_copyOf_31 hl (by decide) rfl (fun ls hl => ?_)
  refine lv_aload_n hx hb dX8_copyOf_33 rfl (lv_at hl 2 rfl) ?_
  refine lv_iload_n hx hb dX8_copyOf_34 rfl (lv_at hl 1 rfl) ?_
  refine lv_iload hx hb dX8_copyOf_35 (lv_at hl 0 rfl) ?_
  obtain ⟨r_5, hq, h⟩ := bd1_e h
  refine cs_Vi (rest := []) (ci := 7) S hN cb_X8_isPlace ml_X8_104 ⟨Nat.le_of_ble_eq_true rfl, Nat.le_of_ble_eq_true rfl⟩ (c_X8_isPlace l G kc o ad ((x2 - x2 / 16 * 16) + y_2) ((x2 / 16) + y_4) hq) hK hP hD hS hA 0 rfl rfl rfl rfl rfl (Nat.le_of_ble_eq_true rfl) hl.1 dX8_copyOf_37 (fun H locs hP hD hS => ?_)
  refine lv_if_eq (tgt := 53) hx hb dX8_copyOf_40 (by decide) (fun q_6 => ?_) (fun q_6 => ?_)
  · have h := it_t q_6 h
    refine lv_bipush (v := (-9)) hx hb dX8_copyOf_53 (by decide) ?_
    cases h
    exact ret_i hx hb hr rfl hQ hlocks hK hP hD hS dX8_copyOf_55
  · have h := it_f q_6 h
    refine lv_bipush (v := 16) hx hb dX8_copyOf_43 (by decide) ?_
    refine lv_iload hx hb dX8_copyOf_45 (lv_at hl 0 rfl) ?_
    refine lv_imul hx hb dX8_copyOf_47 ?_
    refine lv_iload_n hx hb dX8_copyOf_48 rfl (lv_at hl 1 rfl) ?_
    refine lv_iadd hx hb dX8_copyOf_49 ?_
    refine lv_goto (tgt := 55) hx hb dX8_copyOf_50 (by decide) ?_
    cases h
    exact ret_i hx hb hr rfl hQ hlocks hK hP hD hS dX8_copyOf_55
set_option maxHeartbeats 1000000 in
set_option maxRecDepth 100000 in
theorem c_X8_missOf (l : Launch) (G : va_G) (kc : Nat → ClassId) (o : Nat) (ad : Nat → Nat) {c_worked : Int32} {c_width : Int32} {c_height : Int32} {c_grey : (Nat → Int32)} {c_setting : (Nat → Int32)} {c_leastOf : (Nat → Int32)} {c_mostOf : (Nat → Int32)} {c_lifted : (Nat → Int32)} {c_squares : Int32} {c_square : (Nat → Int32)} {c_dark : (Nat → Int32)} {c_light : (Nat → Int32)} {c_like : (Nat → Int32)} {c_isCrowded : (Nat → Int32)} {c_pairs : Int32} {c_first : (Nat → Int32)} {c_second : (Nat → Int32)} {c_votes : (Nat → Int32)} {c_shifts : Int32} {c_shiftX : (Nat → Int32)} {c_shiftY : (Nat → Int32)} {c_regionAt : (Nat → Int32)} {c_regions : Int32} {c_regionShift : (Nat → Int32)} {c_regionPairs : (Nat → Int32)} {c_regionFirst : (Nat → Int32)} {c_findings : Int32} {c_regionOf : (Nat → Int32)} {c_offset : (Nat → Int32)} {c_begun : (Nat → Int32)} {c_held : (Nat → Int32)} {c_isIn : (Nat → Int32)} {c_numbered : (Nat → Int32)} {c_left : Int32} {c_right : Int32} {c_top : Int32} {c_low : Int32} {c_missed : Int32} (x1 : Int32) (x2 : Int32) {r : Int32} {FU : Nat} (h : f_X8_missOf FU c_width c_height c_grey c_shiftX c_shiftY c_regionShift c_regionOf c_offset x1 x2 = some r) : CTi l G kc yX8_missOf cX8_missOf 3 (some .int) (rmq 3 68) [.ref o, .int x1, .int x2] (mW o ad kc c_worked c_width c_height c_grey c_setting c_leastOf c_mostOf c_lifted c_squares c_square c_dark c_light c_like c_isCrowded c_pairs c_first c_second c_votes c_shifts c_shiftX c_shiftY c_regionAt c_regions c_regionShift c_regionPairs c_regionFirst c_findings c_regionOf c_offset c_begun c_held c_isIn c_numbered c_left c_right c_top c_low c_missed) (mW o ad kc c_worked c_width c_height c_grey c_setting c_leastOf c_mostOf c_lifted c_squares c_square c_dark c_light c_like c_isCrowded c_pairs c_first c_second c_votes c_shifts c_shiftX c_shiftY c_regionAt c_regions c_regionShift c_regionPairs c_regionFirst c_findings c_regionOf c_offset c_begun c_held c_isIn c_numbered c_left c_right c_top c_low c_missed) r := by
  refine CTi.mk (by decide) (Nat.le_of_ble_eq_true rfl) ?_
  intro p e s m args below meth c A ls Q hQ S hr hlocks hN hA hK hl hP hD hS
  have hx := S.1
  have hb := S.2.1
  have hl : lv_has ls 3 [(0, .ref o), (1, .int x1), (2, .int x2)] := hl
  unfold f_X8_missOf at h
  refine lv_aload_n hx hb dX8_missOf_0 rfl (lv_at hl 0 rfl) ?_
  refine r_get S gf_X8_16 hK hP 0 rfl rfl dX8_missOf_1 ?_
  refine lv_aload_n hx hb dX8_missOf_4 rfl (lv_at hl 0 rfl) ?_
  refine lv_iload_n hx hb dX8_missOf_5 rfl (lv_at hl 1 rfl) ?_
  refine lv_iload_n hx hb dX8_missOf_6 rfl (lv_at hl 2 rfl) ?_
  obtain ⟨r_1, hq, h⟩ := bd1_e h
  refine cs_Vi (rest := [.ref (ad 3)]) (ci := 7) S hN cb_X8_copyOf ml_X8_208 ⟨Nat.le_of_ble_eq_true rfl, Nat.le_of_ble_eq_true rfl⟩ (c_X8_copyOf l G kc o ad x1 x2 hq) hK hP hD hS hA 0 rfl rfl rfl rfl rfl (Nat.le_of_ble_eq_true rfl) hl.1 dX8_missOf_7 (fun H locs hP hD hS => ?_)
  refine r_iald hx hb hK hP 1 rfl dX8_missOf_10 h (fun y_2 h => ?_)
  refine lv_aload_n hx hb dX8_missOf_11 rfl (lv_at hl 0 rfl) ?_
  refine r_get S gf_X8_16 hK hP 0 rfl rfl dX8_missOf_12 ?_
  refine lv_iload_n hx hb dX8_missOf_15 rfl (lv_at hl 2 rfl) ?_
  refine r_iald hx hb hK hP 1 rfl dX8_missOf_16 h (fun y_3 h => ?_)
  refine lv_isub hx hb dX8_missOf_17 ?_
  refine lv_aload_n hx hb dX8_missOf_18 rfl (lv_at hl 0 rfl) ?_
  refine r_get S gf_X8_78 hK hP 0 rfl rfl dX8_missOf_19 ?_
  refine lv_iload_n hx hb dX8_missOf_22 rfl (lv_at hl 1 rfl) ?_
  refine r_iald hx hb hK hP 21 rfl dX8_missOf_23 h (fun y_4 h => ?_)
  refine lv_isub hx hb dX8_missOf_24 ?_
  obtain ⟨r_5, hq, h⟩ := bd1_e h
  refine cp_Si (rest := []) [] S hN cb_X8_size ml_X8_155 ⟨Nat.le_of_ble_eq_true rfl, Nat.le_of_ble_eq_true rfl⟩ (c_X8_size l G kc ((y_2 - y_3) - y_4) hq) hK hP hD hS hA rfl rfl rfl rfl rfl (Nat.le_of_ble_eq_true rfl) hl.1 dX8_missOf_25 (fun H locs hP hD hS => ?_)
  have hP : VP G (mW o ad kc c_worked c_width c_height c_grey c_setting c_leastOf c_mostOf c_lifted c_squares c_square c_dark c_light c_like c_isCrowded c_pairs c_first c_second c_votes c_shifts c_shiftX c_shiftY c_regionAt c_regions c_regionShift c_regionPairs c_regionFirst c_findings c_regionOf c_offset c_begun c_held c_isIn c_numbered c_left c_right c_top c_low c_missed) H := hP
  have hD : va_D A (mW o ad kc c_worked c_width c_height c_grey c_setting c_leastOf c_mostOf c_lifted c_squares c_square c_dark c_light c_like c_isCrowded c_pairs c_first c_second c_votes c_shifts c_shiftX c_shiftY c_regionAt c_regions c_regionShift c_regionPairs c_regionFirst c_findings c_regionOf c_offset c_begun c_held c_isIn c_numbered c_left c_right c_top c_low c_missed) := hD
  cases h
  exact ret_i hx hb hr rfl hQ hlocks hK hP hD hS dX8_missOf_28
set_option maxHeartbeats 1000000 in
set_option maxRecDepth 100000 in
theorem c_X8_darkAt (l : Launch) (G : va_G) (kc : Nat → ClassId) (o : Nat) (ad : Nat → Nat) {c_worked : Int32} {c_width : Int32} {c_height : Int32} {c_grey : (Nat → Int32)} {c_setting : (Nat → Int32)} {c_leastOf : (Nat → Int32)} {c_mostOf : (Nat → Int32)} {c_lifted : (Nat → Int32)} {c_squares : Int32} {c_square : (Nat → Int32)} {c_dark : (Nat → Int32)} {c_light : (Nat → Int32)} {c_like : (Nat → Int32)} {c_isCrowded : (Nat → Int32)} {c_pairs : Int32} {c_first : (Nat → Int32)} {c_second : (Nat → Int32)} {c_votes : (Nat → Int32)} {c_shifts : Int32} {c_shiftX : (Nat → Int32)} {c_shiftY : (Nat → Int32)} {c_regionAt : (Nat → Int32)} {c_regions : Int32} {c_regionShift : (Nat → Int32)} {c_regionPairs : (Nat → Int32)} {c_regionFirst : (Nat → Int32)} {c_findings : Int32} {c_regionOf : (Nat → Int32)} {c_offset : (Nat → Int32)} {c_begun : (Nat → Int32)} {c_held : (Nat → Int32)} {c_isIn : (Nat → Int32)} {c_numbered : (Nat → Int32)} {c_left : Int32} {c_right : Int32} {c_top : Int32} {c_low : Int32} {c_missed : Int32} (x1 : Int32) {r : Int32} {FU : Nat} (h : f_X8_darkAt FU c_squares c_square c_dark x1 = some r) : CTi l G kc yX8_darkAt cX8_darkAt 3 (some .int) (rmq 0 0) [.ref o, .int x1] (mW o ad kc c_worked c_width c_height c_grey c_setting c_leastOf c_mostOf c_lifted c_squares c_square c_dark c_light c_like c_isCrowded c_pairs c_first c_second c_votes c_shifts c_shiftX c_shiftY c_regionAt c_regions c_regionShift c_regionPairs c_regionFirst c_findings c_regionOf c_offset c_begun c_held c_isIn c_numbered c_left c_right c_top c_low c_missed) (mW o ad kc c_worked c_width c_height c_grey c_setting c_leastOf c_mostOf c_lifted c_squares c_square c_dark c_light c_like c_isCrowded c_pairs c_first c_second c_votes c_shifts c_shiftX c_shiftY c_regionAt c_regions c_regionShift c_regionPairs c_regionFirst c_findings c_regionOf c_offset c_begun c_held c_isIn c_numbered c_left c_right c_top c_low c_missed) r := by
  refine CTi.mk (by decide) (Nat.le_of_ble_eq_true rfl) ?_
  intro p e s m args below meth c A ls Q hQ S hr hlocks hN hA hK hl hP hD hS
  have hx := S.1
  have hb := S.2.1
  have hl : lv_has ls 3 [(0, .ref o), (1, .int x1)] := hl
  unfold f_X8_darkAt at h
  refine lv_iconst (v := 0) hx hb dX8_darkAt_0 (by decide) ?_
  refine lv_istore_n (lv' := [(2, .int 0), (0, .ref o), (1, .int x1)]) hx hb dX8_darkAt_1 rfl hl (by decide) rfl (fun ls hl => ?_)
  refine jn_w (t := fun k => f_X8_darkAt_L2 FU x1 c_squares c_square c_dark k FU 0) (fun (k : Int32 → Option (Int32)) => ∀ (x2_1 : Int32) (H : Heap) (locs : List Loc) (ls : Array Slot), VP G (mW o ad kc c_worked c_width c_height c_grey c_setting c_leastOf c_mostOf c_lifted c_squares c_square c_dark c_light c_like c_isCrowded c_pairs c_first c_second c_votes c_shifts c_shiftX c_shiftY c_regionAt c_regions c_regionShift c_regionPairs c_regionFirst c_findings c_regionOf c_offset c_begun c_held c_isIn c_numbered c_left c_right c_top c_low c_missed) H → va_D A (mW o ad kc c_worked c_width c_height c_grey c_setting c_leastOf c_mostOf c_lifted c_squares c_square c_dark c_light c_like c_isCrowded c_pairs c_first c_second c_votes c_shifts c_shiftX c_shiftY c_regionAt c_regions c_regionShift c_regionPairs c_regionFirst c_findings c_regionOf c_offset c_begun c_held c_isIn c_numbered c_left c_right c_top c_low c_missed) → va_S A s.heap H locs → lv_has ls 3 [] → k x2_1 = some r → WW p l e (rmq 0 0) s m args below meth c Q H locs 33 ls []) h ?_ ?_
  · intro x2_1 H locs ls hP hD hS hl h
    refine lv_bipush (v := (-9)) hx hb dX8_darkAt_33 (by decide) ?_
    cases h
    exact ret_i hx hb hr rfl hQ hlocks hK hP hD hS dX8_darkAt_35
  · intro k_2 K_3 h
    have L_4 : ∀ (n : Nat) (x2_1 : Int32) (H : Heap) (locs : List Loc) (ls : Array Slot), VP G (mW o ad kc c_worked c_width c_height c_grey c_setting c_leastOf c_mostOf c_lifted c_squares c_square c_dark c_light c_like c_isCrowded c_pairs c_first c_second c_votes c_shifts c_shiftX c_shiftY c_regionAt c_regions c_regionShift c_regionPairs c_regionFirst c_findings c_regionOf c_offset c_begun c_held c_isIn c_numbered c_left c_right c_top c_low c_missed) H → va_D A (mW o ad kc c_worked c_width c_height c_grey c_setting c_leastOf c_mostOf c_lifted c_squares c_square c_dark c_light c_like c_isCrowded c_pairs c_first c_second c_votes c_shifts c_shiftX c_shiftY c_regionAt c_regions c_regionShift c_regionPairs c_regionFirst c_findings c_regionOf c_offset c_begun c_held c_isIn c_numbered c_left c_right c_top c_low c_missed) → va_S A s.heap H locs → lv_has ls 3 [(0, .ref o), (1, .int x1), (2, .int x2_1)] → f_X8_darkAt_L2 FU x1 c_squares c_square c_dark k_2 n x2_1 = some r → WW p l e (rmq 0 0) s m args below meth c Q H locs 2 ls [] := by
      intro n
      induction n with
      | zero => intro x2_1 H locs ls hP hD hS hl h; rw [f_X8_darkAt_L2] at h; cases h
      | succ n ih =>
        intro x2_1 H locs ls hP hD hS hl h
        rw [f_X8_darkAt_L2] at h
        refine lv_iload_n hx hb dX8_darkAt_2 rfl (lv_at hl 2 rfl) ?_
        refine lv_aload_n hx hb dX8_darkAt_3 rfl (lv_at hl 0 rfl) ?_
        refine r_get S gf_X8_126 hK hP 0 rfl rfl dX8_darkAt_4 ?_
        refine lv_icmp_ge (tgt := 33) hx hb dX8_darkAt_7 (by decide) (fun q_8 => ?_) (fun q_8 => ?_)
        · have h := it_t q_8 h
          exact K_3 x2_1 _ _ _ hP hD hS (lv_sub hl [] rfl) h
        · have h := it_f q_8 h
          refine lv_aload_n hx hb dX8_darkAt_10 rfl (lv_at hl 0 rfl) ?_
          refine r_get S gf_X8_32 hK hP 0 rfl rfl dX8_darkAt_11 ?_
          refine lv_iload_n hx hb dX8_darkAt_14 rfl (lv_at hl 2 rfl) ?_
          refine r_iald hx hb hK hP 6 rfl dX8_darkAt_15 h (fun y_5 h => ?_)
          refine lv_iload_n hx hb dX8_darkAt_16 rfl (lv_at hl 1 rfl) ?_
          refine lv_icmp_ne (tgt := 27) hx hb dX8_darkAt_17 (by decide) (fun q_7 => ?_) (fun q_7 => ?_)
          · have h := it_f q_7 h
            refine lv_iinc (v := (x2_1 + 1)) (lv' := [(2, .int (x2_1 + 1)), (0, .ref o), (1, .int x1)]) hx hb dX8_darkAt_27 hl (k := 2) rfl rfl (by decide) rfl (fun ls hl => ?_)
            refine lv_goto (tgt := 2) hx hb dX8_darkAt_30 (by decide) ?_
            exact ih (x2_1 + 1) _ _ _ hP hD hS (lv_sub hl [1, 2, 0] rfl) h
          · have h := it_t q_7 h
            refine lv_aload_n hx hb dX8_darkAt_20 rfl (lv_at hl 0 rfl) ?_
            refine r_get S gf_X8_35 hK hP 0 rfl rfl dX8_darkAt_21 ?_
            refine lv_iload_n hx hb dX8_darkAt_24 rfl (lv_at hl 2 rfl) ?_
            refine r_iald hx hb hK hP 7 rfl dX8_darkAt_25 h (fun y_6 h => ?_)
            cases h
            exact ret_i hx hb hr rfl hQ hlocks hK hP hD hS dX8_darkAt_26
    exact L_4 FU 0 _ _ _ hP hD hS (lv_sub hl [1, 2, 0] rfl) h
set_option maxHeartbeats 1000000 in
set_option maxRecDepth 100000 in
theorem c_X8_manyIn (l : Launch) (G : va_G) (kc : Nat → ClassId) (o : Nat) (ad : Nat → Nat) {c_worked : Int32} {c_width : Int32} {c_height : Int32} {c_grey : (Nat → Int32)} {c_setting : (Nat → Int32)} {c_leastOf : (Nat → Int32)} {c_mostOf : (Nat → Int32)} {c_lifted : (Nat → Int32)} {c_squares : Int32} {c_square : (Nat → Int32)} {c_dark : (Nat → Int32)} {c_light : (Nat → Int32)} {c_like : (Nat → Int32)} {c_isCrowded : (Nat → Int32)} {c_pairs : Int32} {c_first : (Nat → Int32)} {c_second : (Nat → Int32)} {c_votes : (Nat → Int32)} {c_shifts : Int32} {c_shiftX : (Nat → Int32)} {c_shiftY : (Nat → Int32)} {c_regionAt : (Nat → Int32)} {c_regions : Int32} {c_regionShift : (Nat → Int32)} {c_regionPairs : (Nat → Int32)} {c_regionFirst : (Nat → Int32)} {c_findings : Int32} {c_regionOf : (Nat → Int32)} {c_offset : (Nat → Int32)} {c_begun : (Nat → Int32)} {c_held : (Nat → Int32)} {c_isIn : (Nat → Int32)} {c_numbered : (Nat → Int32)} {c_left : Int32} {c_right : Int32} {c_top : Int32} {c_low : Int32} {c_missed : Int32} (x1 : Int32) {r : Int32} {FU : Nat} (h : f_X8_manyIn FU c_isIn x1 = some r) : CTi l G kc yX8_manyIn cX8_manyIn 4 (some .int) (rmq 0 0) [.ref o, .int x1] (mW o ad kc c_worked c_width c_height c_grey c_setting c_leastOf c_mostOf c_lifted c_squares c_square c_dark c_light c_like c_isCrowded c_pairs c_first c_second c_votes c_shifts c_shiftX c_shiftY c_regionAt c_regions c_regionShift c_regionPairs c_regionFirst c_findings c_regionOf c_offset c_begun c_held c_isIn c_numbered c_left c_right c_top c_low c_missed) (mW o ad kc c_worked c_width c_height c_grey c_setting c_leastOf c_mostOf c_lifted c_squares c_square c_dark c_light c_like c_isCrowded c_pairs c_first c_second c_votes c_shifts c_shiftX c_shiftY c_regionAt c_regions c_regionShift c_regionPairs c_regionFirst c_findings c_regionOf c_offset c_begun c_held c_isIn c_numbered c_left c_right c_top c_low c_missed) r := by
  refine CTi.mk (by decide) (Nat.le_of_ble_eq_true rfl) ?_
  intro p e s m args below meth c A ls Q hQ S hr hlocks hN hA hK hl hP hD hS
  have hx := S.1
  have hb := S.2.1
  have hl : lv_has ls 4 [(0, .ref o), (1, .int x1)] := hl
  unfold f_X8_manyIn at h
  refine lv_iconst (v := 0) hx hb dX8_manyIn_0 (by decide) ?_
  refine lv_istore_n (lv' := [(2, .int 0), (0, .ref o), (1, .int x1)]) hx hb dX8_manyIn_1 rfl hl (by decide) rfl (fun ls hl => ?_)
  refine lv_iconst (v := 0) hx hb dX8_manyIn_2 (by decide) ?_
  refine lv_istore_n (lv' := [(3, .int 0), (2, .int 0), (0, .ref o), (1, .int x1)]) hx hb dX8_manyIn_3 rfl hl (by decide) rfl (fun ls hl => ?_)
  refine jn_w (t := fun k => f_X8_manyIn_L4 FU x1 c_isIn k FU 0 0) (fun (k : Int32 → Int32 → Option (Int32)) => ∀ (x2_1 : Int32) (x3_2 : Int32) (H : Heap) (locs : List Loc) (ls : Array Slot), VP G (mW o ad kc c_worked c_width c_height c_grey c_setting c_leastOf c_mostOf c_lifted c_squares c_square c_dark c_light c_like c_isCrowded c_pairs c_first c_second c_votes c_shifts c_shiftX c_shiftY c_regionAt c_regions c_regionShift c_regionPairs c_regionFirst c_findings c_regionOf c_offset c_begun c_held c_isIn c_numbered c_left c_right c_top c_low c_missed) H → va_D A (mW o ad kc c_worked c_width c_height c_grey c_setting c_leastOf c_mostOf c_lifted c_squares c_square c_dark c_light c_like c_isCrowded c_pairs c_first c_second c_votes c_shifts c_shiftX c_shiftY c_regionAt c_regions c_regionShift c_regionPairs c_regionFirst c_findings c_regionOf c_offset c_begun c_held c_isIn c_numbered c_left c_right c_top c_low c_missed) → va_S A s.heap H locs → lv_has ls 4 [(2, .int x2_1)] → k x2_1 x3_2 = some r → WW p l e (rmq 0 0) s m args below meth c Q H locs 40 ls []) h ?_ ?_
  · intro x2_1 x3_2 H locs ls hP hD hS hl h
    refine lv_iload_n hx hb dX8_manyIn_40 rfl (lv_at hl 0 rfl) ?_
    cases h
    exact ret_i hx hb hr rfl hQ hlocks hK hP hD hS dX8_manyIn_41
  · intro k_3 K_4 h
    have L_5 : ∀ (n : Nat) (x2_1 : Int32) (x3_2 : Int32) (H : Heap) (locs : List Loc) (ls : Array Slot), VP G (mW o ad kc c_worked c_width c_height c_grey c_setting c_leastOf c_mostOf c_lifted c_squares c_square c_dark c_light c_like c_isCrowded c_pairs c_first c_second c_votes c_shifts c_shiftX c_shiftY c_regionAt c_regions c_regionShift c_regionPairs c_regionFirst c_findings c_regionOf c_offset c_begun c_held c_isIn c_numbered c_left c_right c_top c_low c_missed) H → va_D A (mW o ad kc c_worked c_width c_height c_grey c_setting c_leastOf c_mostOf c_lifted c_squares c_square c_dark c_light c_like c_isCrowded c_pairs c_first c_second c_votes c_shifts c_shiftX c_shiftY c_regionAt c_regions c_regionShift c_regionPairs c_regionFirst c_findings c_regionOf c_offset c_begun c_held c_isIn c_numbered c_left c_right c_top c_low c_missed) → va_S A s.heap H locs → lv_has ls 4 [(0, .ref o), (1, .int x1), (2, .int x2_1), (3, .int x3_2)] → f_X8_manyIn_L4 FU x1 c_isIn k_3 n x2_1 x3_2 = some r → WW p l e (rmq 0 0) s m args below meth c Q H locs 4 ls [] := by
      intro n
      induction n with
      | zero => intro x2_1 x3_2 H locs ls hP hD hS hl h; rw [f_X8_manyIn_L4] at h; cases h
      | succ n ih =>
        intro x2_1 x3_2 H locs ls hP hD hS hl h
        rw [f_X8_manyIn_L4] at h
        refine lv_iload_n hx hb dX8_manyIn_4 rfl (lv_at hl 3 rfl) ?_
        refine lv_sipush (v := 256) hx hb dX8_manyIn_5 (by decide) ?_
        refine lv_icmp_ge (tgt := 40) hx hb dX8_manyIn_8 (by decide) (fun q_11 => ?_) (fun q_11 => ?_)
        · have h := it_t q_11 h
          exact K_4 x2_1 x3_2 _ _ _ hP hD hS (lv_sub hl [2] rfl) h
        · have h := it_f q_11 h
          refine lv_iload_n hx hb dX8_manyIn_11 rfl (lv_at hl 2 rfl) ?_
          refine lv_aload_n hx hb dX8_manyIn_12 rfl (lv_at hl 0 rfl) ?_
          refine r_get S gf_X8_87 hK hP 0 rfl rfl dX8_manyIn_13 ?_
          refine lv_sipush (v := 256) hx hb dX8_manyIn_16 (by decide) ?_
          refine lv_iload_n hx hb dX8_manyIn_19 rfl (lv_at hl 1 rfl) ?_
          refine lv_imul hx hb dX8_manyIn_20 ?_
          refine lv_iload_n hx hb dX8_manyIn_21 rfl (lv_at hl 3 rfl) ?_
          refine lv_iadd hx hb dX8_manyIn_22 ?_
          refine r_zald hx hb hK hP 24 rfl dX8_manyIn_23 h (fun y_6 h => ?_)
          refine jn_w (fun (k : Int32 → Option (Int32)) => ∀ (t_7 : Int32) (H : Heap) (locs : List Loc) (ls : Array Slot), VP G (mW o ad kc c_worked c_width c_height c_grey c_setting c_leastOf c_mostOf c_lifted c_squares c_square c_dark c_light c_like c_isCrowded c_pairs c_first c_second c_votes c_shifts c_shiftX c_shiftY c_regionAt c_regions c_regionShift c_regionPairs c_regionFirst c_findings c_regionOf c_offset c_begun c_held c_isIn c_numbered c_left c_right c_top c_low c_missed) H → va_D A (mW o ad kc c_worked c_width c_height c_grey c_setting c_leastOf c_mostOf c_lifted c_squares c_square c_dark c_light c_like c_isCrowded c_pairs c_first c_second c_votes c_shifts c_shiftX c_shiftY c_regionAt c_regions c_regionShift c_regionPairs c_regionFirst c_findings c_regionOf c_offset c_begun c_held c_isIn c_numbered c_left c_right c_top c_low c_missed) → va_S A s.heap H locs → lv_has ls 4 [(0, .ref o), (1, .int x1), (3, .int x3_2)] → k t_7 = some r → WW p l e (rmq 0 0) s m args below meth c Q H locs 32 ls [.int t_7, .int x2_1]) h ?_ ?_
          · intro t_7 H locs ls hP hD hS hl h
            refine lv_iadd hx hb dX8_manyIn_32 ?_
            refine lv_istore_n (lv' := [(2, .int (x2_1 + t_7)), (0, .ref o), (1, .int x1), (3, .int x3_2)]) hx hb dX8_manyIn_33 rfl hl (by decide) rfl (fun ls hl => ?_)
            refine lv_iinc (v := (x3_2 + 1)) (lv' := [(3, .int (x3_2 + 1)), (2, .int (x2_1 + t_7)), (0, .ref o), (1, .int x1)]) hx hb dX8_manyIn_34 hl (k := 3) rfl rfl (by decide) rfl (fun ls hl => ?_)
            refine lv_goto (tgt := 4) hx hb dX8_manyIn_37 (by decide) ?_
            exact ih (x2_1 + t_7) (x3_2 + 1) _ _ _ hP hD hS (lv_sub hl [2, 3, 1, 0] rfl) h
          · intro j_8 J_9 h
            refine lv_if_eq (tgt := 31) hx hb dX8_manyIn_24 (by decide) (fun q_10 => ?_) (fun q_10 => ?_)
            · have h := it_t q_10 h
              refine lv_iconst (v := 0) hx hb dX8_manyIn_31 (by decide) ?_
              exact J_9 0 _ _ _ hP hD hS (lv_sub hl [0, 1, 3] rfl) h
            · have h := it_f q_10 h
              refine lv_iconst (v := 1) hx hb dX8_manyIn_27 (by decide) ?_
              refine lv_goto (tgt := 32) hx hb dX8_manyIn_28 (by decide) ?_
              exact J_9 1 _ _ _ hP hD hS (lv_sub hl [0, 1, 3] rfl) h
    exact L_5 FU 0 0 _ _ _ hP hD hS (lv_sub hl [2, 3, 1, 0] rfl) h
set_option maxHeartbeats 1000000 in
set_option maxRecDepth 100000 in
theorem c_X8_beginsFinding (l : Launch) (G : va_G) (kc : Nat → ClassId) (o : Nat) (ad : Nat → Nat) {c_worked : Int32} {c_width : Int32} {c_height : Int32} {c_grey : (Nat → Int32)} {c_setting : (Nat → Int32)} {c_leastOf : (Nat → Int32)} {c_mostOf : (Nat → Int32)} {c_lifted : (Nat → Int32)} {c_squares : Int32} {c_square : (Nat → Int32)} {c_dark : (Nat → Int32)} {c_light : (Nat → Int32)} {c_like : (Nat → Int32)} {c_isCrowded : (Nat → Int32)} {c_pairs : Int32} {c_first : (Nat → Int32)} {c_second : (Nat → Int32)} {c_votes : (Nat → Int32)} {c_shifts : Int32} {c_shiftX : (Nat → Int32)} {c_shiftY : (Nat → Int32)} {c_regionAt : (Nat → Int32)} {c_regions : Int32} {c_regionShift : (Nat → Int32)} {c_regionPairs : (Nat → Int32)} {c_regionFirst : (Nat → Int32)} {c_findings : Int32} {c_regionOf : (Nat → Int32)} {c_offset : (Nat → Int32)} {c_begun : (Nat → Int32)} {c_held : (Nat → Int32)} {c_isIn : (Nat → Int32)} {c_numbered : (Nat → Int32)} {c_left : Int32} {c_right : Int32} {c_top : Int32} {c_low : Int32} {c_missed : Int32} (x1 : Int32) {c_offset' : (Nat → Int32)} {c_begun' : (Nat → Int32)} {c_isIn' : (Nat → Int32)} {FU : Nat} (h : f_X8_beginsFinding FU c_width c_height c_setting c_squares c_square c_dark c_shiftX c_shiftY c_regionAt c_regionShift c_regionFirst c_regionOf c_offset c_begun c_isIn x1 = some (c_offset', c_begun', c_isIn')) : CTv l G kc yX8_beginsFinding cX8_beginsFinding 6 none (rmq 3 68) [.ref o, .int x1] (mW o ad kc c_worked c_width c_height c_grey c_setting c_leastOf c_mostOf c_lifted c_squares c_square c_dark c_light c_like c_isCrowded c_pairs c_first c_second c_votes c_shifts c_shiftX c_shiftY c_regionAt c_regions c_regionShift c_regionPairs c_regionFirst c_findings c_regionOf c_offset c_begun c_held c_isIn c_numbered c_left c_right c_top c_low c_missed) (mW o ad kc c_worked c_width c_height c_grey c_setting c_leastOf c_mostOf c_lifted c_squares c_square c_dark c_light c_like c_isCrowded c_pairs c_first c_second c_votes c_shifts c_shiftX c_shiftY c_regionAt c_regions c_regionShift c_regionPairs c_regionFirst c_findings c_regionOf (c_offset') (c_begun') c_held (c_isIn') c_numbered c_left c_right c_top c_low c_missed) := by
  refine CTv.mk (by decide) (Nat.le_of_ble_eq_true rfl) ?_
  intro p e s m args below meth c A ls Q hQ S hr hlocks hN hA hK hl hP hD hS
  have hx := S.1
  have hb := S.2.1
  have hl : lv_has ls 6 [(0, .ref o), (1, .int x1)] := hl
  unfold f_X8_beginsFinding at h
  refine lv_aload_n hx hb dX8_beginsFinding_0 rfl (lv_at hl 0 rfl) ?_
  refine lv_iload_n hx hb dX8_beginsFinding_1 rfl (lv_at hl 1 rfl) ?_
  obtain ⟨r_1, hq, h⟩ := bd1_e h
  refine cs_Vi (rest := []) (ci := 7) S hN cb_X8_shiftOf ml_X8_205 ⟨Nat.le_of_ble_eq_true rfl, Nat.le_of_ble_eq_true rfl⟩ (c_X8_shiftOf l G kc o ad x1 hq) hK hP hD hS hA 0 rfl rfl rfl rfl rfl (Nat.le_of_ble_eq_true rfl) hl.1 dX8_beginsFinding_2 (fun H locs hP hD hS => ?_)
  refine lv_istore_n (lv' := [(2, .int r_1), (0, .ref o), (1, .int x1)]) hx hb dX8_beginsFinding_5 rfl hl (by decide) rfl (fun ls hl => ?_)
  refine lv_aload_n hx hb dX8_beginsFinding_6 rfl (lv_at hl 1 rfl) ?_
  refine r_get S gf_X8_72 hK hP 0 rfl rfl dX8_beginsFinding_7 ?_
  refine lv_aload_n hx hb dX8_beginsFinding_10 rfl (lv_at hl 1 rfl) ?_
  refine r_get S gf_X8_75 hK hP 0 rfl rfl dX8_beginsFinding_11 ?_
  refine lv_iload_n hx hb dX8_beginsFinding_14 rfl (lv_at hl 2 rfl) ?_
  refine r_iald hx hb hK hP 20 rfl dX8_beginsFinding_15 h (fun y_2 h => ?_)
  refine r_iald hx hb hK hP 19 rfl dX8_beginsFinding_16 h (fun y_3 h => ?_)
  refine lv_istore_n (lv' := [(3, .int y_3), (2, .int r_1), (0, .ref o), (1, .int x1)]) hx hb dX8_beginsFinding_17 rfl hl (by decide) rfl (fun ls hl => ?_)
  refine lv_aload_n hx hb dX8_beginsFinding_18 rfl (lv_at hl 2 rfl) ?_
  refine r_get S gf_X8_78 hK hP 0 rfl rfl dX8_beginsFinding_19 ?_
  refine lv_iload_n hx hb dX8_beginsFinding_22 rfl (lv_at hl 3 rfl) ?_
  refine lv_aload_n hx hb dX8_beginsFinding_23 rfl (lv_at hl 2 rfl) ?_
  refine r_get S gf_X8_20 hK hP 0 rfl rfl dX8_beginsFinding_24 ?_
  refine lv_iconst (v := 2) hx hb dX8_beginsFinding_27 (by decide) ?_
  refine r_iald hx hb hK hP 2 rfl dX8_beginsFinding_28 h (fun y_4 h => ?_)
  refine jn_w (fun (k : Int32 → Option ((Nat → Int32) × (Nat → Int32) × (Nat → Int32))) => ∀ (t_5 : Int32) (H : Heap) (locs : List Loc) (ls : Array Slot), VP G (mW o ad kc c_worked c_width c_height c_grey c_setting c_leastOf c_mostOf c_lifted c_squares c_square c_dark c_light c_like c_isCrowded c_pairs c_first c_second c_votes c_shifts c_shiftX c_shiftY c_regionAt c_regions c_regionShift c_regionPairs c_regionFirst c_findings c_regionOf c_offset c_begun c_held c_isIn c_numbered c_left c_right c_top c_low c_missed) H → va_D A (mW o ad kc c_worked c_width c_height c_grey c_setting c_leastOf c_mostOf c_lifted c_squares c_square c_dark c_light c_like c_isCrowded c_pairs c_first c_second c_votes c_shifts c_shiftX c_shiftY c_regionAt c_regions c_regionShift c_regionPairs c_regionFirst c_findings c_regionOf c_offset c_begun c_held c_isIn c_numbered c_left c_right c_top c_low c_missed) → va_S A s.heap H locs → lv_has ls 6 [(0, .ref o), (1, .int x1), (2, .int r_1)] → k t_5 = some (c_offset', c_begun', c_isIn') → WW p l e (rmq 3 68) s m args below meth c Q H locs 52 ls [.int t_5, .int x1, .ref (ad 28)]) h ?_ ?_
  · intro t_5 H locs ls hP hD hS hl h
    refine r_iast hx hb hK hP hD hS 21 rfl dX8_beginsFinding_52 h (fun c_offset_8 H locs hP hD hS h => ?_)
    have hP : VP G (mW o ad kc c_worked c_width c_height c_grey c_setting c_leastOf c_mostOf c_lifted c_squares c_square c_dark c_light c_like c_isCrowded c_pairs c_first c_second c_votes c_shifts c_shiftX c_shiftY c_regionAt c_regions c_regionShift c_regionPairs c_regionFirst c_findings c_regionOf c_offset_8 c_begun c_held c_isIn c_numbered c_left c_right c_top c_low c_missed) H := hP
    have hD : va_D A (mW o ad kc c_worked c_width c_height c_grey c_setting c_leastOf c_mostOf c_lifted c_squares c_square c_dark c_light c_like c_isCrowded c_pairs c_first c_second c_votes c_shifts c_shiftX c_shiftY c_regionAt c_regions c_regionShift c_regionPairs c_regionFirst c_findings c_regionOf c_offset_8 c_begun c_held c_isIn c_numbered c_left c_right c_top c_low c_missed) := hD
    refine lv_iconst (v := 0) hx hb dX8_beginsFinding_53 (by decide) ?_
    refine lv_istore (lv' := [(4, .int 0), (0, .ref o), (1, .int x1), (2, .int r_1)]) hx hb dX8_beginsFinding_54 hl (by decide) rfl (fun ls hl => ?_)
    refine jn_w (t := fun k => f_X8_beginsFinding_L56 FU x1 k FU 0 c_isIn) (fun (k : Int32 → (Nat → Int32) → Option ((Nat → Int32) × (Nat → Int32) × (Nat → Int32))) => ∀ (x4_9 : Int32) (c_isIn_10 : (Nat → Int32)) (H : Heap) (locs : List Loc) (ls : Array Slot), VP G (mW o ad kc c_worked c_width c_height c_grey c_setting c_leastOf c_mostOf c_lifted c_squares c_square c_dark c_light c_like c_isCrowded c_pairs c_first c_second c_votes c_shifts c_shiftX c_shiftY c_regionAt c_regions c_regionShift c_regionPairs c_regionFirst c_findings c_regionOf c_offset_8 c_begun c_held c_isIn_10 c_numbered c_left c_right c_top c_low c_missed) H → va_D A (mW o ad kc c_worked c_width c_height c_grey c_setting c_leastOf c_mostOf c_lifted c_squares c_square c_dark c_light c_like c_isCrowded c_pairs c_first c_second c_votes c_shifts c_shiftX c_shiftY c_regionAt c_regions c_regionShift c_regionPairs c_regionFirst c_findings c_regionOf c_offset_8 c_begun c_held c_isIn_10 c_numbered c_left c_right c_top c_low c_missed) → va_S A s.heap H locs → lv_has ls 6 [(0, .ref o), (1, .int x1), (2, .int r_1)] → k x4_9 c_isIn_10 = some (c_offset', c_begun', c_isIn') → WW p l e (rmq 3 68) s m args below meth c Q H locs 84 ls []) h ?_ ?_
    · intro x4_9 c_isIn_10 H locs ls hP hD hS hl h
      refine lv_iconst (v := 0) hx hb dX8_beginsFinding_84 (by decide) ?_
      refine lv_istore (lv' := [(4, .int 0), (0, .ref o), (1, .int x1), (2, .int r_1)]) hx hb dX8_beginsFinding_85 hl (by decide) rfl (fun ls hl => ?_)
      refine jn_w (t := fun k => f_X8_beginsFinding_L87 FU x1 r_1 c_setting c_regionAt c_regionOf k FU 0 c_isIn_10) (fun (k : Int32 → (Nat → Int32) → Option ((Nat → Int32) × (Nat → Int32) × (Nat → Int32))) => ∀ (x4_14 : Int32) (c_isIn_15 : (Nat → Int32)) (H : Heap) (locs : List Loc) (ls : Array Slot), VP G (mW o ad kc c_worked c_width c_height c_grey c_setting c_leastOf c_mostOf c_lifted c_squares c_square c_dark c_light c_like c_isCrowded c_pairs c_first c_second c_votes c_shifts c_shiftX c_shiftY c_regionAt c_regions c_regionShift c_regionPairs c_regionFirst c_findings c_regionOf c_offset_8 c_begun c_held c_isIn_15 c_numbered c_left c_right c_top c_low c_missed) H → va_D A (mW o ad kc c_worked c_width c_height c_grey c_setting c_leastOf c_mostOf c_lifted c_squares c_square c_dark c_light c_like c_isCrowded c_pairs c_first c_second c_votes c_shifts c_shiftX c_shiftY c_regionAt c_regions c_regionShift c_regionPairs c_regionFirst c_findings c_regionOf c_offset_8 c_begun c_held c_isIn_15 c_numbered c_left c_right c_top c_low c_missed) → va_S A s.heap H locs → lv_has ls 6 [(0, .ref o), (1, .int x1)] → k x4_14 c_isIn_15 = some (c_offset', c_begun', c_isIn') → WW p l e (rmq 3 68) s m args below meth c Q H locs 178 ls []) h ?_ ?_
      · intro x4_14 c_isIn_15 H locs ls hP hD hS hl h
        refine lv_aload_n hx hb dX8_beginsFinding_178 rfl (lv_at hl 0 rfl) ?_
        refine r_get S gf_X8_81 hK hP 0 rfl rfl dX8_beginsFinding_179 ?_
        refine lv_iload_n hx hb dX8_beginsFinding_182 rfl (lv_at hl 1 rfl) ?_
        refine lv_aload_n hx hb dX8_beginsFinding_183 rfl (lv_at hl 0 rfl) ?_
        refine lv_iload_n hx hb dX8_beginsFinding_184 rfl (lv_at hl 1 rfl) ?_
        obtain ⟨r_19, hq, h⟩ := bd1_e h
        refine cs_Vi (rest := [.int x1, .ref (ad 29)]) (ci := 7) S hN cb_X8_manyIn ml_X8_214 ⟨Nat.le_of_ble_eq_true rfl, Nat.le_of_ble_eq_true rfl⟩ (c_X8_manyIn l G kc o ad x1 hq) hK hP hD hS hA 0 rfl rfl rfl rfl rfl (Nat.le_of_ble_eq_true rfl) hl.1 dX8_beginsFinding_185 (fun H locs hP hD hS => ?_)
        refine r_iast hx hb hK hP hD hS 22 rfl dX8_beginsFinding_188 h (fun c_begun_20 H locs hP hD hS h => ?_)
        have hP : VP G (mW o ad kc c_worked c_width c_height c_grey c_setting c_leastOf c_mostOf c_lifted c_squares c_square c_dark c_light c_like c_isCrowded c_pairs c_first c_second c_votes c_shifts c_shiftX c_shiftY c_regionAt c_regions c_regionShift c_regionPairs c_regionFirst c_findings c_regionOf c_offset_8 c_begun_20 c_held c_isIn_15 c_numbered c_left c_right c_top c_low c_missed) H := hP
        have hD : va_D A (mW o ad kc c_worked c_width c_height c_grey c_setting c_leastOf c_mostOf c_lifted c_squares c_square c_dark c_light c_like c_isCrowded c_pairs c_first c_second c_votes c_shifts c_shiftX c_shiftY c_regionAt c_regions c_regionShift c_regionPairs c_regionFirst c_findings c_regionOf c_offset_8 c_begun_20 c_held c_isIn_15 c_numbered c_left c_right c_top c_low c_missed) := hD
        cases h
        exact ret_v hx hb hr hQ hlocks hK hP hD hS dX8_beginsFinding_189
      · intro k_16 K_17 h
        have L_18 : ∀ (n : Nat) (x4_14 : Int32) (c_isIn_15 : (Nat → Int32)) (H : Heap) (locs : List Loc) (ls : Array Slot), VP G (mW o ad kc c_worked c_width c_height c_grey c_setting c_leastOf c_mostOf c_lifted c_squares c_square c_dark c_light c_like c_isCrowded c_pairs c_first c_second c_votes c_shifts c_shiftX c_shiftY c_regionAt c_regions c_regionShift c_regionPairs c_regionFirst c_findings c_regionOf c_offset_8 c_begun c_held c_isIn_15 c_numbered c_left c_right c_top c_low c_missed) H → va_D A (mW o ad kc c_worked c_width c_height c_grey c_setting c_leastOf c_mostOf c_lifted c_squares c_square c_dark c_light c_like c_isCrowded c_pairs c_first c_second c_votes c_shifts c_shiftX c_shiftY c_regionAt c_regions c_regionShift c_regionPairs c_regionFirst c_findings c_regionOf c_offset_8 c_begun c_held c_isIn_15 c_numbered c_left c_right c_top c_low c_missed) → va_S A s.heap H locs → lv_has ls 6 [(0, .ref o), (1, .int x1), (2, .int r_1), (4, .int x4_14)] → f_X8_beginsFinding_L87 FU x1 r_1 c_setting c_regionAt c_regionOf k_16 n x4_14 c_isIn_15 = some (c_offset', c_begun', c_isIn') → WW p l e (rmq 3 68) s m args below meth c Q H locs 87 ls [] := by
          intro n
          induction n with
          | zero => intro x4_14 c_isIn_15 H locs ls hP hD hS hl h; rw [f_X8_beginsFinding_L87] at h; cases h
          | succ n ih =>
            intro x4_14 c_isIn_15 H locs ls hP hD hS hl h
            rw [f_X8_beginsFinding_L87] at h
            refine lv_iload hx hb dX8_beginsFinding_87 (lv_at hl 3 rfl) ?_
            refine lv_sipush (v := 256) hx hb dX8_beginsFinding_89 (by decide) ?_
            refine lv_icmp_ge (tgt := 178) hx hb dX8_beginsFinding_92 (by decide) (fun q_36 => ?_) (fun q_36 => ?_)
            · have h := it_t q_36 h
              exact K_17 x4_14 c_isIn_15 _ _ _ hP hD hS (lv_sub hl [0, 1] rfl) h
            · have h := it_f q_36 h
              refine lv_iconst (v := 0) hx hb dX8_beginsFinding_95 (by decide) ?_
              refine lv_istore (lv' := [(5, .int 0), (0, .ref o), (1, .int x1), (2, .int r_1), (4, .int x4_14)]) hx hb dX8_beginsFinding_96 hl (by decide) rfl (fun ls hl => ?_)
              refine jn_w (t := fun k => f_X8_beginsFinding_L98 FU x1 r_1 x4_14 c_setting c_regionAt c_regionOf k FU 0 c_isIn_15) (fun (k : Int32 → (Nat → Int32) → Option ((Nat → Int32) × (Nat → Int32) × (Nat → Int32))) => ∀ (x5_21 : Int32) (c_isIn_22 : (Nat → Int32)) (H : Heap) (locs : List Loc) (ls : Array Slot), VP G (mW o ad kc c_worked c_width c_height c_grey c_setting c_leastOf c_mostOf c_lifted c_squares c_square c_dark c_light c_like c_isCrowded c_pairs c_first c_second c_votes c_shifts c_shiftX c_shiftY c_regionAt c_regions c_regionShift c_regionPairs c_regionFirst c_findings c_regionOf c_offset_8 c_begun c_held c_isIn_22 c_numbered c_left c_right c_top c_low c_missed) H → va_D A (mW o ad kc c_worked c_width c_height c_grey c_setting c_leastOf c_mostOf c_lifted c_squares c_square c_dark c_light c_like c_isCrowded c_pairs c_first c_second c_votes c_shifts c_shiftX c_shiftY c_regionAt c_regions c_regionShift c_regionPairs c_regionFirst c_findings c_regionOf c_offset_8 c_begun c_held c_isIn_22 c_numbered c_left c_right c_top c_low c_missed) → va_S A s.heap H locs → lv_has ls 6 [(0, .ref o), (1, .int x1), (2, .int r_1), (4, .int x4_14)] → k x5_21 c_isIn_22 = some (c_offset', c_begun', c_isIn') → WW p l e (rmq 3 68) s m args below meth c Q H locs 172 ls []) h ?_ ?_
              · intro x5_21 c_isIn_22 H locs ls hP hD hS hl h
                refine lv_iinc (v := (x4_14 + 1)) (lv' := [(4, .int (x4_14 + 1)), (0, .ref o), (1, .int x1), (2, .int r_1)]) hx hb dX8_beginsFinding_172 hl (k := 3) rfl rfl (by decide) rfl (fun ls hl => ?_)
                refine lv_goto (tgt := 87) hx hb dX8_beginsFinding_175 (by decide) ?_
                exact ih (x4_14 + 1) c_isIn_22 _ _ _ hP hD hS (lv_sub hl [1, 2, 3, 0] rfl) h
              · intro k_23 K_24 h
                have L_25 : ∀ (n : Nat) (x5_21 : Int32) (c_isIn_22 : (Nat → Int32)) (H : Heap) (locs : List Loc) (ls : Array Slot), VP G (mW o ad kc c_worked c_width c_height c_grey c_setting c_leastOf c_mostOf c_lifted c_squares c_square c_dark c_light c_like c_isCrowded c_pairs c_first c_second c_votes c_shifts c_shiftX c_shiftY c_regionAt c_regions c_regionShift c_regionPairs c_regionFirst c_findings c_regionOf c_offset_8 c_begun c_held c_isIn_22 c_numbered c_left c_right c_top c_low c_missed) H → va_D A (mW o ad kc c_worked c_width c_height c_grey c_setting c_leastOf c_mostOf c_lifted c_squares c_square c_dark c_light c_like c_isCrowded c_pairs c_first c_second c_votes c_shifts c_shiftX c_shiftY c_regionAt c_regions c_regionShift c_regionPairs c_regionFirst c_findings c_regionOf c_offset_8 c_begun c_held c_isIn_22 c_numbered c_left c_right c_top c_low c_missed) → va_S A s.heap H locs → lv_has ls 6 [(0, .ref o), (1, .int x1), (2, .int r_1), (4, .int x4_14), (5, .int x5_21)] → f_X8_beginsFinding_L98 FU x1 r_1 x4_14 c_setting c_regionAt c_regionOf k_23 n x5_21 c_isIn_22 = some (c_offset', c_begun', c_isIn') → WW p l e (rmq 3 68) s m args below meth c Q H locs 98 ls [] := by
                  intro n
                  induction n with
                  | zero => intro x5_21 c_isIn_22 H locs ls hP hD hS hl h; rw [f_X8_beginsFinding_L98] at h; cases h
                  | succ n ih =>
                    intro x5_21 c_isIn_22 H locs ls hP hD hS hl h
                    rw [f_X8_beginsFinding_L98] at h
                    refine lv_iload hx hb dX8_beginsFinding_98 (lv_at hl 4 rfl) ?_
                    refine lv_aload_n hx hb dX8_beginsFinding_100 rfl (lv_at hl 0 rfl) ?_
                    obtain ⟨r_26, hq, h⟩ := bd1_e h
                    refine cs_Vi (rest := [.int x5_21]) (ci := 7) S hN cb_X8_numbers ml_X8_119 ⟨Nat.le_of_ble_eq_true rfl, Nat.le_of_ble_eq_true rfl⟩ (c_X8_numbers l G kc o ad  hq) hK hP hD hS hA 0 rfl rfl rfl rfl rfl (Nat.le_of_ble_eq_true rfl) hl.1 dX8_beginsFinding_101 (fun H locs hP hD hS => ?_)
                    refine lv_icmp_ge (tgt := 172) hx hb dX8_beginsFinding_104 (by decide) (fun q_35 => ?_) (fun q_35 => ?_)
                    · have h := it_t q_35 h
                      exact K_24 x5_21 c_isIn_22 _ _ _ hP hD hS (lv_sub hl [0, 1, 2, 3] rfl) h
                    · have h := it_f q_35 h
                      refine lv_aload_n hx hb dX8_beginsFinding_107 rfl (lv_at hl 0 rfl) ?_
                      refine r_get S gf_X8_63 hK hP 0 rfl rfl dX8_beginsFinding_108 ?_
                      refine lv_sipush (v := 256) hx hb dX8_beginsFinding_111 (by decide) ?_
                      refine lv_iload_n hx hb dX8_beginsFinding_114 rfl (lv_at hl 2 rfl) ?_
                      refine lv_imul hx hb dX8_beginsFinding_115 ?_
                      refine lv_iload hx hb dX8_beginsFinding_116 (lv_at hl 3 rfl) ?_
                      refine lv_iadd hx hb dX8_beginsFinding_118 ?_
                      refine r_iald hx hb hK hP 16 rfl dX8_beginsFinding_119 h (fun y_27 h => ?_)
                      refine lv_aload_n hx hb dX8_beginsFinding_120 rfl (lv_at hl 0 rfl) ?_
                      refine r_get S gf_X8_75 hK hP 0 rfl rfl dX8_beginsFinding_121 ?_
                      refine lv_iload_n hx hb dX8_beginsFinding_124 rfl (lv_at hl 1 rfl) ?_
                      refine r_iald hx hb hK hP 20 rfl dX8_beginsFinding_125 h (fun y_28 h => ?_)
                      refine lv_icmp_ne (tgt := 172) hx hb dX8_beginsFinding_126 (by decide) (fun q_34 => ?_) (fun q_34 => ?_)
                      · have h := it_f q_34 h
                        exact K_24 x5_21 c_isIn_22 _ _ _ hP hD hS (lv_sub hl [0, 1, 2, 3] rfl) h
                      · have h := it_t q_34 h
                        refine lv_aload_n hx hb dX8_beginsFinding_129 rfl (lv_at hl 0 rfl) ?_
                        refine r_get S gf_X8_87 hK hP 0 rfl rfl dX8_beginsFinding_130 ?_
                        refine lv_sipush (v := 256) hx hb dX8_beginsFinding_133 (by decide) ?_
                        refine lv_iload_n hx hb dX8_beginsFinding_136 rfl (lv_at hl 1 rfl) ?_
                        refine lv_imul hx hb dX8_beginsFinding_137 ?_
                        refine lv_iload hx hb dX8_beginsFinding_138 (lv_at hl 3 rfl) ?_
                        refine lv_iadd hx hb dX8_beginsFinding_140 ?_
                        refine lv_bipush (v := 16) hx hb dX8_beginsFinding_141 (by decide) ?_
                        refine lv_iload hx hb dX8_beginsFinding_143 (lv_at hl 4 rfl) ?_
                        refine lv_aload_n hx hb dX8_beginsFinding_145 rfl (lv_at hl 0 rfl) ?_
                        refine r_get S gf_X8_20 hK hP 0 rfl rfl dX8_beginsFinding_146 ?_
                        refine lv_iconst (v := 0) hx hb dX8_beginsFinding_149 (by decide) ?_
                        refine r_iald hx hb hK hP 2 rfl dX8_beginsFinding_150 h (fun y_29 h => ?_)
                        refine r_idiv hx hb dX8_beginsFinding_151 h (fun z_30 h => ?_)
                        refine lv_imul hx hb dX8_beginsFinding_152 ?_
                        refine lv_iadd hx hb dX8_beginsFinding_153 ?_
                        refine lv_iload hx hb dX8_beginsFinding_154 (lv_at hl 4 rfl) ?_
                        refine lv_aload_n hx hb dX8_beginsFinding_156 rfl (lv_at hl 0 rfl) ?_
                        refine r_get S gf_X8_20 hK hP 0 rfl rfl dX8_beginsFinding_157 ?_
                        refine lv_iconst (v := 0) hx hb dX8_beginsFinding_160 (by decide) ?_
                        refine r_iald hx hb hK hP 2 rfl dX8_beginsFinding_161 h (fun y_31 h => ?_)
                        refine r_irem hx hb dX8_beginsFinding_162 h (fun z_32 h => ?_)
                        refine lv_iadd hx hb dX8_beginsFinding_163 ?_
                        refine lv_iconst (v := 1) hx hb dX8_beginsFinding_164 (by decide) ?_
                        refine r_zast hx hb hK hP hD hS 24 rfl dX8_beginsFinding_165 h (fun c_isIn_33 H locs hP hD hS h => ?_)
                        have hP : VP G (mW o ad kc c_worked c_width c_height c_grey c_setting c_leastOf c_mostOf c_lifted c_squares c_square c_dark c_light c_like c_isCrowded c_pairs c_first c_second c_votes c_shifts c_shiftX c_shiftY c_regionAt c_regions c_regionShift c_regionPairs c_regionFirst c_findings c_regionOf c_offset_8 c_begun c_held c_isIn_33 c_numbered c_left c_right c_top c_low c_missed) H := hP
                        have hD : va_D A (mW o ad kc c_worked c_width c_height c_grey c_setting c_leastOf c_mostOf c_lifted c_squares c_square c_dark c_light c_like c_isCrowded c_pairs c_first c_second c_votes c_shifts c_shiftX c_shiftY c_regionAt c_regions c_regionShift c_regionPairs c_regionFirst c_findings c_regionOf c_offset_8 c_begun c_held c_isIn_33 c_numbered c_left c_right c_top c_low c_missed) := hD
                        refine lv_iinc (v := (x5_21 + 1)) (lv' := [(5, .int (x5_21 + 1)), (0, .ref o), (1, .int x1), (2, .int r_1), (4, .int x4_14)]) hx hb dX8_beginsFinding_166 hl (k := 4) rfl rfl (by decide) rfl (fun ls hl => ?_)
                        refine lv_goto (tgt := 98) hx hb dX8_beginsFinding_169 (by decide) ?_
                        exact ih (x5_21 + 1) c_isIn_33 _ _ _ hP hD hS (lv_sub hl [1, 2, 3, 4, 0] rfl) h
                exact L_25 FU 0 c_isIn_15 _ _ _ hP hD hS (lv_sub hl [1, 2, 3, 4, 0] rfl) h
        exact L_18 FU 0 c_isIn_10 _ _ _ hP hD hS (lv_sub hl [1, 2, 3, 0] rfl) h
    · intro k_11 K_12 h
      have L_13 : ∀ (n : Nat) (x4_9 : Int32) (c_isIn_10 : (Nat → Int32)) (H : Heap) (locs : List Loc) (ls : Array Slot), VP G (mW o ad kc c_worked c_width c_height c_grey c_setting c_leastOf c_mostOf c_lifted c_squares c_square c_dark c_light c_like c_isCrowded c_pairs c_first c_second c_votes c_shifts c_shiftX c_shiftY c_regionAt c_regions c_regionShift c_regionPairs c_regionFirst c_findings c_regionOf c_offset_8 c_begun c_held c_isIn_10 c_numbered c_left c_right c_top c_low c_missed) H → va_D A (mW o ad kc c_worked c_width c_height c_grey c_setting c_leastOf c_mostOf c_lifted c_squares c_square c_dark c_light c_like c_isCrowded c_pairs c_first c_second c_votes c_shifts c_shiftX c_shiftY c_regionAt c_regions c_regionShift c_regionPairs c_regionFirst c_findings c_regionOf c_offset_8 c_begun c_held c_isIn_10 c_numbered c_left c_right c_top c_low c_missed) → va_S A s.heap H locs → lv_has ls 6 [(0, .ref o), (1, .int x1), (2, .int r_1), (4, .int x4_9)] → f_X8_beginsFinding_L56 FU x1 k_11 n x4_9 c_isIn_10 = some (c_offset', c_begun', c_isIn') → WW p l e (rmq 3 68) s m args below meth c Q H locs 56 ls [] := by
        intro n
        induction n with
        | zero => intro x4_9 c_isIn_10 H locs ls hP hD hS hl h; rw [f_X8_beginsFinding_L56] at h; cases h
        | succ n ih =>
          intro x4_9 c_isIn_10 H locs ls hP hD hS hl h
          rw [f_X8_beginsFinding_L56] at h
          refine lv_iload hx hb dX8_beginsFinding_56 (lv_at hl 3 rfl) ?_
          refine lv_sipush (v := 256) hx hb dX8_beginsFinding_58 (by decide) ?_
          refine lv_icmp_ge (tgt := 84) hx hb dX8_beginsFinding_61 (by decide) (fun q_38 => ?_) (fun q_38 => ?_)
          · have h := it_t q_38 h
            exact K_12 x4_9 c_isIn_10 _ _ _ hP hD hS (lv_sub hl [0, 1, 2] rfl) h
          · have h := it_f q_38 h
            refine lv_aload_n hx hb dX8_beginsFinding_64 rfl (lv_at hl 0 rfl) ?_
            refine r_get S gf_X8_87 hK hP 0 rfl rfl dX8_beginsFinding_65 ?_
            refine lv_sipush (v := 256) hx hb dX8_beginsFinding_68 (by decide) ?_
            refine lv_iload_n hx hb dX8_beginsFinding_71 rfl (lv_at hl 1 rfl) ?_
            refine lv_imul hx hb dX8_beginsFinding_72 ?_
            refine lv_iload hx hb dX8_beginsFinding_73 (lv_at hl 3 rfl) ?_
            refine lv_iadd hx hb dX8_beginsFinding_75 ?_
            refine lv_iconst (v := 0) hx hb dX8_beginsFinding_76 (by decide) ?_
            refine r_zast hx hb hK hP hD hS 24 rfl dX8_beginsFinding_77 h (fun c_isIn_37 H locs hP hD hS h => ?_)
            have hP : VP G (mW o ad kc c_worked c_width c_height c_grey c_setting c_leastOf c_mostOf c_lifted c_squares c_square c_dark c_light c_like c_isCrowded c_pairs c_first c_second c_votes c_shifts c_shiftX c_shiftY c_regionAt c_regions c_regionShift c_regionPairs c_regionFirst c_findings c_regionOf c_offset_8 c_begun c_held c_isIn_37 c_numbered c_left c_right c_top c_low c_missed) H := hP
            have hD : va_D A (mW o ad kc c_worked c_width c_height c_grey c_setting c_leastOf c_mostOf c_lifted c_squares c_square c_dark c_light c_like c_isCrowded c_pairs c_first c_second c_votes c_shifts c_shiftX c_shiftY c_regionAt c_regions c_regionShift c_regionPairs c_regionFirst c_findings c_regionOf c_offset_8 c_begun c_held c_isIn_37 c_numbered c_left c_right c_top c_low c_missed) := hD
            refine lv_iinc (v := (x4_9 + 1)) (lv' := [(4, .int (x4_9 + 1)), (0, .ref o), (1, .int x1), (2, .int r_1)]) hx hb dX8_beginsFinding_78 hl (k := 3) rfl rfl (by decide) rfl (fun ls hl => ?_)
            refine lv_goto (tgt := 56) hx hb dX8_beginsFinding_81 (by decide) ?_
            exact ih (x4_9 + 1) c_isIn_37 _ _ _ hP hD hS (lv_sub hl [1, 2, 3, 0] rfl) h
      exact L_13 FU 0 c_isIn _ _ _ hP hD hS (lv_sub hl [1, 2, 3, 0] rfl) h
  · intro j_6 J_7 h
    refine lv_if_ne (tgt := 36) hx hb dX8_beginsFinding_29 (by decide) (fun q_42 => ?_) (fun q_42 => ?_)
    · have h := it_f q_42 h
      refine lv_aload_n hx hb dX8_beginsFinding_36 rfl (lv_at hl 2 rfl) ?_
      refine lv_aload_n hx hb dX8_beginsFinding_37 rfl (lv_at hl 2 rfl) ?_
      refine lv_iload_n hx hb dX8_beginsFinding_38 rfl (lv_at hl 3 rfl) ?_
      refine lv_iload_n hx hb dX8_beginsFinding_39 rfl (lv_at hl 0 rfl) ?_
      obtain ⟨r_39, hq, h⟩ := bd1_e h
      refine cs_Vi (rest := [.ref o, .int x1, .ref (ad 28)]) (ci := 7) S hN cb_X8_copyOf ml_X8_208 ⟨Nat.le_of_ble_eq_true rfl, Nat.le_of_ble_eq_true rfl⟩ (c_X8_copyOf l G kc o ad x1 y_3 hq) hK hP hD hS hA 0 rfl rfl rfl rfl rfl (Nat.le_of_ble_eq_true rfl) hl.1 dX8_beginsFinding_40 (fun H locs hP hD hS => ?_)
      obtain ⟨r_40, hq, h⟩ := bd1_e h
      refine cs_Vi (rest := [.int x1, .ref (ad 28)]) (ci := 7) S hN cb_X8_darkAt ml_X8_211 ⟨Nat.le_of_ble_eq_true rfl, Nat.le_of_ble_eq_true rfl⟩ (c_X8_darkAt l G kc o ad r_39 hq) hK hP hD hS hA 0 rfl rfl rfl rfl rfl (Nat.le_of_ble_eq_true rfl) hl.1 dX8_beginsFinding_43 (fun H locs hP hD hS => ?_)
      refine lv_aload_n hx hb dX8_beginsFinding_46 rfl (lv_at hl 2 rfl) ?_
      refine lv_iload_n hx hb dX8_beginsFinding_47 rfl (lv_at hl 0 rfl) ?_
      obtain ⟨r_41, hq, h⟩ := bd1_e h
      refine cs_Vi (rest := [.int r_40, .int x1, .ref (ad 28)]) (ci := 7) S hN cb_X8_darkAt ml_X8_211 ⟨Nat.le_of_ble_eq_true rfl, Nat.le_of_ble_eq_true rfl⟩ (c_X8_darkAt l G kc o ad y_3 hq) hK hP hD hS hA 0 rfl rfl rfl rfl rfl (Nat.le_of_ble_eq_true rfl) hl.1 dX8_beginsFinding_48 (fun H locs hP hD hS => ?_)
      refine lv_isub hx hb dX8_beginsFinding_51 ?_
      exact J_7 (r_40 - r_41) _ _ _ hP hD hS (lv_sub hl [2, 3, 1] rfl) h
    · have h := it_t q_42 h
      refine lv_iconst (v := 0) hx hb dX8_beginsFinding_32 (by decide) ?_
      refine lv_goto (tgt := 52) hx hb dX8_beginsFinding_33 (by decide) ?_
      exact J_7 0 _ _ _ hP hD hS (lv_sub hl [2, 3, 1] rfl) h
set_option maxHeartbeats 1000000 in
set_option maxRecDepth 100000 in
theorem c_X8_isHeld (l : Launch) (G : va_G) (kc : Nat → ClassId) (o : Nat) (ad : Nat → Nat) {c_worked : Int32} {c_width : Int32} {c_height : Int32} {c_grey : (Nat → Int32)} {c_setting : (Nat → Int32)} {c_leastOf : (Nat → Int32)} {c_mostOf : (Nat → Int32)} {c_lifted : (Nat → Int32)} {c_squares : Int32} {c_square : (Nat → Int32)} {c_dark : (Nat → Int32)} {c_light : (Nat → Int32)} {c_like : (Nat → Int32)} {c_isCrowded : (Nat → Int32)} {c_pairs : Int32} {c_first : (Nat → Int32)} {c_second : (Nat → Int32)} {c_votes : (Nat → Int32)} {c_shifts : Int32} {c_shiftX : (Nat → Int32)} {c_shiftY : (Nat → Int32)} {c_regionAt : (Nat → Int32)} {c_regions : Int32} {c_regionShift : (Nat → Int32)} {c_regionPairs : (Nat → Int32)} {c_regionFirst : (Nat → Int32)} {c_findings : Int32} {c_regionOf : (Nat → Int32)} {c_offset : (Nat → Int32)} {c_begun : (Nat → Int32)} {c_held : (Nat → Int32)} {c_isIn : (Nat → Int32)} {c_numbered : (Nat → Int32)} {c_left : Int32} {c_right : Int32} {c_top : Int32} {c_low : Int32} {c_missed : Int32} (x1 : Int32) (x2 : Int32) (x3 : Int32) {r : Int32} {FU : Nat} (h : f_X8_isHeld FU c_width c_height c_isIn x1 x2 x3 = some r) : CTi l G kc yX8_isHeld cX8_isHeld 4 (some .boolean) (rmq 2 44) [.ref o, .int x1, .int x2, .int x3] (mW o ad kc c_worked c_width c_height c_grey c_setting c_leastOf c_mostOf c_lifted c_squares c_square c_dark c_light c_like c_isCrowded c_pairs c_first c_second c_votes c_shifts c_shiftX c_shiftY c_regionAt c_regions c_regionShift c_regionPairs c_regionFirst c_findings c_regionOf c_offset c_begun c_held c_isIn c_numbered c_left c_right c_top c_low c_missed) (mW o ad kc c_worked c_width c_height c_grey c_setting c_leastOf c_mostOf c_lifted c_squares c_square c_dark c_light c_like c_isCrowded c_pairs c_first c_second c_votes c_shifts c_shiftX c_shiftY c_regionAt c_regions c_regionShift c_regionPairs c_regionFirst c_findings c_regionOf c_offset c_begun c_held c_isIn c_numbered c_left c_right c_top c_low c_missed) r := by
  refine CTi.mk (by decide) (Nat.le_of_ble_eq_true rfl) ?_
  intro p e s m args below meth c A ls Q hQ S hr hlocks hN hA hK hl hP hD hS
  have hx := S.1
  have hb := S.2.1
  have hl : lv_has ls 4 [(0, .ref o), (1, .int x1), (2, .int x2), (3, .int x3)] := hl
  unfold f_X8_isHeld at h
  refine lv_aload_n hx hb dX8_isHeld_0 rfl (lv_at hl 0 rfl) ?_
  refine lv_iload_n hx hb dX8_isHeld_1 rfl (lv_at hl 2 rfl) ?_
  refine lv_iload_n hx hb dX8_isHeld_2 rfl (lv_at hl 3 rfl) ?_
  obtain ⟨r_1, hq, h⟩ := bd1_e h
  refine cs_Vi (rest := []) (ci := 7) S hN cb_X8_isPlace ml_X8_104 ⟨Nat.le_of_ble_eq_true rfl, Nat.le_of_ble_eq_true rfl⟩ (c_X8_isPlace l G kc o ad x2 x3 hq) hK hP hD hS hA 0 rfl rfl rfl rfl rfl (Nat.le_of_ble_eq_true rfl) hl.1 dX8_isHeld_3 (fun H locs hP hD hS => ?_)
  refine lv_if_eq (tgt := 33) hx hb dX8_isHeld_6 (by decide) (fun q_4 => ?_) (fun q_4 => ?_)
  · have h := it_t q_4 h
    refine lv_iconst (v := 0) hx hb dX8_isHeld_33 (by decide) ?_
    cases h
    exact ret_i hx hb hr rfl hQ hlocks hK hP hD hS dX8_isHeld_34
  · have h := it_f q_4 h
    refine lv_aload_n hx hb dX8_isHeld_9 rfl (lv_at hl 0 rfl) ?_
    refine r_get S gf_X8_87 hK hP 0 rfl rfl dX8_isHeld_10 ?_
    refine lv_sipush (v := 256) hx hb dX8_isHeld_13 (by decide) ?_
    refine lv_iload_n hx hb dX8_isHeld_16 rfl (lv_at hl 1 rfl) ?_
    refine lv_imul hx hb dX8_isHeld_17 ?_
    refine lv_bipush (v := 16) hx hb dX8_isHeld_18 (by decide) ?_
    refine lv_iload_n hx hb dX8_isHeld_20 rfl (lv_at hl 3 rfl) ?_
    refine lv_imul hx hb dX8_isHeld_21 ?_
    refine lv_iadd hx hb dX8_isHeld_22 ?_
    refine lv_iload_n hx hb dX8_isHeld_23 rfl (lv_at hl 2 rfl) ?_
    refine lv_iadd hx hb dX8_isHeld_24 ?_
    refine r_zald hx hb hK hP 24 rfl dX8_isHeld_25 h (fun y_2 h => ?_)
    refine lv_if_eq (tgt := 33) hx hb dX8_isHeld_26 (by decide) (fun q_3 => ?_) (fun q_3 => ?_)
    · have h := it_t q_3 h
      refine lv_iconst (v := 0) hx hb dX8_isHeld_33 (by decide) ?_
      cases h
      exact ret_i hx hb hr rfl hQ hlocks hK hP hD hS dX8_isHeld_34
    · have h := it_f q_3 h
      refine lv_iconst (v := 1) hx hb dX8_isHeld_29 (by decide) ?_
      refine lv_goto (tgt := 34) hx hb dX8_isHeld_30 (by decide) ?_
      cases h
      exact ret_i hx hb hr rfl hQ hlocks hK hP hD hS dX8_isHeld_34
set_option maxHeartbeats 1000000 in
set_option maxRecDepth 100000 in
theorem c_X8_comes (l : Launch) (G : va_G) (kc : Nat → ClassId) (o : Nat) (ad : Nat → Nat) {c_worked : Int32} {c_width : Int32} {c_height : Int32} {c_grey : (Nat → Int32)} {c_setting : (Nat → Int32)} {c_leastOf : (Nat → Int32)} {c_mostOf : (Nat → Int32)} {c_lifted : (Nat → Int32)} {c_squares : Int32} {c_square : (Nat → Int32)} {c_dark : (Nat → Int32)} {c_light : (Nat → Int32)} {c_like : (Nat → Int32)} {c_isCrowded : (Nat → Int32)} {c_pairs : Int32} {c_first : (Nat → Int32)} {c_second : (Nat → Int32)} {c_votes : (Nat → Int32)} {c_shifts : Int32} {c_shiftX : (Nat → Int32)} {c_shiftY : (Nat → Int32)} {c_regionAt : (Nat → Int32)} {c_regions : Int32} {c_regionShift : (Nat → Int32)} {c_regionPairs : (Nat → Int32)} {c_regionFirst : (Nat → Int32)} {c_findings : Int32} {c_regionOf : (Nat → Int32)} {c_offset : (Nat → Int32)} {c_begun : (Nat → Int32)} {c_held : (Nat → Int32)} {c_isIn : (Nat → Int32)} {c_numbered : (Nat → Int32)} {c_left : Int32} {c_right : Int32} {c_top : Int32} {c_low : Int32} {c_missed : Int32} (x1 : Int32) (x2 : Int32) {r : Int32} {FU : Nat} (h : f_X8_comes FU c_width c_height c_grey c_setting c_shiftX c_shiftY c_regionShift c_regionOf c_offset c_isIn x1 x2 = some r) : CTi l G kc yX8_comes cX8_comes 6 (some .boolean) (rmq 4 90) [.ref o, .int x1, .int x2] (mW o ad kc c_worked c_width c_height c_grey c_setting c_leastOf c_mostOf c_lifted c_squares c_square c_dark c_light c_like c_isCrowded c_pairs c_first c_second c_votes c_shifts c_shiftX c_shiftY c_regionAt c_regions c_regionShift c_regionPairs c_regionFirst c_findings c_regionOf c_offset c_begun c_held c_isIn c_numbered c_left c_right c_top c_low c_missed) (mW o ad kc c_worked c_width c_height c_grey c_setting c_leastOf c_mostOf c_lifted c_squares c_square c_dark c_light c_like c_isCrowded c_pairs c_first c_second c_votes c_shifts c_shiftX c_shiftY c_regionAt c_regions c_regionShift c_regionPairs c_regionFirst c_findings c_regionOf c_offset c_begun c_held c_isIn c_numbered c_left c_right c_top c_low c_missed) r := by
  refine CTi.mk (by decide) (Nat.le_of_ble_eq_true rfl) ?_
  intro p e s m args below meth c A ls Q hQ S hr hlocks hN hA hK hl hP hD hS
  have hx := S.1
  have hb := S.2.1
  have hl : lv_has ls 6 [(0, .ref o), (1, .int x1), (2, .int x2)] := hl
  unfold f_X8_comes at h
  refine lv_iload_n hx hb dX8_comes_0 rfl (lv_at hl 2 rfl) ?_
  refine lv_bipush (v := 16) hx hb dX8_comes_1 (by decide) ?_
  refine lv_irem hx hb dX8_comes_3 (by decide) ?_
  refine lv_istore_n (lv' := [(3, .int (x2 - x2 / 16 * 16)), (0, .ref o), (1, .int x1), (2, .int x2)]) hx hb dX8_comes_4 rfl hl (by decide) rfl (fun ls hl => ?_)
  refine lv_iload_n hx hb dX8_comes_5 rfl (lv_at hl 3 rfl) ?_
  refine lv_bipush (v := 16) hx hb dX8_comes_6 (by decide) ?_
  refine lv_idiv hx hb dX8_comes_8 (by decide) ?_
  refine lv_istore (lv' := [(4, .int (x2 / 16)), (3, .int (x2 - x2 / 16 * 16)), (0, .ref o), (1, .int x1), (2, .int x2)]) hx hb dX8_comes_9 hl (by decide) rfl (fun ls hl => ?_)
  refine lv_aload_n hx hb dX8_comes_11 rfl (lv_at hl 2 rfl) ?_
  refine lv_iload_n hx hb dX8_comes_12 rfl (lv_at hl 3 rfl) ?_
  refine lv_iload_n hx hb dX8_comes_13 rfl (lv_at hl 1 rfl) ?_
  refine lv_iconst (v := 1) hx hb dX8_comes_14 (by decide) ?_
  refine lv_isub hx hb dX8_comes_15 ?_
  refine lv_iload hx hb dX8_comes_16 (lv_at hl 0 rfl) ?_
  obtain ⟨r_1, hq, h⟩ := bd1_e h
  refine cs_Vi (rest := []) (ci := 7) S hN cb_X8_isHeld ml_X8_217 ⟨Nat.le_of_ble_eq_true rfl, Nat.le_of_ble_eq_true rfl⟩ (c_X8_isHeld l G kc o ad x1 ((x2 - x2 / 16 * 16) - 1) (x2 / 16) hq) hK hP hD hS hA 0 rfl rfl rfl rfl rfl (Nat.le_of_ble_eq_true rfl) hl.1 dX8_comes_18 (fun H locs hP hD hS => ?_)
  refine jn_w (fun (k : Int32 → Option (Int32)) => ∀ (t_2 : Int32) (H : Heap) (locs : List Loc) (ls : Array Slot), VP G (mW o ad kc c_worked c_width c_height c_grey c_setting c_leastOf c_mostOf c_lifted c_squares c_square c_dark c_light c_like c_isCrowded c_pairs c_first c_second c_votes c_shifts c_shiftX c_shiftY c_regionAt c_regions c_regionShift c_regionPairs c_regionFirst c_findings c_regionOf c_offset c_begun c_held c_isIn c_numbered c_left c_right c_top c_low c_missed) H → va_D A (mW o ad kc c_worked c_width c_height c_grey c_setting c_leastOf c_mostOf c_lifted c_squares c_square c_dark c_light c_like c_isCrowded c_pairs c_first c_second c_votes c_shifts c_shiftX c_shiftY c_regionAt c_regions c_regionShift c_regionPairs c_regionFirst c_findings c_regionOf c_offset c_begun c_held c_isIn c_numbered c_left c_right c_top c_low c_missed) → va_S A s.heap H locs → lv_has ls 6 [(0, .ref o), (1, .int x1), (2, .int x2), (3, .int (x2 - x2 / 16 * 16)), (4, .int (x2 / 16))] → k t_2 = some r → WW p l e (rmq 4 90) s m args below meth c Q H locs 68 ls [.int t_2]) h ?_ ?_
  · intro t_2 H locs ls hP hD hS hl h
    refine lv_istore (lv' := [(5, .int t_2), (0, .ref o), (1, .int x1), (2, .int x2), (3, .int (x2 - x2 / 16 * 16)), (4, .int (x2 / 16))]) hx hb dX8_comes_68 hl (by decide) rfl (fun ls hl => ?_)
    refine lv_aload_n hx hb dX8_comes_70 rfl (lv_at hl 1 rfl) ?_
    refine lv_iload_n hx hb dX8_comes_71 rfl (lv_at hl 4 rfl) ?_
    refine lv_iload hx hb dX8_comes_72 (lv_at hl 5 rfl) ?_
    obtain ⟨r_5, hq, h⟩ := bd1_e h
    refine cs_Vi (rest := []) (ci := 7) S hN cb_X8_isPlace ml_X8_104 ⟨Nat.le_of_ble_eq_true rfl, Nat.le_of_ble_eq_true rfl⟩ (c_X8_isPlace l G kc o ad (x2 - x2 / 16 * 16) (x2 / 16) hq) hK hP hD hS hA 0 rfl rfl rfl rfl rfl (Nat.le_of_ble_eq_true rfl) hl.1 dX8_comes_74 (fun H locs hP hD hS => ?_)
    refine lv_if_eq (tgt := 116) hx hb dX8_comes_77 (by decide) (fun q_12 => ?_) (fun q_12 => ?_)
    · have h := it_t q_12 h
      refine lv_iconst (v := 0) hx hb dX8_comes_116 (by decide) ?_
      cases h
      exact ret_i hx hb hr rfl hQ hlocks hK hP hD hS dX8_comes_117
    · have h := it_f q_12 h
      refine lv_iload hx hb dX8_comes_80 (lv_at hl 0 rfl) ?_
      refine lv_if_eq (tgt := 116) hx hb dX8_comes_82 (by decide) (fun q_11 => ?_) (fun q_11 => ?_)
      · have h := it_t q_11 h
        refine lv_iconst (v := 0) hx hb dX8_comes_116 (by decide) ?_
        cases h
        exact ret_i hx hb hr rfl hQ hlocks hK hP hD hS dX8_comes_117
      · have h := it_f q_11 h
        refine lv_aload_n hx hb dX8_comes_85 rfl (lv_at hl 1 rfl) ?_
        refine lv_iload_n hx hb dX8_comes_86 rfl (lv_at hl 2 rfl) ?_
        refine lv_iload_n hx hb dX8_comes_87 rfl (lv_at hl 3 rfl) ?_
        obtain ⟨r_6, hq, h⟩ := bd1_e h
        refine cs_Vi (rest := []) (ci := 7) S hN cb_X8_copyOf ml_X8_208 ⟨Nat.le_of_ble_eq_true rfl, Nat.le_of_ble_eq_true rfl⟩ (c_X8_copyOf l G kc o ad x1 x2 hq) hK hP hD hS hA 0 rfl rfl rfl rfl rfl (Nat.le_of_ble_eq_true rfl) hl.1 dX8_comes_88 (fun H locs hP hD hS => ?_)
        refine lv_bipush (v := (-9)) hx hb dX8_comes_91 (by decide) ?_
        refine lv_icmp_eq (tgt := 116) hx hb dX8_comes_93 (by decide) (fun q_10 => ?_) (fun q_10 => ?_)
        · have h := it_t q_10 h
          refine lv_iconst (v := 0) hx hb dX8_comes_116 (by decide) ?_
          cases h
          exact ret_i hx hb hr rfl hQ hlocks hK hP hD hS dX8_comes_117
        · have h := it_f q_10 h
          refine lv_aload_n hx hb dX8_comes_96 rfl (lv_at hl 1 rfl) ?_
          refine lv_iload_n hx hb dX8_comes_97 rfl (lv_at hl 2 rfl) ?_
          refine lv_iload_n hx hb dX8_comes_98 rfl (lv_at hl 3 rfl) ?_
          obtain ⟨r_7, hq, h⟩ := bd1_e h
          refine cs_Vi (rest := []) (ci := 7) S hN cb_X8_missOf ml_X8_220 ⟨Nat.le_of_ble_eq_true rfl, Nat.le_of_ble_eq_true rfl⟩ (c_X8_missOf l G kc o ad x1 x2 hq) hK hP hD hS hA 0 rfl rfl rfl rfl rfl (Nat.le_of_ble_eq_true rfl) hl.1 dX8_comes_99 (fun H locs hP hD hS => ?_)
          refine lv_aload_n hx hb dX8_comes_102 rfl (lv_at hl 1 rfl) ?_
          refine r_get S gf_X8_20 hK hP 0 rfl rfl dX8_comes_103 ?_
          refine lv_bipush (v := 7) hx hb dX8_comes_106 (by decide) ?_
          refine r_iald hx hb hK hP 2 rfl dX8_comes_108 h (fun y_8 h => ?_)
          refine lv_icmp_gt (tgt := 116) hx hb dX8_comes_109 (by decide) (fun q_9 => ?_) (fun q_9 => ?_)
          · have h := it_t q_9 h
            refine lv_iconst (v := 0) hx hb dX8_comes_116 (by decide) ?_
            cases h
            exact ret_i hx hb hr rfl hQ hlocks hK hP hD hS dX8_comes_117
          · have h := it_f q_9 h
            refine lv_iconst (v := 1) hx hb dX8_comes_112 (by decide) ?_
            refine lv_goto (tgt := 117) hx hb dX8_comes_113 (by decide) ?_
            cases h
            exact ret_i hx hb hr rfl hQ hlocks hK hP hD hS dX8_comes_117
  · intro j_3 J_4 h
    refine lv_if_ne (tgt := 63) hx hb dX8_comes_21 (by decide) (fun q_19 => ?_) (fun q_19 => ?_)
    · have h := it_f q_19 h
      refine lv_iconst (v := 1) hx hb dX8_comes_63 (by decide) ?_
      refine lv_goto (tgt := 68) hx hb dX8_comes_64 (by decide) ?_
      exact J_4 1 _ _ _ hP hD hS (lv_sub hl [2, 3, 4, 1, 0] rfl) h
    · have h := it_t q_19 h
      refine lv_aload_n hx hb dX8_comes_24 rfl (lv_at hl 2 rfl) ?_
      refine lv_iload_n hx hb dX8_comes_25 rfl (lv_at hl 3 rfl) ?_
      refine lv_iload_n hx hb dX8_comes_26 rfl (lv_at hl 1 rfl) ?_
      refine lv_iconst (v := 1) hx hb dX8_comes_27 (by decide) ?_
      refine lv_iadd hx hb dX8_comes_28 ?_
      refine lv_iload hx hb dX8_comes_29 (lv_at hl 0 rfl) ?_
      obtain ⟨r_13, hq, h⟩ := bd1_e h
      refine cs_Vi (rest := []) (ci := 7) S hN cb_X8_isHeld ml_X8_217 ⟨Nat.le_of_ble_eq_true rfl, Nat.le_of_ble_eq_true rfl⟩ (c_X8_isHeld l G kc o ad x1 ((x2 - x2 / 16 * 16) + 1) (x2 / 16) hq) hK hP hD hS hA 0 rfl rfl rfl rfl rfl (Nat.le_of_ble_eq_true rfl) hl.1 dX8_comes_31 (fun H locs hP hD hS => ?_)
      refine lv_if_ne (tgt := 63) hx hb dX8_comes_34 (by decide) (fun q_18 => ?_) (fun q_18 => ?_)
      · have h := it_f q_18 h
        refine lv_iconst (v := 1) hx hb dX8_comes_63 (by decide) ?_
        refine lv_goto (tgt := 68) hx hb dX8_comes_64 (by decide) ?_
        exact J_4 1 _ _ _ hP hD hS (lv_sub hl [2, 3, 4, 1, 0] rfl) h
      · have h := it_t q_18 h
        refine lv_aload_n hx hb dX8_comes_37 rfl (lv_at hl 2 rfl) ?_
        refine lv_iload_n hx hb dX8_comes_38 rfl (lv_at hl 3 rfl) ?_
        refine lv_iload_n hx hb dX8_comes_39 rfl (lv_at hl 1 rfl) ?_
        refine lv_iload hx hb dX8_comes_40 (lv_at hl 0 rfl) ?_
        refine lv_iconst (v := 1) hx hb dX8_comes_42 (by decide) ?_
        refine lv_isub hx hb dX8_comes_43 ?_
        obtain ⟨r_14, hq, h⟩ := bd1_e h
        refine cs_Vi (rest := []) (ci := 7) S hN cb_X8_isHeld ml_X8_217 ⟨Nat.le_of_ble_eq_true rfl, Nat.le_of_ble_eq_true rfl⟩ (c_X8_isHeld l G kc o ad x1 (x2 - x2 / 16 * 16) ((x2 / 16) - 1) hq) hK hP hD hS hA 0 rfl rfl rfl rfl rfl (Nat.le_of_ble_eq_true rfl) hl.1 dX8_comes_44 (fun H locs hP hD hS => ?_)
        refine lv_if_ne (tgt := 63) hx hb dX8_comes_47 (by decide) (fun q_17 => ?_) (fun q_17 => ?_)
        · have h := it_f q_17 h
          refine lv_iconst (v := 1) hx hb dX8_comes_63 (by decide) ?_
          refine lv_goto (tgt := 68) hx hb dX8_comes_64 (by decide) ?_
          exact J_4 1 _ _ _ hP hD hS (lv_sub hl [2, 3, 4, 1, 0] rfl) h
        · have h := it_t q_17 h
          refine lv_aload_n hx hb dX8_comes_50 rfl (lv_at hl 2 rfl) ?_
          refine lv_iload_n hx hb dX8_comes_51 rfl (lv_at hl 3 rfl) ?_
          refine lv_iload_n hx hb dX8_comes_52 rfl (lv_at hl 1 rfl) ?_
          refine lv_iload hx hb dX8_comes_53 (lv_at hl 0 rfl) ?_
          refine lv_iconst (v := 1) hx hb dX8_comes_55 (by decide) ?_
          refine lv_iadd hx hb dX8_comes_56 ?_
          obtain ⟨r_15, hq, h⟩ := bd1_e h
          refine cs_Vi (rest := []) (ci := 7) S hN cb_X8_isHeld ml_X8_217 ⟨Nat.le_of_ble_eq_true rfl, Nat.le_of_ble_eq_true rfl⟩ (c_X8_isHeld l G kc o ad x1 (x2 - x2 / 16 * 16) ((x2 / 16) + 1) hq) hK hP hD hS hA 0 rfl rfl rfl rfl rfl (Nat.le_of_ble_eq_true rfl) hl.1 dX8_comes_57 (fun H locs hP hD hS => ?_)
          refine lv_if_eq (tgt := 67) hx hb dX8_comes_60 (by decide) (fun q_16 => ?_) (fun q_16 => ?_)
          · have h := it_t q_16 h
            refine lv_iconst (v := 0) hx hb dX8_comes_67 (by decide) ?_
            exact J_4 0 _ _ _ hP hD hS (lv_sub hl [2, 3, 4, 1, 0] rfl) h
          · have h := it_f q_16 h
            refine lv_iconst (v := 1) hx hb dX8_comes_63 (by decide) ?_
            refine lv_goto (tgt := 68) hx hb dX8_comes_64 (by decide) ?_
            exact J_4 1 _ _ _ hP hD hS (lv_sub hl [2, 3, 4, 1, 0] rfl) h
set_option maxHeartbeats 1000000 in
set_option maxRecDepth 100000 in
theorem c_X8_grows (l : Launch) (G : va_G) (kc : Nat → ClassId) (o : Nat) (ad : Nat → Nat) {c_worked : Int32} {c_width : Int32} {c_height : Int32} {c_grey : (Nat → Int32)} {c_setting : (Nat → Int32)} {c_leastOf : (Nat → Int32)} {c_mostOf : (Nat → Int32)} {c_lifted : (Nat → Int32)} {c_squares : Int32} {c_square : (Nat → Int32)} {c_dark : (Nat → Int32)} {c_light : (Nat → Int32)} {c_like : (Nat → Int32)} {c_isCrowded : (Nat → Int32)} {c_pairs : Int32} {c_first : (Nat → Int32)} {c_second : (Nat → Int32)} {c_votes : (Nat → Int32)} {c_shifts : Int32} {c_shiftX : (Nat → Int32)} {c_shiftY : (Nat → Int32)} {c_regionAt : (Nat → Int32)} {c_regions : Int32} {c_regionShift : (Nat → Int32)} {c_regionPairs : (Nat → Int32)} {c_regionFirst : (Nat → Int32)} {c_findings : Int32} {c_regionOf : (Nat → Int32)} {c_offset : (Nat → Int32)} {c_begun : (Nat → Int32)} {c_held : (Nat → Int32)} {c_isIn : (Nat → Int32)} {c_numbered : (Nat → Int32)} {c_left : Int32} {c_right : Int32} {c_top : Int32} {c_low : Int32} {c_missed : Int32} (x1 : Int32) {c_held' : (Nat → Int32)} {c_isIn' : (Nat → Int32)} {FU : Nat} (h : f_X8_grows FU c_width c_height c_grey c_setting c_shiftX c_shiftY c_regionShift c_regionOf c_offset c_held c_isIn x1 = some (c_held', c_isIn')) : CTv l G kc yX8_grows cX8_grows 4 none (rmq 5 115) [.ref o, .int x1] (mW o ad kc c_worked c_width c_height c_grey c_setting c_leastOf c_mostOf c_lifted c_squares c_square c_dark c_light c_like c_isCrowded c_pairs c_first c_second c_votes c_shifts c_shiftX c_shiftY c_regionAt c_regions c_regionShift c_regionPairs c_regionFirst c_findings c_regionOf c_offset c_begun c_held c_isIn c_numbered c_left c_right c_top c_low c_missed) (mW o ad kc c_worked c_width c_height c_grey c_setting c_leastOf c_mostOf c_lifted c_squares c_square c_dark c_light c_like c_isCrowded c_pairs c_first c_second c_votes c_shifts c_shiftX c_shiftY c_regionAt c_regions c_regionShift c_regionPairs c_regionFirst c_findings c_regionOf c_offset c_begun (c_held') (c_isIn') c_numbered c_left c_right c_top c_low c_missed) := by
  refine CTv.mk (by decide) (Nat.le_of_ble_eq_true rfl) ?_
  intro p e s m args below meth c A ls Q hQ S hr hlocks hN hA hK hl hP hD hS
  have hx := S.1
  have hb := S.2.1
  have hl : lv_has ls 4 [(0, .ref o), (1, .int x1)] := hl
  unfold f_X8_grows at h
  refine lv_iconst (v := 1) hx hb dX8_grows_0 (by decide) ?_
  refine lv_istore_n (lv' := [(2, .int 1), (0, .ref o), (1, .int x1)]) hx hb dX8_grows_1 rfl hl (by decide) rfl (fun ls hl => ?_)
  refine jn_w (t := fun k => f_X8_grows_L2 FU x1 c_width c_height c_grey c_setting c_shiftX c_shiftY c_regionShift c_regionOf c_offset k FU 1 c_isIn) (fun (k : Int32 → (Nat → Int32) → Option ((Nat → Int32) × (Nat → Int32))) => ∀ (x2_1 : Int32) (c_isIn_2 : (Nat → Int32)) (H : Heap) (locs : List Loc) (ls : Array Slot), VP G (mW o ad kc c_worked c_width c_height c_grey c_setting c_leastOf c_mostOf c_lifted c_squares c_square c_dark c_light c_like c_isCrowded c_pairs c_first c_second c_votes c_shifts c_shiftX c_shiftY c_regionAt c_regions c_regionShift c_regionPairs c_regionFirst c_findings c_regionOf c_offset c_begun c_held c_isIn_2 c_numbered c_left c_right c_top c_low c_missed) H → va_D A (mW o ad kc c_worked c_width c_height c_grey c_setting c_leastOf c_mostOf c_lifted c_squares c_square c_dark c_light c_like c_isCrowded c_pairs c_first c_second c_votes c_shifts c_shiftX c_shiftY c_regionAt c_regions c_regionShift c_regionPairs c_regionFirst c_findings c_regionOf c_offset c_begun c_held c_isIn_2 c_numbered c_left c_right c_top c_low c_missed) → va_S A s.heap H locs → lv_has ls 4 [(0, .ref o), (1, .int x1)] → k x2_1 c_isIn_2 = some (c_held', c_isIn') → WW p l e (rmq 5 115) s m args below meth c Q H locs 65 ls []) h ?_ ?_
  · intro x2_1 c_isIn_2 H locs ls hP hD hS hl h
    refine lv_aload_n hx hb dX8_grows_65 rfl (lv_at hl 0 rfl) ?_
    refine r_get S gf_X8_84 hK hP 0 rfl rfl dX8_grows_66 ?_
    refine lv_iload_n hx hb dX8_grows_69 rfl (lv_at hl 1 rfl) ?_
    refine lv_aload_n hx hb dX8_grows_70 rfl (lv_at hl 0 rfl) ?_
    refine lv_iload_n hx hb dX8_grows_71 rfl (lv_at hl 1 rfl) ?_
    obtain ⟨r_6, hq, h⟩ := bd1_e h
    refine cs_Vi (rest := [.int x1, .ref (ad 30)]) (ci := 7) S hN cb_X8_manyIn ml_X8_214 ⟨Nat.le_of_ble_eq_true rfl, Nat.le_of_ble_eq_true rfl⟩ (c_X8_manyIn l G kc o ad x1 hq) hK hP hD hS hA 0 rfl rfl rfl rfl rfl (Nat.le_of_ble_eq_true rfl) hl.1 dX8_grows_72 (fun H locs hP hD hS => ?_)
    refine r_iast hx hb hK hP hD hS 23 rfl dX8_grows_75 h (fun c_held_7 H locs hP hD hS h => ?_)
    have hP : VP G (mW o ad kc c_worked c_width c_height c_grey c_setting c_leastOf c_mostOf c_lifted c_squares c_square c_dark c_light c_like c_isCrowded c_pairs c_first c_second c_votes c_shifts c_shiftX c_shiftY c_regionAt c_regions c_regionShift c_regionPairs c_regionFirst c_findings c_regionOf c_offset c_begun c_held_7 c_isIn_2 c_numbered c_left c_right c_top c_low c_missed) H := hP
    have hD : va_D A (mW o ad kc c_worked c_width c_height c_grey c_setting c_leastOf c_mostOf c_lifted c_squares c_square c_dark c_light c_like c_isCrowded c_pairs c_first c_second c_votes c_shifts c_shiftX c_shiftY c_regionAt c_regions c_regionShift c_regionPairs c_regionFirst c_findings c_regionOf c_offset c_begun c_held_7 c_isIn_2 c_numbered c_left c_right c_top c_low c_missed) := hD
    cases h
    exact ret_v hx hb hr hQ hlocks hK hP hD hS dX8_grows_76
  · intro k_3 K_4 h
    have L_5 : ∀ (n : Nat) (x2_1 : Int32) (c_isIn_2 : (Nat → Int32)) (H : Heap) (locs : List Loc) (ls : Array Slot), VP G (mW o ad kc c_worked c_width c_height c_grey c_setting c_leastOf c_mostOf c_lifted c_squares c_square c_dark c_light c_like c_isCrowded c_pairs c_first c_second c_votes c_shifts c_shiftX c_shiftY c_regionAt c_regions c_regionShift c_regionPairs c_regionFirst c_findings c_regionOf c_offset c_begun c_held c_isIn_2 c_numbered c_left c_right c_top c_low c_missed) H → va_D A (mW o ad kc c_worked c_width c_height c_grey c_setting c_leastOf c_mostOf c_lifted c_squares c_square c_dark c_light c_like c_isCrowded c_pairs c_first c_second c_votes c_shifts c_shiftX c_shiftY c_regionAt c_regions c_regionShift c_regionPairs c_regionFirst c_findings c_regionOf c_offset c_begun c_held c_isIn_2 c_numbered c_left c_right c_top c_low c_missed) → va_S A s.heap H locs → lv_has ls 4 [(0, .ref o), (1, .int x1), (2, .int x2_1)] → f_X8_grows_L2 FU x1 c_width c_height c_grey c_setting c_shiftX c_shiftY c_regionShift c_regionOf c_offset k_3 n x2_1 c_isIn_2 = some (c_held', c_isIn') → WW p l e (rmq 5 115) s m args below meth c Q H locs 2 ls [] := by
      intro n
      induction n with
      | zero => intro x2_1 c_isIn_2 H locs ls hP hD hS hl h; rw [f_X8_grows_L2] at h; cases h
      | succ n ih =>
        intro x2_1 c_isIn_2 H locs ls hP hD hS hl h
        rw [f_X8_grows_L2] at h
        refine lv_iload_n hx hb dX8_grows_2 rfl (lv_at hl 2 rfl) ?_
        refine lv_if_eq (tgt := 65) hx hb dX8_grows_3 (by decide) (fun q_20 => ?_) (fun q_20 => ?_)
        · have h := it_t q_20 h
          exact K_4 x2_1 c_isIn_2 _ _ _ hP hD hS (lv_sub hl [0, 1] rfl) h
        · have h := it_f q_20 h
          refine lv_iconst (v := 0) hx hb dX8_grows_6 (by decide) ?_
          refine lv_istore_n (lv' := [(2, .int 0), (0, .ref o), (1, .int x1)]) hx hb dX8_grows_7 rfl hl (by decide) rfl (fun ls hl => ?_)
          refine lv_iconst (v := 0) hx hb dX8_grows_8 (by decide) ?_
          refine lv_istore_n (lv' := [(3, .int 0), (2, .int 0), (0, .ref o), (1, .int x1)]) hx hb dX8_grows_9 rfl hl (by decide) rfl (fun ls hl => ?_)
          refine jn_w (t := fun k => f_X8_grows_L10 FU x1 c_width c_height c_grey c_setting c_shiftX c_shiftY c_regionShift c_regionOf c_offset k FU 0 0 c_isIn_2) (fun (k : Int32 → Int32 → (Nat → Int32) → Option ((Nat → Int32) × (Nat → Int32))) => ∀ (x2_8 : Int32) (x3_9 : Int32) (c_isIn_10 : (Nat → Int32)) (H : Heap) (locs : List Loc) (ls : Array Slot), VP G (mW o ad kc c_worked c_width c_height c_grey c_setting c_leastOf c_mostOf c_lifted c_squares c_square c_dark c_light c_like c_isCrowded c_pairs c_first c_second c_votes c_shifts c_shiftX c_shiftY c_regionAt c_regions c_regionShift c_regionPairs c_regionFirst c_findings c_regionOf c_offset c_begun c_held c_isIn_10 c_numbered c_left c_right c_top c_low c_missed) H → va_D A (mW o ad kc c_worked c_width c_height c_grey c_setting c_leastOf c_mostOf c_lifted c_squares c_square c_dark c_light c_like c_isCrowded c_pairs c_first c_second c_votes c_shifts c_shiftX c_shiftY c_regionAt c_regions c_regionShift c_regionPairs c_regionFirst c_findings c_regionOf c_offset c_begun c_held c_isIn_10 c_numbered c_left c_right c_top c_low c_missed) → va_S A s.heap H locs → lv_has ls 4 [(0, .ref o), (1, .int x1), (2, .int x2_8)] → k x2_8 x3_9 c_isIn_10 = some (c_held', c_isIn') → WW p l e (rmq 5 115) s m args below meth c Q H locs 62 ls []) h ?_ ?_
          · intro x2_8 x3_9 c_isIn_10 H locs ls hP hD hS hl h
            refine lv_goto (tgt := 2) hx hb dX8_grows_62 (by decide) ?_
            exact ih x2_8 c_isIn_10 _ _ _ hP hD hS (lv_sub hl [0, 1, 2] rfl) h
          · intro k_11 K_12 h
            have L_13 : ∀ (n : Nat) (x2_8 : Int32) (x3_9 : Int32) (c_isIn_10 : (Nat → Int32)) (H : Heap) (locs : List Loc) (ls : Array Slot), VP G (mW o ad kc c_worked c_width c_height c_grey c_setting c_leastOf c_mostOf c_lifted c_squares c_square c_dark c_light c_like c_isCrowded c_pairs c_first c_second c_votes c_shifts c_shiftX c_shiftY c_regionAt c_regions c_regionShift c_regionPairs c_regionFirst c_findings c_regionOf c_offset c_begun c_held c_isIn_10 c_numbered c_left c_right c_top c_low c_missed) H → va_D A (mW o ad kc c_worked c_width c_height c_grey c_setting c_leastOf c_mostOf c_lifted c_squares c_square c_dark c_light c_like c_isCrowded c_pairs c_first c_second c_votes c_shifts c_shiftX c_shiftY c_regionAt c_regions c_regionShift c_regionPairs c_regionFirst c_findings c_regionOf c_offset c_begun c_held c_isIn_10 c_numbered c_left c_right c_top c_low c_missed) → va_S A s.heap H locs → lv_has ls 4 [(0, .ref o), (1, .int x1), (2, .int x2_8), (3, .int x3_9)] → f_X8_grows_L10 FU x1 c_width c_height c_grey c_setting c_shiftX c_shiftY c_regionShift c_regionOf c_offset k_11 n x2_8 x3_9 c_isIn_10 = some (c_held', c_isIn') → WW p l e (rmq 5 115) s m args below meth c Q H locs 10 ls [] := by
              intro n
              induction n with
              | zero => intro x2_8 x3_9 c_isIn_10 H locs ls hP hD hS hl h; rw [f_X8_grows_L10] at h; cases h
              | succ n ih =>
                intro x2_8 x3_9 c_isIn_10 H locs ls hP hD hS hl h
                rw [f_X8_grows_L10] at h
                refine lv_iload_n hx hb dX8_grows_10 rfl (lv_at hl 3 rfl) ?_
                refine lv_sipush (v := 256) hx hb dX8_grows_11 (by decide) ?_
                refine lv_icmp_ge (tgt := 62) hx hb dX8_grows_14 (by decide) (fun q_19 => ?_) (fun q_19 => ?_)
                · have h := it_t q_19 h
                  exact K_12 x2_8 x3_9 c_isIn_10 _ _ _ hP hD hS (lv_sub hl [0, 1, 2] rfl) h
                · have h := it_f q_19 h
                  refine lv_aload_n hx hb dX8_grows_17 rfl (lv_at hl 0 rfl) ?_
                  refine r_get S gf_X8_87 hK hP 0 rfl rfl dX8_grows_18 ?_
                  refine lv_sipush (v := 256) hx hb dX8_grows_21 (by decide) ?_
                  refine lv_iload_n hx hb dX8_grows_24 rfl (lv_at hl 1 rfl) ?_
                  refine lv_imul hx hb dX8_grows_25 ?_
                  refine lv_iload_n hx hb dX8_grows_26 rfl (lv_at hl 3 rfl) ?_
                  refine lv_iadd hx hb dX8_grows_27 ?_
                  refine r_zald hx hb hK hP 24 rfl dX8_grows_28 h (fun y_14 h => ?_)
                  refine lv_if_ne (tgt := 56) hx hb dX8_grows_29 (by decide) (fun q_18 => ?_) (fun q_18 => ?_)
                  · have h := it_f q_18 h
                    refine lv_iinc (v := (x3_9 + 1)) (lv' := [(3, .int (x3_9 + 1)), (0, .ref o), (1, .int x1), (2, .int x2_8)]) hx hb dX8_grows_56 hl (k := 3) rfl rfl (by decide) rfl (fun ls hl => ?_)
                    refine lv_goto (tgt := 10) hx hb dX8_grows_59 (by decide) ?_
                    exact ih x2_8 (x3_9 + 1) c_isIn_10 _ _ _ hP hD hS (lv_sub hl [1, 2, 3, 0] rfl) h
                  · have h := it_t q_18 h
                    refine lv_aload_n hx hb dX8_grows_32 rfl (lv_at hl 0 rfl) ?_
                    refine lv_iload_n hx hb dX8_grows_33 rfl (lv_at hl 1 rfl) ?_
                    refine lv_iload_n hx hb dX8_grows_34 rfl (lv_at hl 3 rfl) ?_
                    obtain ⟨r_15, hq, h⟩ := bd1_e h
                    refine cs_Vi (rest := []) (ci := 7) S hN cb_X8_comes ml_X8_223 ⟨Nat.le_of_ble_eq_true rfl, Nat.le_of_ble_eq_true rfl⟩ (c_X8_comes l G kc o ad x1 x3_9 hq) hK hP hD hS hA 0 rfl rfl rfl rfl rfl (Nat.le_of_ble_eq_true rfl) hl.1 dX8_grows_35 (fun H locs hP hD hS => ?_)
                    refine lv_if_eq (tgt := 56) hx hb dX8_grows_38 (by decide) (fun q_17 => ?_) (fun q_17 => ?_)
                    · have h := it_t q_17 h
                      refine lv_iinc (v := (x3_9 + 1)) (lv' := [(3, .int (x3_9 + 1)), (0, .ref o), (1, .int x1), (2, .int x2_8)]) hx hb dX8_grows_56 hl (k := 3) rfl rfl (by decide) rfl (fun ls hl => ?_)
                      refine lv_goto (tgt := 10) hx hb dX8_grows_59 (by decide) ?_
                      exact ih x2_8 (x3_9 + 1) c_isIn_10 _ _ _ hP hD hS (lv_sub hl [1, 2, 3, 0] rfl) h
                    · have h := it_f q_17 h
                      refine lv_aload_n hx hb dX8_grows_41 rfl (lv_at hl 0 rfl) ?_
                      refine r_get S gf_X8_87 hK hP 0 rfl rfl dX8_grows_42 ?_
                      refine lv_sipush (v := 256) hx hb dX8_grows_45 (by decide) ?_
                      refine lv_iload_n hx hb dX8_grows_48 rfl (lv_at hl 1 rfl) ?_
                      refine lv_imul hx hb dX8_grows_49 ?_
                      refine lv_iload_n hx hb dX8_grows_50 rfl (lv_at hl 3 rfl) ?_
                      refine lv_iadd hx hb dX8_grows_51 ?_
                      refine lv_iconst (v := 1) hx hb dX8_grows_52 (by decide) ?_
                      refine r_zast hx hb hK hP hD hS 24 rfl dX8_grows_53 h (fun c_isIn_16 H locs hP hD hS h => ?_)
                      have hP : VP G (mW o ad kc c_worked c_width c_height c_grey c_setting c_leastOf c_mostOf c_lifted c_squares c_square c_dark c_light c_like c_isCrowded c_pairs c_first c_second c_votes c_shifts c_shiftX c_shiftY c_regionAt c_regions c_regionShift c_regionPairs c_regionFirst c_findings c_regionOf c_offset c_begun c_held c_isIn_16 c_numbered c_left c_right c_top c_low c_missed) H := hP
                      have hD : va_D A (mW o ad kc c_worked c_width c_height c_grey c_setting c_leastOf c_mostOf c_lifted c_squares c_square c_dark c_light c_like c_isCrowded c_pairs c_first c_second c_votes c_shifts c_shiftX c_shiftY c_regionAt c_regions c_regionShift c_regionPairs c_regionFirst c_findings c_regionOf c_offset c_begun c_held c_isIn_16 c_numbered c_left c_right c_top c_low c_missed) := hD
                      refine lv_iconst (v := 1) hx hb dX8_grows_54 (by decide) ?_
                      refine lv_istore_n (lv' := [(2, .int 1), (0, .ref o), (1, .int x1), (3, .int x3_9)]) hx hb dX8_grows_55 rfl hl (by decide) rfl (fun ls hl => ?_)
                      refine lv_iinc (v := (x3_9 + 1)) (lv' := [(3, .int (x3_9 + 1)), (2, .int 1), (0, .ref o), (1, .int x1)]) hx hb dX8_grows_56 hl (k := 3) rfl rfl (by decide) rfl (fun ls hl => ?_)
                      refine lv_goto (tgt := 10) hx hb dX8_grows_59 (by decide) ?_
                      exact ih 1 (x3_9 + 1) c_isIn_16 _ _ _ hP hD hS (lv_sub hl [2, 3, 1, 0] rfl) h
            exact L_13 FU 0 0 c_isIn_2 _ _ _ hP hD hS (lv_sub hl [2, 3, 1, 0] rfl) h
    exact L_5 FU 1 c_isIn _ _ _ hP hD hS (lv_sub hl [1, 2, 0] rfl) h
