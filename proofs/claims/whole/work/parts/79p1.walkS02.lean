set_option maxHeartbeats 1000000 in
set_option maxRecDepth 100000 in
theorem c_X1_columnsOf (l : Launch) (G : va_G) (kc : Nat → ClassId) (ap ad la fa ra : Nat → Nat) {c_greys : (Nat → Int32)} {c_remembered : (Nat → Int32)} {c_columns : Int32} {c_rows : Int32} {c_settings : (Nat → Int32)} {c_reached : Int32} {c_order : (Nat → Int32)} {c_merged : (Nat → Int32)} {c_least : (Nat → Int32)} {c_greatest : (Nat → Int32)} {c_role : (Nat → Int32)} {c_head : (Nat → Int64)} {c_tail : (Nat → Int64)} {c_rank : (Nat → Int32)} {c_kindFrom : (Nat → Int32)} {c_kindTo : (Nat → Int32)} {c_side : Int32} {c_across : Int32} {c_down : Int32} {c_count : Int32} {c_flats : Int32} {c_crowded : Int32} {c_kinds : Int32} {c_first : (Nat → Int32)} {c_second : (Nat → Int32)} {c_pairs : Int32} {c_pairsWith : (Nat → Int32)} {c_voted : (Nat → Int32)} {c_ways : (Nat → Int32)} {c_shcount : Int32} {c_numberOfWay : (Nat → Int32)} {c_list : (Nat → Nat)} {c_fcount : Int32} {c_regions : (Nat → Int32)} {c_left : (Nat → Nat → Int32)} {c_open : (Nat → Int32)} {c_frows : (Nat → Nat → Int32)} {c_fshift : (Nat → Int32)} {c_fdx : (Nat → Int32)} {c_fdy : (Nat → Int32)} {c_fleastPlace : (Nat → Int32)} {c_fpairs : (Nat → Int32)} {c_foffset : (Nat → Int32)} {c_fplacesFirst : (Nat → Int32)} {c_fplaces : (Nat → Int32)} (x1 : Int32) (x2 : Int32) {r : Int32} {FU : Nat} (h : f_X1_columnsOf FU c_list c_fcount c_frows c_fdx c_fdy x1 x2 = some r) : CTi l G kc yX1_columnsOf cX1_columnsOf 5 (some .int) (rmq 3 65) [.ref (ad 20), .int x1, .int x2] (sW ap ad la fa ra kc c_greys c_remembered c_columns c_rows c_settings c_reached c_order c_merged c_least c_greatest c_role c_head c_tail c_rank c_kindFrom c_kindTo c_side c_across c_down c_count c_flats c_crowded c_kinds c_first c_second c_pairs c_pairsWith c_voted c_ways c_shcount c_numberOfWay c_list c_fcount c_regions c_left c_open c_frows c_fshift c_fdx c_fdy c_fleastPlace c_fpairs c_foffset c_fplacesFirst c_fplaces) (sW ap ad la fa ra kc c_greys c_remembered c_columns c_rows c_settings c_reached c_order c_merged c_least c_greatest c_role c_head c_tail c_rank c_kindFrom c_kindTo c_side c_across c_down c_count c_flats c_crowded c_kinds c_first c_second c_pairs c_pairsWith c_voted c_ways c_shcount c_numberOfWay c_list c_fcount c_regions c_left c_open c_frows c_fshift c_fdx c_fdy c_fleastPlace c_fpairs c_foffset c_fplacesFirst c_fplaces) r := by
  refine CTi.mk (by decide) (Nat.le_of_ble_eq_true rfl) ?_
  intro p e s m args below meth c A ls Q hQ S hr hlocks hN hA hK hl hP hD hS
  have hx := S.1
  have hb := S.2.1
  have hl : lv_has ls 5 [(0, .ref (ad 20)), (1, .int x1), (2, .int x2)] := hl
  unfold f_X1_columnsOf at h
  refine lv_iconst (v := 0) hx hb dX1_columnsOf_0 (by decide) ?_
  refine lv_istore_n (lv' := [(3, .int 0), (0, .ref (ad 20)), (1, .int x1), (2, .int x2)]) hx hb dX1_columnsOf_1 rfl hl (by decide) rfl (fun ls hl => ?_)
  refine lv_iconst (v := 0) hx hb dX1_columnsOf_2 (by decide) ?_
  refine lv_istore (lv' := [(4, .int 0), (3, .int 0), (0, .ref (ad 20)), (1, .int x1), (2, .int x2)]) hx hb dX1_columnsOf_3 hl (by decide) rfl (fun ls hl => ?_)
  refine jn_w (t := fun k => f_X1_columnsOf_L5 FU x1 x2 c_list c_fcount c_frows c_fdx c_fdy k FU 0 0) (fun (k : Int32 → Int32 → Option (Int32)) => ∀ (x3_1 : Int32) (x4_2 : Int32) (H : Heap) (locs : List Loc) (ls : Array Slot), VP G (sW ap ad la fa ra kc c_greys c_remembered c_columns c_rows c_settings c_reached c_order c_merged c_least c_greatest c_role c_head c_tail c_rank c_kindFrom c_kindTo c_side c_across c_down c_count c_flats c_crowded c_kinds c_first c_second c_pairs c_pairsWith c_voted c_ways c_shcount c_numberOfWay c_list c_fcount c_regions c_left c_open c_frows c_fshift c_fdx c_fdy c_fleastPlace c_fpairs c_foffset c_fplacesFirst c_fplaces) H → va_D A (sW ap ad la fa ra kc c_greys c_remembered c_columns c_rows c_settings c_reached c_order c_merged c_least c_greatest c_role c_head c_tail c_rank c_kindFrom c_kindTo c_side c_across c_down c_count c_flats c_crowded c_kinds c_first c_second c_pairs c_pairsWith c_voted c_ways c_shcount c_numberOfWay c_list c_fcount c_regions c_left c_open c_frows c_fshift c_fdx c_fdy c_fleastPlace c_fpairs c_foffset c_fplacesFirst c_fplaces) → va_S A s.heap H locs → lv_has ls 5 [(3, .int x3_1)] → k x3_1 x4_2 = some r → WW p l e (rmq 3 65) s m args below meth c Q H locs 65 ls []) h ?_ ?_
  · intro x3_1 x4_2 H locs ls hP hD hS hl h
    refine lv_iload_n hx hb dX1_columnsOf_65 rfl (lv_at hl 0 rfl) ?_
    cases h
    exact ret_i hx hb hr rfl hQ hlocks hK hP hD hS dX1_columnsOf_66
  · intro k_3 K_4 h
    have L_5 : ∀ (n : Nat) (x3_1 : Int32) (x4_2 : Int32) (H : Heap) (locs : List Loc) (ls : Array Slot), VP G (sW ap ad la fa ra kc c_greys c_remembered c_columns c_rows c_settings c_reached c_order c_merged c_least c_greatest c_role c_head c_tail c_rank c_kindFrom c_kindTo c_side c_across c_down c_count c_flats c_crowded c_kinds c_first c_second c_pairs c_pairsWith c_voted c_ways c_shcount c_numberOfWay c_list c_fcount c_regions c_left c_open c_frows c_fshift c_fdx c_fdy c_fleastPlace c_fpairs c_foffset c_fplacesFirst c_fplaces) H → va_D A (sW ap ad la fa ra kc c_greys c_remembered c_columns c_rows c_settings c_reached c_order c_merged c_least c_greatest c_role c_head c_tail c_rank c_kindFrom c_kindTo c_side c_across c_down c_count c_flats c_crowded c_kinds c_first c_second c_pairs c_pairsWith c_voted c_ways c_shcount c_numberOfWay c_list c_fcount c_regions c_left c_open c_frows c_fshift c_fdx c_fdy c_fleastPlace c_fpairs c_foffset c_fplacesFirst c_fplaces) → va_S A s.heap H locs → lv_has ls 5 [(0, .ref (ad 20)), (1, .int x1), (2, .int x2), (3, .int x3_1), (4, .int x4_2)] → f_X1_columnsOf_L5 FU x1 x2 c_list c_fcount c_frows c_fdx c_fdy k_3 n x3_1 x4_2 = some r → WW p l e (rmq 3 65) s m args below meth c Q H locs 5 ls [] := by
      intro n
      induction n with
      | zero => intro x3_1 x4_2 H locs ls hP hD hS hl h; rw [f_X1_columnsOf_L5] at h; cases h
      | succ n ih =>
        intro x3_1 x4_2 H locs ls hP hD hS hl h
        rw [f_X1_columnsOf_L5] at h
        refine lv_iload hx hb dX1_columnsOf_5 (lv_at hl 4 rfl) ?_
        refine lv_aload_n hx hb dX1_columnsOf_7 rfl (lv_at hl 0 rfl) ?_
        refine r_get S gf_X1_30 hK hP 23 rfl rfl dX1_columnsOf_8 ?_
        refine lv_icmp_ge (tgt := 65) hx hb dX1_columnsOf_11 (by decide) (fun q_18 => ?_) (fun q_18 => ?_)
        · have h := it_t q_18 h
          exact K_4 x3_1 x4_2 _ _ _ hP hD hS (lv_sub hl [3] rfl) h
        · have h := it_f q_18 h
          refine lv_iload_n hx hb dX1_columnsOf_14 rfl (lv_at hl 3 rfl) ?_
          refine lv_iload_n hx hb dX1_columnsOf_15 rfl (lv_at hl 2 rfl) ?_
          refine lv_iconst (v := 1) hx hb dX1_columnsOf_16 (by decide) ?_
          refine jn_w (fun (k : Int32 → Option (Int32)) => ∀ (t_6 : Int32) (H : Heap) (locs : List Loc) (ls : Array Slot), VP G (sW ap ad la fa ra kc c_greys c_remembered c_columns c_rows c_settings c_reached c_order c_merged c_least c_greatest c_role c_head c_tail c_rank c_kindFrom c_kindTo c_side c_across c_down c_count c_flats c_crowded c_kinds c_first c_second c_pairs c_pairsWith c_voted c_ways c_shcount c_numberOfWay c_list c_fcount c_regions c_left c_open c_frows c_fshift c_fdx c_fdy c_fleastPlace c_fpairs c_foffset c_fplacesFirst c_fplaces) H → va_D A (sW ap ad la fa ra kc c_greys c_remembered c_columns c_rows c_settings c_reached c_order c_merged c_least c_greatest c_role c_head c_tail c_rank c_kindFrom c_kindTo c_side c_across c_down c_count c_flats c_crowded c_kinds c_first c_second c_pairs c_pairsWith c_voted c_ways c_shcount c_numberOfWay c_list c_fcount c_regions c_left c_open c_frows c_fshift c_fdx c_fdy c_fleastPlace c_fpairs c_foffset c_fplacesFirst c_fplaces) → va_S A s.heap H locs → lv_has ls 5 [(0, .ref (ad 20)), (1, .int x1), (2, .int x2), (4, .int x4_2)] → k t_6 = some r → WW p l e (rmq 3 65) s m args below meth c Q H locs 35 ls [.int t_6, .int x3_1]) h ?_ ?_
          · intro t_6 H locs ls hP hD hS hl h
            refine lv_ior hx hb dX1_columnsOf_35 ?_
            refine lv_istore_n (lv' := [(3, .int (x3_1 ||| t_6)), (0, .ref (ad 20)), (1, .int x1), (2, .int x2), (4, .int x4_2)]) hx hb dX1_columnsOf_36 rfl hl (by decide) rfl (fun ls hl => ?_)
            refine lv_iload_n hx hb dX1_columnsOf_37 rfl (lv_at hl 0 rfl) ?_
            refine lv_iload_n hx hb dX1_columnsOf_38 rfl (lv_at hl 3 rfl) ?_
            refine jn_w (fun (k : Int32 → Option (Int32)) => ∀ (t_9 : Int32) (H : Heap) (locs : List Loc) (ls : Array Slot), VP G (sW ap ad la fa ra kc c_greys c_remembered c_columns c_rows c_settings c_reached c_order c_merged c_least c_greatest c_role c_head c_tail c_rank c_kindFrom c_kindTo c_side c_across c_down c_count c_flats c_crowded c_kinds c_first c_second c_pairs c_pairsWith c_voted c_ways c_shcount c_numberOfWay c_list c_fcount c_regions c_left c_open c_frows c_fshift c_fdx c_fdy c_fleastPlace c_fpairs c_foffset c_fplacesFirst c_fplaces) H → va_D A (sW ap ad la fa ra kc c_greys c_remembered c_columns c_rows c_settings c_reached c_order c_merged c_least c_greatest c_role c_head c_tail c_rank c_kindFrom c_kindTo c_side c_across c_down c_count c_flats c_crowded c_kinds c_first c_second c_pairs c_pairsWith c_voted c_ways c_shcount c_numberOfWay c_list c_fcount c_regions c_left c_open c_frows c_fshift c_fdx c_fdy c_fleastPlace c_fpairs c_foffset c_fplacesFirst c_fplaces) → va_S A s.heap H locs → lv_has ls 5 [(0, .ref (ad 20)), (1, .int x1), (2, .int x2), (4, .int x4_2)] → k t_9 = some r → WW p l e (rmq 3 65) s m args below meth c Q H locs 57 ls [.int t_9, .int (x3_1 ||| t_6)]) h ?_ ?_
            · intro t_9 H locs ls hP hD hS hl h
              refine lv_ior hx hb dX1_columnsOf_57 ?_
              refine lv_istore_n (lv' := [(3, .int ((x3_1 ||| t_6) ||| t_9)), (0, .ref (ad 20)), (1, .int x1), (2, .int x2), (4, .int x4_2)]) hx hb dX1_columnsOf_58 rfl hl (by decide) rfl (fun ls hl => ?_)
              refine lv_iinc (v := (x4_2 + 1)) (lv' := [(4, .int (x4_2 + 1)), (3, .int ((x3_1 ||| t_6) ||| t_9)), (0, .ref (ad 20)), (1, .int x1), (2, .int x2)]) hx hb dX1_columnsOf_59 hl (k := 4) rfl rfl (by decide) rfl (fun ls hl => ?_)
              refine lv_goto (tgt := 5) hx hb dX1_columnsOf_62 (by decide) ?_
              exact ih ((x3_1 ||| t_6) ||| t_9) (x4_2 + 1) _ _ _ hP hD hS (lv_sub hl [2, 3, 4, 1, 0] rfl) h
            · intro j_10 J_11 h
              refine lv_if_ne (tgt := 46) hx hb dX1_columnsOf_39 (by decide) (fun q_14 => ?_) (fun q_14 => ?_)
              · have h := it_f q_14 h
                refine lv_aload_n hx hb dX1_columnsOf_46 rfl (lv_at hl 1 rfl) ?_
                refine r_get S gf_X1_11 hK hP 23 rfl rfl dX1_columnsOf_47 ?_
                refine lv_iload hx hb dX1_columnsOf_50 (lv_at hl 4 rfl) ?_
                refine r_aldq (fa := fa) hx hb hK hP 24 rfl dX1_columnsOf_52 h (fun j_12 h => ?_)
                obtain ⟨hj_12, h⟩ := lt25_e h
                refine lv_iload_n hx hb dX1_columnsOf_53 rfl (lv_at hl 2 rfl) ?_
                obtain ⟨r_13, hq, h⟩ := bd1_e h
                refine cs_Vi (rest := [.int (x3_1 ||| t_6)]) (ci := 0) S hN cb_X0_copyRowOf ml_X1_93 ⟨Nat.le_of_ble_eq_true rfl, Nat.le_of_ble_eq_true rfl⟩ (c_X0_copyRowOf l G kc ap ad la fa ra x1 hj_12 hq) hK hP hD hS hA (36 + j_12) rfl rfl (sW_f hj_12) rfl rfl (Nat.le_of_ble_eq_true rfl) hl.1 dX1_columnsOf_54 (fun H locs hP hD hS => ?_)
                exact J_11 r_13 _ _ _ hP hD hS (lv_sub hl [1, 2, 3, 4] rfl) h
              · have h := it_t q_14 h
                refine lv_iconst (v := 0) hx hb dX1_columnsOf_42 (by decide) ?_
                refine lv_goto (tgt := 57) hx hb dX1_columnsOf_43 (by decide) ?_
                exact J_11 0 _ _ _ hP hD hS (lv_sub hl [1, 2, 3, 4] rfl) h
          · intro j_7 J_8 h
            refine lv_icmp_ne (tgt := 24) hx hb dX1_columnsOf_17 (by decide) (fun q_17 => ?_) (fun q_17 => ?_)
            · have h := it_f q_17 h
              refine lv_aload_n hx hb dX1_columnsOf_24 rfl (lv_at hl 0 rfl) ?_
              refine r_get S gf_X1_11 hK hP 23 rfl rfl dX1_columnsOf_25 ?_
              refine lv_iload hx hb dX1_columnsOf_28 (lv_at hl 4 rfl) ?_
              refine r_aldq (fa := fa) hx hb hK hP 24 rfl dX1_columnsOf_30 h (fun j_15 h => ?_)
              obtain ⟨hj_15, h⟩ := lt25_e h
              refine lv_iload_n hx hb dX1_columnsOf_31 rfl (lv_at hl 1 rfl) ?_
              obtain ⟨r_16, hq, h⟩ := bd1_e h
              refine cs_Vi (rest := [.int x3_1]) (ci := 0) S hN cb_X0_rowOf ml_X1_90 ⟨Nat.le_of_ble_eq_true rfl, Nat.le_of_ble_eq_true rfl⟩ (c_X0_rowOf l G kc ap ad la fa ra x1 hj_15 hq) hK hP hD hS hA (36 + j_15) rfl rfl (sW_f hj_15) rfl rfl (Nat.le_of_ble_eq_true rfl) hl.1 dX1_columnsOf_32 (fun H locs hP hD hS => ?_)
              exact J_8 r_16 _ _ _ hP hD hS (lv_sub hl [0, 1, 2, 4] rfl) h
            · have h := it_t q_17 h
              refine lv_iconst (v := 0) hx hb dX1_columnsOf_20 (by decide) ?_
              refine lv_goto (tgt := 35) hx hb dX1_columnsOf_21 (by decide) ?_
              exact J_8 0 _ _ _ hP hD hS (lv_sub hl [0, 1, 2, 4] rfl) h
    exact L_5 FU 0 0 _ _ _ hP hD hS (lv_sub hl [2, 3, 4, 1, 0] rfl) h
set_option maxHeartbeats 1000000 in
set_option maxRecDepth 100000 in
theorem c_X1_placesSeen (l : Launch) (G : va_G) (kc : Nat → ClassId) (ap ad la fa ra : Nat → Nat) {c_greys : (Nat → Int32)} {c_remembered : (Nat → Int32)} {c_columns : Int32} {c_rows : Int32} {c_settings : (Nat → Int32)} {c_reached : Int32} {c_order : (Nat → Int32)} {c_merged : (Nat → Int32)} {c_least : (Nat → Int32)} {c_greatest : (Nat → Int32)} {c_role : (Nat → Int32)} {c_head : (Nat → Int64)} {c_tail : (Nat → Int64)} {c_rank : (Nat → Int32)} {c_kindFrom : (Nat → Int32)} {c_kindTo : (Nat → Int32)} {c_side : Int32} {c_across : Int32} {c_down : Int32} {c_count : Int32} {c_flats : Int32} {c_crowded : Int32} {c_kinds : Int32} {c_first : (Nat → Int32)} {c_second : (Nat → Int32)} {c_pairs : Int32} {c_pairsWith : (Nat → Int32)} {c_voted : (Nat → Int32)} {c_ways : (Nat → Int32)} {c_shcount : Int32} {c_numberOfWay : (Nat → Int32)} {c_list : (Nat → Nat)} {c_fcount : Int32} {c_regions : (Nat → Int32)} {c_left : (Nat → Nat → Int32)} {c_open : (Nat → Int32)} {c_frows : (Nat → Nat → Int32)} {c_fshift : (Nat → Int32)} {c_fdx : (Nat → Int32)} {c_fdy : (Nat → Int32)} {c_fleastPlace : (Nat → Int32)} {c_fpairs : (Nat → Int32)} {c_foffset : (Nat → Int32)} {c_fplacesFirst : (Nat → Int32)} {c_fplaces : (Nat → Int32)}  {r : Int32} {FU : Nat} (h : f_X1_placesSeen FU c_list c_fcount c_frows c_fdx c_fdy = some r) : CTi l G kc yX1_placesSeen cX1_placesSeen 3 (some .int) (rmq 4 89) [.ref (ad 20)] (sW ap ad la fa ra kc c_greys c_remembered c_columns c_rows c_settings c_reached c_order c_merged c_least c_greatest c_role c_head c_tail c_rank c_kindFrom c_kindTo c_side c_across c_down c_count c_flats c_crowded c_kinds c_first c_second c_pairs c_pairsWith c_voted c_ways c_shcount c_numberOfWay c_list c_fcount c_regions c_left c_open c_frows c_fshift c_fdx c_fdy c_fleastPlace c_fpairs c_foffset c_fplacesFirst c_fplaces) (sW ap ad la fa ra kc c_greys c_remembered c_columns c_rows c_settings c_reached c_order c_merged c_least c_greatest c_role c_head c_tail c_rank c_kindFrom c_kindTo c_side c_across c_down c_count c_flats c_crowded c_kinds c_first c_second c_pairs c_pairsWith c_voted c_ways c_shcount c_numberOfWay c_list c_fcount c_regions c_left c_open c_frows c_fshift c_fdx c_fdy c_fleastPlace c_fpairs c_foffset c_fplacesFirst c_fplaces) r := by
  refine CTi.mk (by decide) (Nat.le_of_ble_eq_true rfl) ?_
  intro p e s m args below meth c A ls Q hQ S hr hlocks hN hA hK hl hP hD hS
  have hx := S.1
  have hb := S.2.1
  have hl : lv_has ls 3 [(0, .ref (ad 20))] := hl
  unfold f_X1_placesSeen at h
  refine lv_iconst (v := 0) hx hb dX1_placesSeen_0 (by decide) ?_
  refine lv_istore_n (lv' := [(1, .int 0), (0, .ref (ad 20))]) hx hb dX1_placesSeen_1 rfl hl (by decide) rfl (fun ls hl => ?_)
  refine lv_iconst (v := 0) hx hb dX1_placesSeen_2 (by decide) ?_
  refine lv_istore_n (lv' := [(2, .int 0), (1, .int 0), (0, .ref (ad 20))]) hx hb dX1_placesSeen_3 rfl hl (by decide) rfl (fun ls hl => ?_)
  refine jn_w (t := fun k => f_X1_placesSeen_L4 FU c_list c_fcount c_frows c_fdx c_fdy k FU 0 0) (fun (k : Int32 → Int32 → Option (Int32)) => ∀ (x1_1 : Int32) (x2_2 : Int32) (H : Heap) (locs : List Loc) (ls : Array Slot), VP G (sW ap ad la fa ra kc c_greys c_remembered c_columns c_rows c_settings c_reached c_order c_merged c_least c_greatest c_role c_head c_tail c_rank c_kindFrom c_kindTo c_side c_across c_down c_count c_flats c_crowded c_kinds c_first c_second c_pairs c_pairsWith c_voted c_ways c_shcount c_numberOfWay c_list c_fcount c_regions c_left c_open c_frows c_fshift c_fdx c_fdy c_fleastPlace c_fpairs c_foffset c_fplacesFirst c_fplaces) H → va_D A (sW ap ad la fa ra kc c_greys c_remembered c_columns c_rows c_settings c_reached c_order c_merged c_least c_greatest c_role c_head c_tail c_rank c_kindFrom c_kindTo c_side c_across c_down c_count c_flats c_crowded c_kinds c_first c_second c_pairs c_pairsWith c_voted c_ways c_shcount c_numberOfWay c_list c_fcount c_regions c_left c_open c_frows c_fshift c_fdx c_fdy c_fleastPlace c_fpairs c_foffset c_fplacesFirst c_fplaces) → va_S A s.heap H locs → lv_has ls 3 [(1, .int x1_1)] → k x1_1 x2_2 = some r → WW p l e (rmq 4 89) s m args below meth c Q H locs 28 ls []) h ?_ ?_
  · intro x1_1 x2_2 H locs ls hP hD hS hl h
    refine lv_iload_n hx hb dX1_placesSeen_28 rfl (lv_at hl 0 rfl) ?_
    cases h
    exact ret_i hx hb hr rfl hQ hlocks hK hP hD hS dX1_placesSeen_29
  · intro k_3 K_4 h
    have L_5 : ∀ (n : Nat) (x1_1 : Int32) (x2_2 : Int32) (H : Heap) (locs : List Loc) (ls : Array Slot), VP G (sW ap ad la fa ra kc c_greys c_remembered c_columns c_rows c_settings c_reached c_order c_merged c_least c_greatest c_role c_head c_tail c_rank c_kindFrom c_kindTo c_side c_across c_down c_count c_flats c_crowded c_kinds c_first c_second c_pairs c_pairsWith c_voted c_ways c_shcount c_numberOfWay c_list c_fcount c_regions c_left c_open c_frows c_fshift c_fdx c_fdy c_fleastPlace c_fpairs c_foffset c_fplacesFirst c_fplaces) H → va_D A (sW ap ad la fa ra kc c_greys c_remembered c_columns c_rows c_settings c_reached c_order c_merged c_least c_greatest c_role c_head c_tail c_rank c_kindFrom c_kindTo c_side c_across c_down c_count c_flats c_crowded c_kinds c_first c_second c_pairs c_pairsWith c_voted c_ways c_shcount c_numberOfWay c_list c_fcount c_regions c_left c_open c_frows c_fshift c_fdx c_fdy c_fleastPlace c_fpairs c_foffset c_fplacesFirst c_fplaces) → va_S A s.heap H locs → lv_has ls 3 [(0, .ref (ad 20)), (1, .int x1_1), (2, .int x2_2)] → f_X1_placesSeen_L4 FU c_list c_fcount c_frows c_fdx c_fdy k_3 n x1_1 x2_2 = some r → WW p l e (rmq 4 89) s m args below meth c Q H locs 4 ls [] := by
      intro n
      induction n with
      | zero => intro x1_1 x2_2 H locs ls hP hD hS hl h; rw [f_X1_placesSeen_L4] at h; cases h
      | succ n ih =>
        intro x1_1 x2_2 H locs ls hP hD hS hl h
        rw [f_X1_placesSeen_L4] at h
        refine lv_iload_n hx hb dX1_placesSeen_4 rfl (lv_at hl 2 rfl) ?_
        refine lv_bipush (v := 16) hx hb dX1_placesSeen_5 (by decide) ?_
        refine lv_icmp_ge (tgt := 28) hx hb dX1_placesSeen_7 (by decide) (fun q_8 => ?_) (fun q_8 => ?_)
        · have h := it_t q_8 h
          exact K_4 x1_1 x2_2 _ _ _ hP hD hS (lv_sub hl [1] rfl) h
        · have h := it_f q_8 h
          refine lv_iload_n hx hb dX1_placesSeen_10 rfl (lv_at hl 1 rfl) ?_
          refine lv_aload_n hx hb dX1_placesSeen_11 rfl (lv_at hl 0 rfl) ?_
          refine lv_iload_n hx hb dX1_placesSeen_12 rfl (lv_at hl 2 rfl) ?_
          refine lv_iconst (v := 2) hx hb dX1_placesSeen_13 (by decide) ?_
          obtain ⟨r_6, hq, h⟩ := bd1_e h
          refine cs_Vi (rest := [.int x1_1]) (ci := 1) S hN cb_X1_columnsOf ml_X1_96 ⟨Nat.le_of_ble_eq_true rfl, Nat.le_of_ble_eq_true rfl⟩ (c_X1_columnsOf l G kc ap ad la fa ra x2_2 2  hq) hK hP hD hS hA 23 rfl rfl rfl rfl rfl (Nat.le_of_ble_eq_true rfl) hl.1 dX1_placesSeen_14 (fun H locs hP hD hS => ?_)
          obtain ⟨r_7, hq, h⟩ := bd1_e h
          refine cp_Si (rest := [.int x1_1]) [] S hN cb_J6_bitCount_0f7a4 ml_X1_99 ⟨Nat.le_of_ble_eq_true rfl, Nat.le_of_ble_eq_true rfl⟩ (c_J6_bitCount_0f7a4 l G kc r_6 hq) hK hP hD hS hA rfl rfl rfl rfl rfl (Nat.le_of_ble_eq_true rfl) hl.1 dX1_placesSeen_17 (fun H locs hP hD hS => ?_)
          have hP : VP G (sW ap ad la fa ra kc c_greys c_remembered c_columns c_rows c_settings c_reached c_order c_merged c_least c_greatest c_role c_head c_tail c_rank c_kindFrom c_kindTo c_side c_across c_down c_count c_flats c_crowded c_kinds c_first c_second c_pairs c_pairsWith c_voted c_ways c_shcount c_numberOfWay c_list c_fcount c_regions c_left c_open c_frows c_fshift c_fdx c_fdy c_fleastPlace c_fpairs c_foffset c_fplacesFirst c_fplaces) H := hP
          have hD : va_D A (sW ap ad la fa ra kc c_greys c_remembered c_columns c_rows c_settings c_reached c_order c_merged c_least c_greatest c_role c_head c_tail c_rank c_kindFrom c_kindTo c_side c_across c_down c_count c_flats c_crowded c_kinds c_first c_second c_pairs c_pairsWith c_voted c_ways c_shcount c_numberOfWay c_list c_fcount c_regions c_left c_open c_frows c_fshift c_fdx c_fdy c_fleastPlace c_fpairs c_foffset c_fplacesFirst c_fplaces) := hD
          refine lv_iadd hx hb dX1_placesSeen_20 ?_
          refine lv_istore_n (lv' := [(1, .int (x1_1 + r_7)), (0, .ref (ad 20)), (2, .int x2_2)]) hx hb dX1_placesSeen_21 rfl hl (by decide) rfl (fun ls hl => ?_)
          refine lv_iinc (v := (x2_2 + 1)) (lv' := [(2, .int (x2_2 + 1)), (1, .int (x1_1 + r_7)), (0, .ref (ad 20))]) hx hb dX1_placesSeen_22 hl (k := 2) rfl rfl (by decide) rfl (fun ls hl => ?_)
          refine lv_goto (tgt := 4) hx hb dX1_placesSeen_25 (by decide) ?_
          exact ih (x1_1 + r_7) (x2_2 + 1) _ _ _ hP hD hS (lv_sub hl [2, 1, 0] rfl) h
    exact L_5 FU 0 0 _ _ _ hP hD hS (lv_sub hl [2, 1, 0] rfl) h
set_option maxHeartbeats 1000000 in
set_option maxRecDepth 100000 in
theorem c_X2_renew (l : Launch) (G : va_G) (kc : Nat → ClassId) (ap : Nat → Nat) {c_greys : (Nat → Int32)} {c_remembered : (Nat → Int32)} {c_columns : Int32} {c_rows : Int32} (x1 : Int32) (x2 : Int32) {r : Int32} {c_greys' : (Nat → Int32)} {c_columns' : Int32} {c_rows' : Int32} {FU : Nat} (h : f_X2_renew FU c_greys c_columns c_rows x1 x2 = some (r, c_greys', c_columns', c_rows')) : CTi l G kc yX2_renew cX2_renew 4 (some .int) (rmq 0 0) [.ref (ap 0), .int x1, .int x2] (pW ap kc c_greys c_remembered c_columns c_rows) (pW ap kc (c_greys') c_remembered (c_columns') (c_rows')) r := by
  refine CTi.mk (by decide) (Nat.le_of_ble_eq_true rfl) ?_
  intro p e s m args below meth c A ls Q hQ S hr hlocks hN hA hK hl hP hD hS
  have hx := S.1
  have hb := S.2.1
  have hl : lv_has ls 4 [(0, .ref (ap 0)), (1, .int x1), (2, .int x2)] := hl
  unfold f_X2_renew at h
  refine lv_aload_n hx hb dX2_renew_0 rfl (lv_at hl 0 rfl) ?_
  refine lv_iload_n hx hb dX2_renew_1 rfl (lv_at hl 1 rfl) ?_
  refine r_put S pf_X2_18 hK hP hD hS 0 rfl (Nat.le_of_ble_eq_true rfl) dX2_renew_2 (fun H locs hP hD hS => ?_)
  have hP : VP G (pW ap kc c_greys c_remembered x1 c_rows) H := hP
  have hD : va_D A (pW ap kc c_greys c_remembered x1 c_rows) := hD
  refine lv_aload_n hx hb dX2_renew_5 rfl (lv_at hl 0 rfl) ?_
  refine lv_iload_n hx hb dX2_renew_6 rfl (lv_at hl 2 rfl) ?_
  refine r_put S pf_X2_22 hK hP hD hS 0 rfl (Nat.le_of_ble_eq_true rfl) dX2_renew_7 (fun H locs hP hD hS => ?_)
  have hP : VP G (pW ap kc c_greys c_remembered x1 x2) H := hP
  have hD : va_D A (pW ap kc c_greys c_remembered x1 x2) := hD
  refine lv_iconst (v := 0) hx hb dX2_renew_10 (by decide) ?_
  refine lv_istore_n (lv' := [(3, .int 0), (0, .ref (ap 0)), (1, .int x1), (2, .int x2)]) hx hb dX2_renew_11 rfl hl (by decide) rfl (fun ls hl => ?_)
  refine jn_w (t := fun k => f_X2_renew_L12 FU  k FU 0 c_greys) (fun (k : Int32 → (Nat → Int32) → Option (Int32 × (Nat → Int32) × Int32 × Int32)) => ∀ (x3_1 : Int32) (c_greys_2 : (Nat → Int32)) (H : Heap) (locs : List Loc) (ls : Array Slot), VP G (pW ap kc c_greys_2 c_remembered x1 x2) H → va_D A (pW ap kc c_greys_2 c_remembered x1 x2) → va_S A s.heap H locs → lv_has ls 4 [(1, .int x1), (2, .int x2)] → k x3_1 c_greys_2 = some (r, c_greys', c_columns', c_rows') → WW p l e (rmq 0 0) s m args below meth c Q H locs 32 ls []) h ?_ ?_
  · intro x3_1 c_greys_2 H locs ls hP hD hS hl h
    refine lv_iload_n hx hb dX2_renew_32 rfl (lv_at hl 0 rfl) ?_
    refine lv_iload_n hx hb dX2_renew_33 rfl (lv_at hl 1 rfl) ?_
    refine lv_imul hx hb dX2_renew_34 ?_
    cases h
    exact ret_i hx hb hr rfl hQ hlocks hK hP hD hS dX2_renew_35
  · intro k_3 K_4 h
    have L_5 : ∀ (n : Nat) (x3_1 : Int32) (c_greys_2 : (Nat → Int32)) (H : Heap) (locs : List Loc) (ls : Array Slot), VP G (pW ap kc c_greys_2 c_remembered x1 x2) H → va_D A (pW ap kc c_greys_2 c_remembered x1 x2) → va_S A s.heap H locs → lv_has ls 4 [(0, .ref (ap 0)), (1, .int x1), (2, .int x2), (3, .int x3_1)] → f_X2_renew_L12 FU  k_3 n x3_1 c_greys_2 = some (r, c_greys', c_columns', c_rows') → WW p l e (rmq 0 0) s m args below meth c Q H locs 12 ls [] := by
      intro n
      induction n with
      | zero => intro x3_1 c_greys_2 H locs ls hP hD hS hl h; rw [f_X2_renew_L12] at h; cases h
      | succ n ih =>
        intro x3_1 c_greys_2 H locs ls hP hD hS hl h
        rw [f_X2_renew_L12] at h
        refine lv_iload_n hx hb dX2_renew_12 rfl (lv_at hl 3 rfl) ?_
        refine lv_sipush (v := 256) hx hb dX2_renew_13 (by decide) ?_
        refine lv_icmp_ge (tgt := 32) hx hb dX2_renew_16 (by decide) (fun q_7 => ?_) (fun q_7 => ?_)
        · have h := it_t q_7 h
          exact K_4 x3_1 c_greys_2 _ _ _ hP hD hS (lv_sub hl [1, 2] rfl) h
        · have h := it_f q_7 h
          refine lv_aload_n hx hb dX2_renew_19 rfl (lv_at hl 0 rfl) ?_
          refine r_get S gf_X2_9 hK hP 0 rfl rfl dX2_renew_20 ?_
          refine lv_iload_n hx hb dX2_renew_23 rfl (lv_at hl 3 rfl) ?_
          refine lv_iconst (v := 0) hx hb dX2_renew_24 (by decide) ?_
          refine r_iast hx hb hK hP hD hS 1 rfl dX2_renew_25 h (fun c_greys_6 H locs hP hD hS h => ?_)
          have hP : VP G (pW ap kc c_greys_6 c_remembered x1 x2) H := hP
          have hD : va_D A (pW ap kc c_greys_6 c_remembered x1 x2) := hD
          refine lv_iinc (v := (x3_1 + 1)) (lv' := [(3, .int (x3_1 + 1)), (0, .ref (ap 0)), (1, .int x1), (2, .int x2)]) hx hb dX2_renew_26 hl (k := 3) rfl rfl (by decide) rfl (fun ls hl => ?_)
          refine lv_goto (tgt := 12) hx hb dX2_renew_29 (by decide) ?_
          exact ih (x3_1 + 1) c_greys_6 _ _ _ hP hD hS (lv_sub hl [1, 2, 3, 0] rfl) h
    exact L_5 FU 0 c_greys _ _ _ hP hD hS (lv_sub hl [1, 2, 3, 0] rfl) h
set_option maxHeartbeats 1000000 in
set_option maxRecDepth 100000 in
theorem c_X2_hasFrom (l : Launch) (G : va_G) (kc : Nat → ClassId) (ap : Nat → Nat) {c_greys : (Nat → Int32)} {c_remembered : (Nat → Int32)} {c_columns : Int32} {c_rows : Int32} (x1 : Int32) (x2 : Int32) (x3 : Int32) (x4 : Int32) {r : Int32} {FU : Nat} (h : f_X2_hasFrom FU c_columns c_rows x1 x2 x3 x4 = some r) : CTi l G kc yX2_hasFrom cX2_hasFrom 5 (some .boolean) (rmq 0 0) [.ref (ap 0), .int x1, .int x2, .int x3, .int x4] (pW ap kc c_greys c_remembered c_columns c_rows) (pW ap kc c_greys c_remembered c_columns c_rows) r := by
  refine CTi.mk (by decide) (Nat.le_of_ble_eq_true rfl) ?_
  intro p e s m args below meth c A ls Q hQ S hr hlocks hN hA hK hl hP hD hS
  have hx := S.1
  have hb := S.2.1
  have hl : lv_has ls 5 [(0, .ref (ap 0)), (1, .int x1), (2, .int x2), (3, .int x3), (4, .int x4)] := hl
  unfold f_X2_hasFrom at h
  refine lv_iload_n hx hb dX2_hasFrom_0 rfl (lv_at hl 3 rfl) ?_
  refine lv_iconst (v := 1) hx hb dX2_hasFrom_1 (by decide) ?_
  refine lv_icmp_lt (tgt := 36) hx hb dX2_hasFrom_2 (by decide) (fun q_4 => ?_) (fun q_4 => ?_)
  · have h := it_t q_4 h
    refine lv_iconst (v := 0) hx hb dX2_hasFrom_36 (by decide) ?_
    cases h
    exact ret_i hx hb hr rfl hQ hlocks hK hP hD hS dX2_hasFrom_37
  · have h := it_f q_4 h
    refine lv_iload_n hx hb dX2_hasFrom_5 rfl (lv_at hl 3 rfl) ?_
    refine lv_aload_n hx hb dX2_hasFrom_6 rfl (lv_at hl 0 rfl) ?_
    refine r_get S gf_X2_18 hK hP 0 rfl rfl dX2_hasFrom_7 ?_
    refine lv_iload_n hx hb dX2_hasFrom_10 rfl (lv_at hl 1 rfl) ?_
    refine lv_isub hx hb dX2_hasFrom_11 ?_
    refine lv_icmp_gt (tgt := 36) hx hb dX2_hasFrom_12 (by decide) (fun q_3 => ?_) (fun q_3 => ?_)
    · have h := it_t q_3 h
      refine lv_iconst (v := 0) hx hb dX2_hasFrom_36 (by decide) ?_
      cases h
      exact ret_i hx hb hr rfl hQ hlocks hK hP hD hS dX2_hasFrom_37
    · have h := it_f q_3 h
      refine lv_iload hx hb dX2_hasFrom_15 (lv_at hl 4 rfl) ?_
      refine lv_iconst (v := 1) hx hb dX2_hasFrom_17 (by decide) ?_
      refine lv_icmp_lt (tgt := 36) hx hb dX2_hasFrom_18 (by decide) (fun q_2 => ?_) (fun q_2 => ?_)
      · have h := it_t q_2 h
        refine lv_iconst (v := 0) hx hb dX2_hasFrom_36 (by decide) ?_
        cases h
        exact ret_i hx hb hr rfl hQ hlocks hK hP hD hS dX2_hasFrom_37
      · have h := it_f q_2 h
        refine lv_iload hx hb dX2_hasFrom_21 (lv_at hl 4 rfl) ?_
        refine lv_aload_n hx hb dX2_hasFrom_23 rfl (lv_at hl 0 rfl) ?_
        refine r_get S gf_X2_22 hK hP 0 rfl rfl dX2_hasFrom_24 ?_
        refine lv_iload_n hx hb dX2_hasFrom_27 rfl (lv_at hl 2 rfl) ?_
        refine lv_isub hx hb dX2_hasFrom_28 ?_
        refine lv_icmp_gt (tgt := 36) hx hb dX2_hasFrom_29 (by decide) (fun q_1 => ?_) (fun q_1 => ?_)
        · have h := it_t q_1 h
          refine lv_iconst (v := 0) hx hb dX2_hasFrom_36 (by decide) ?_
          cases h
          exact ret_i hx hb hr rfl hQ hlocks hK hP hD hS dX2_hasFrom_37
        · have h := it_f q_1 h
          refine lv_iconst (v := 1) hx hb dX2_hasFrom_32 (by decide) ?_
          refine lv_goto (tgt := 37) hx hb dX2_hasFrom_33 (by decide) ?_
          cases h
          exact ret_i hx hb hr rfl hQ hlocks hK hP hD hS dX2_hasFrom_37
set_option maxHeartbeats 1000000 in
set_option maxRecDepth 100000 in
theorem c_X2_greyOf (l : Launch) (G : va_G) (kc : Nat → ClassId) (ap : Nat → Nat) {c_greys : (Nat → Int32)} {c_remembered : (Nat → Int32)} {c_columns : Int32} {c_rows : Int32} (x1 : Int32) (x2 : Int32) {r : Int32} {FU : Nat} (h : f_X2_greyOf FU c_greys c_columns c_rows x1 x2 = some r) : CTi l G kc yX2_greyOf cX2_greyOf 3 (some .int) (rmq 1 22) [.ref (ap 0), .int x1, .int x2] (pW ap kc c_greys c_remembered c_columns c_rows) (pW ap kc c_greys c_remembered c_columns c_rows) r := by
  refine CTi.mk (by decide) (Nat.le_of_ble_eq_true rfl) ?_
  intro p e s m args below meth c A ls Q hQ S hr hlocks hN hA hK hl hP hD hS
  have hx := S.1
  have hb := S.2.1
  have hl : lv_has ls 3 [(0, .ref (ap 0)), (1, .int x1), (2, .int x2)] := hl
  unfold f_X2_greyOf at h
  refine lv_aload_n hx hb dX2_greyOf_0 rfl (lv_at hl 0 rfl) ?_
  refine lv_iload_n hx hb dX2_greyOf_1 rfl (lv_at hl 1 rfl) ?_
  refine lv_iload_n hx hb dX2_greyOf_2 rfl (lv_at hl 2 rfl) ?_
  obtain ⟨r_1, hq, h⟩ := bd1_e h
  refine cs_Vi (rest := []) (ci := 2) S hN cb_X2_has ml_X2_25 ⟨Nat.le_of_ble_eq_true rfl, Nat.le_of_ble_eq_true rfl⟩ (c_X2_has l G kc ap x1 x2  hq) hK hP hD hS hA 0 rfl rfl rfl rfl rfl (Nat.le_of_ble_eq_true rfl) hl.1 dX2_greyOf_3 (fun H locs hP hD hS => ?_)
  refine lv_if_eq (tgt := 23) hx hb dX2_greyOf_6 (by decide) (fun q_3 => ?_) (fun q_3 => ?_)
  · have h := it_t q_3 h
    refine lv_iconst (v := 0) hx hb dX2_greyOf_23 (by decide) ?_
    cases h
    exact ret_i hx hb hr rfl hQ hlocks hK hP hD hS dX2_greyOf_24
  · have h := it_f q_3 h
    refine lv_aload_n hx hb dX2_greyOf_9 rfl (lv_at hl 0 rfl) ?_
    refine r_get S gf_X2_9 hK hP 0 rfl rfl dX2_greyOf_10 ?_
    refine lv_bipush (v := 16) hx hb dX2_greyOf_13 (by decide) ?_
    refine lv_iload_n hx hb dX2_greyOf_15 rfl (lv_at hl 2 rfl) ?_
    refine lv_imul hx hb dX2_greyOf_16 ?_
    refine lv_iload_n hx hb dX2_greyOf_17 rfl (lv_at hl 1 rfl) ?_
    refine lv_iadd hx hb dX2_greyOf_18 ?_
    refine r_iald hx hb hK hP 1 rfl dX2_greyOf_19 h (fun y_2 h => ?_)
    refine lv_goto (tgt := 24) hx hb dX2_greyOf_20 (by decide) ?_
    cases h
    exact ret_i hx hb hr rfl hQ hlocks hK hP hD hS dX2_greyOf_24
set_option maxHeartbeats 1000000 in
set_option maxRecDepth 100000 in
theorem c_X2_change (l : Launch) (G : va_G) (kc : Nat → ClassId) (ap : Nat → Nat) {c_greys : (Nat → Int32)} {c_remembered : (Nat → Int32)} {c_columns : Int32} {c_rows : Int32} (x1 : Int32) (x2 : Int32) (x3 : Int32) {r : Int32} {c_greys' : (Nat → Int32)} {FU : Nat} (h : f_X2_change FU c_greys c_columns c_rows x1 x2 x3 = some (r, c_greys')) : CTi l G kc yX2_change cX2_change 4 (some .int) (rmq 1 22) [.ref (ap 0), .int x1, .int x2, .int x3] (pW ap kc c_greys c_remembered c_columns c_rows) (pW ap kc (c_greys') c_remembered c_columns c_rows) r := by
  refine CTi.mk (by decide) (Nat.le_of_ble_eq_true rfl) ?_
  intro p e s m args below meth c A ls Q hQ S hr hlocks hN hA hK hl hP hD hS
  have hx := S.1
  have hb := S.2.1
  have hl : lv_has ls 4 [(0, .ref (ap 0)), (1, .int x1), (2, .int x2), (3, .int x3)] := hl
  unfold f_X2_change at h
  refine lv_aload_n hx hb dX2_change_0 rfl (lv_at hl 0 rfl) ?_
  refine lv_iload_n hx hb dX2_change_1 rfl (lv_at hl 1 rfl) ?_
  refine lv_iload_n hx hb dX2_change_2 rfl (lv_at hl 2 rfl) ?_
  obtain ⟨r_1, hq, h⟩ := bd1_e h
  refine cs_Vi (rest := []) (ci := 2) S hN cb_X2_has ml_X2_25 ⟨Nat.le_of_ble_eq_true rfl, Nat.le_of_ble_eq_true rfl⟩ (c_X2_has l G kc ap x1 x2  hq) hK hP hD hS hA 0 rfl rfl rfl rfl rfl (Nat.le_of_ble_eq_true rfl) hl.1 dX2_change_3 (fun H locs hP hD hS => ?_)
  refine lv_if_eq (tgt := 24) hx hb dX2_change_6 (by decide) (fun q_5 => ?_) (fun q_5 => ?_)
  · have h := it_t q_5 h
    refine lv_iconst (v := 0) hx hb dX2_change_24 (by decide) ?_
    cases h
    exact ret_i hx hb hr rfl hQ hlocks hK hP hD hS dX2_change_25
  · have h := it_f q_5 h
    refine lv_aload_n hx hb dX2_change_9 rfl (lv_at hl 0 rfl) ?_
    refine r_get S gf_X2_9 hK hP 0 rfl rfl dX2_change_10 ?_
    refine lv_bipush (v := 16) hx hb dX2_change_13 (by decide) ?_
    refine lv_iload_n hx hb dX2_change_15 rfl (lv_at hl 2 rfl) ?_
    refine lv_imul hx hb dX2_change_16 ?_
    refine lv_iload_n hx hb dX2_change_17 rfl (lv_at hl 1 rfl) ?_
    refine lv_iadd hx hb dX2_change_18 ?_
    refine r_iald hx hb hK hP 1 rfl dX2_change_19 h (fun y_2 h => ?_)
    refine lv_iload_n hx hb dX2_change_20 rfl (lv_at hl 3 rfl) ?_
    refine lv_icmp_ne (tgt := 26) hx hb dX2_change_21 (by decide) (fun q_4 => ?_) (fun q_4 => ?_)
    · have h := it_f q_4 h
      refine lv_aload_n hx hb dX2_change_26 rfl (lv_at hl 0 rfl) ?_
      refine r_get S gf_X2_9 hK hP 0 rfl rfl dX2_change_27 ?_
      refine lv_bipush (v := 16) hx hb dX2_change_30 (by decide) ?_
      refine lv_iload_n hx hb dX2_change_32 rfl (lv_at hl 2 rfl) ?_
      refine lv_imul hx hb dX2_change_33 ?_
      refine lv_iload_n hx hb dX2_change_34 rfl (lv_at hl 1 rfl) ?_
      refine lv_iadd hx hb dX2_change_35 ?_
      refine lv_iload_n hx hb dX2_change_36 rfl (lv_at hl 3 rfl) ?_
      refine r_iast hx hb hK hP hD hS 1 rfl dX2_change_37 h (fun c_greys_3 H locs hP hD hS h => ?_)
      have hP : VP G (pW ap kc c_greys_3 c_remembered c_columns c_rows) H := hP
      have hD : va_D A (pW ap kc c_greys_3 c_remembered c_columns c_rows) := hD
      refine lv_iconst (v := 1) hx hb dX2_change_38 (by decide) ?_
      cases h
      exact ret_i hx hb hr rfl hQ hlocks hK hP hD hS dX2_change_39
    · have h := it_t q_4 h
      refine lv_iconst (v := 0) hx hb dX2_change_24 (by decide) ?_
      cases h
      exact ret_i hx hb hr rfl hQ hlocks hK hP hD hS dX2_change_25
set_option maxHeartbeats 1000000 in
set_option maxRecDepth 100000 in
theorem c_X2_remember (l : Launch) (G : va_G) (kc : Nat → ClassId) (ap : Nat → Nat) {c_greys : (Nat → Int32)} {c_remembered : (Nat → Int32)} {c_columns : Int32} {c_rows : Int32}  {c_remembered' : (Nat → Int32)} {FU : Nat} (h : f_X2_remember FU c_greys c_remembered = some c_remembered') : CTv l G kc yX2_remember cX2_remember 1 none (rmq 1 40) [.ref (ap 0)] (pW ap kc c_greys c_remembered c_columns c_rows) (pW ap kc c_greys (c_remembered') c_columns c_rows) := by
  refine CTv.mk (by decide) (Nat.le_of_ble_eq_true rfl) ?_
  intro p e s m args below meth c A ls Q hQ S hr hlocks hN hA hK hl hP hD hS
  have hx := S.1
  have hb := S.2.1
  have hl : lv_has ls 1 [(0, .ref (ap 0))] := hl
  unfold f_X2_remember at h
  refine lv_aload_n hx hb dX2_remember_0 rfl (lv_at hl 0 rfl) ?_
  refine r_get S gf_X2_9 hK hP 0 rfl rfl dX2_remember_1 ?_
  refine lv_iconst (v := 0) hx hb dX2_remember_4 (by decide) ?_
  refine lv_aload_n hx hb dX2_remember_5 rfl (lv_at hl 0 rfl) ?_
  refine r_get S gf_X2_15 hK hP 0 rfl rfl dX2_remember_6 ?_
  refine lv_iconst (v := 0) hx hb dX2_remember_9 (by decide) ?_
  refine lv_sipush (v := 256) hx hb dX2_remember_10 (by decide) ?_
  refine r_copy (rest := []) S hl.1 cp_X2_29 hK hP hD hS 1 2 rfl rfl (Nat.le_of_ble_eq_true rfl) (Nat.le_of_ble_eq_true rfl) dX2_remember_13 h (fun c_remembered_1 H locs hP hD hS h => ?_)
  have hP : VP G (pW ap kc c_greys c_remembered_1 c_columns c_rows) H := hP
  have hD : va_D A (pW ap kc c_greys c_remembered_1 c_columns c_rows) := hD
  cases h
  exact ret_v hx hb hr hQ hlocks hK hP hD hS dX2_remember_16
set_option maxHeartbeats 1000000 in
set_option maxRecDepth 100000 in
theorem c_X2_rememberedOf (l : Launch) (G : va_G) (kc : Nat → ClassId) (ap : Nat → Nat) {c_greys : (Nat → Int32)} {c_remembered : (Nat → Int32)} {c_columns : Int32} {c_rows : Int32} (x1 : Int32) (x2 : Int32) {r : Int32} {FU : Nat} (h : f_X2_rememberedOf FU c_remembered c_columns c_rows x1 x2 = some r) : CTi l G kc yX2_rememberedOf cX2_rememberedOf 3 (some .int) (rmq 1 22) [.ref (ap 0), .int x1, .int x2] (pW ap kc c_greys c_remembered c_columns c_rows) (pW ap kc c_greys c_remembered c_columns c_rows) r := by
  refine CTi.mk (by decide) (Nat.le_of_ble_eq_true rfl) ?_
  intro p e s m args below meth c A ls Q hQ S hr hlocks hN hA hK hl hP hD hS
  have hx := S.1
  have hb := S.2.1
  have hl : lv_has ls 3 [(0, .ref (ap 0)), (1, .int x1), (2, .int x2)] := hl
  unfold f_X2_rememberedOf at h
  refine lv_aload_n hx hb dX2_rememberedOf_0 rfl (lv_at hl 0 rfl) ?_
  refine lv_iload_n hx hb dX2_rememberedOf_1 rfl (lv_at hl 1 rfl) ?_
  refine lv_iload_n hx hb dX2_rememberedOf_2 rfl (lv_at hl 2 rfl) ?_
  obtain ⟨r_1, hq, h⟩ := bd1_e h
  refine cs_Vi (rest := []) (ci := 2) S hN cb_X2_has ml_X2_25 ⟨Nat.le_of_ble_eq_true rfl, Nat.le_of_ble_eq_true rfl⟩ (c_X2_has l G kc ap x1 x2  hq) hK hP hD hS hA 0 rfl rfl rfl rfl rfl (Nat.le_of_ble_eq_true rfl) hl.1 dX2_rememberedOf_3 (fun H locs hP hD hS => ?_)
  refine lv_if_eq (tgt := 23) hx hb dX2_rememberedOf_6 (by decide) (fun q_3 => ?_) (fun q_3 => ?_)
  · have h := it_t q_3 h
    refine lv_iconst (v := 0) hx hb dX2_rememberedOf_23 (by decide) ?_
    cases h
    exact ret_i hx hb hr rfl hQ hlocks hK hP hD hS dX2_rememberedOf_24
  · have h := it_f q_3 h
    refine lv_aload_n hx hb dX2_rememberedOf_9 rfl (lv_at hl 0 rfl) ?_
    refine r_get S gf_X2_15 hK hP 0 rfl rfl dX2_rememberedOf_10 ?_
    refine lv_bipush (v := 16) hx hb dX2_rememberedOf_13 (by decide) ?_
    refine lv_iload_n hx hb dX2_rememberedOf_15 rfl (lv_at hl 2 rfl) ?_
    refine lv_imul hx hb dX2_rememberedOf_16 ?_
    refine lv_iload_n hx hb dX2_rememberedOf_17 rfl (lv_at hl 1 rfl) ?_
    refine lv_iadd hx hb dX2_rememberedOf_18 ?_
    refine r_iald hx hb hK hP 2 rfl dX2_rememberedOf_19 h (fun y_2 h => ?_)
    refine lv_goto (tgt := 24) hx hb dX2_rememberedOf_20 (by decide) ?_
    cases h
    exact ret_i hx hb hr rfl hQ hlocks hK hP hD hS dX2_rememberedOf_24
set_option maxHeartbeats 1000000 in
set_option maxRecDepth 100000 in
theorem c_X3_columns (l : Launch) (G : va_G) (kc : Nat → ClassId) (a0 : Nat) {c_a : (Nat → Int32)}  {r : Int32} {FU : Nat} (h : f_X3_columns FU c_a = some r) : CTi l G kc yX3_columns cX3_columns 3 (some .int) (rmq 0 0) [.ref a0] ([(a0, .inl (kc 0, 16, .inl c_a))]) ([(a0, .inl (kc 0, 16, .inl c_a))]) r := by
  refine CTi.mk (by decide) (Nat.le_of_ble_eq_true rfl) ?_
  intro p e s m args below meth c A ls Q hQ S hr hlocks hN hA hK hl hP hD hS
  have hx := S.1
  have hb := S.2.1
  have hl : lv_has ls 3 [(0, .ref a0)] := hl
  unfold f_X3_columns at h
  refine lv_iconst (v := 0) hx hb dX3_columns_0 (by decide) ?_
  refine lv_istore_n (lv' := [(1, .int 0), (0, .ref a0)]) hx hb dX3_columns_1 rfl hl (by decide) rfl (fun ls hl => ?_)
  refine lv_iconst (v := 0) hx hb dX3_columns_2 (by decide) ?_
  refine lv_istore_n (lv' := [(2, .int 0), (1, .int 0), (0, .ref a0)]) hx hb dX3_columns_3 rfl hl (by decide) rfl (fun ls hl => ?_)
  refine jn_w (t := fun k => f_X3_columns_L4 FU c_a k FU 0 0) (fun (k : Int32 → Int32 → Option (Int32)) => ∀ (x1_1 : Int32) (x2_2 : Int32) (H : Heap) (locs : List Loc) (ls : Array Slot), VP G ([(a0, .inl (kc 0, 16, .inl c_a))]) H → va_D A ([(a0, .inl (kc 0, 16, .inl c_a))]) → va_S A s.heap H locs → lv_has ls 3 [(1, .int x1_1)] → k x1_1 x2_2 = some r → WW p l e (rmq 0 0) s m args below meth c Q H locs 22 ls []) h ?_ ?_
  · intro x1_1 x2_2 H locs ls hP hD hS hl h
    refine lv_iload_n hx hb dX3_columns_22 rfl (lv_at hl 0 rfl) ?_
    cases h
    exact ret_i hx hb hr rfl hQ hlocks hK hP hD hS dX3_columns_23
  · intro k_3 K_4 h
    have L_5 : ∀ (n : Nat) (x1_1 : Int32) (x2_2 : Int32) (H : Heap) (locs : List Loc) (ls : Array Slot), VP G ([(a0, .inl (kc 0, 16, .inl c_a))]) H → va_D A ([(a0, .inl (kc 0, 16, .inl c_a))]) → va_S A s.heap H locs → lv_has ls 3 [(0, .ref a0), (1, .int x1_1), (2, .int x2_2)] → f_X3_columns_L4 FU c_a k_3 n x1_1 x2_2 = some r → WW p l e (rmq 0 0) s m args below meth c Q H locs 4 ls [] := by
      intro n
      induction n with
      | zero => intro x1_1 x2_2 H locs ls hP hD hS hl h; rw [f_X3_columns_L4] at h; cases h
      | succ n ih =>
        intro x1_1 x2_2 H locs ls hP hD hS hl h
        rw [f_X3_columns_L4] at h
        refine lv_iload_n hx hb dX3_columns_4 rfl (lv_at hl 2 rfl) ?_
        refine lv_bipush (v := 16) hx hb dX3_columns_5 (by decide) ?_
        refine lv_icmp_ge (tgt := 22) hx hb dX3_columns_7 (by decide) (fun q_7 => ?_) (fun q_7 => ?_)
        · have h := it_t q_7 h
          exact K_4 x1_1 x2_2 _ _ _ hP hD hS (lv_sub hl [1] rfl) h
        · have h := it_f q_7 h
          refine lv_iload_n hx hb dX3_columns_10 rfl (lv_at hl 1 rfl) ?_
          refine lv_aload_n hx hb dX3_columns_11 rfl (lv_at hl 0 rfl) ?_
          refine lv_iload_n hx hb dX3_columns_12 rfl (lv_at hl 2 rfl) ?_
          refine r_iald hx hb hK hP 0 rfl dX3_columns_13 h (fun y_6 h => ?_)
          refine lv_ior hx hb dX3_columns_14 ?_
          refine lv_istore_n (lv' := [(1, .int (x1_1 ||| y_6)), (0, .ref a0), (2, .int x2_2)]) hx hb dX3_columns_15 rfl hl (by decide) rfl (fun ls hl => ?_)
          refine lv_iinc (v := (x2_2 + 1)) (lv' := [(2, .int (x2_2 + 1)), (1, .int (x1_1 ||| y_6)), (0, .ref a0)]) hx hb dX3_columns_16 hl (k := 2) rfl rfl (by decide) rfl (fun ls hl => ?_)
          refine lv_goto (tgt := 4) hx hb dX3_columns_19 (by decide) ?_
          exact ih (x1_1 ||| y_6) (x2_2 + 1) _ _ _ hP hD hS (lv_sub hl [2, 1, 0] rfl) h
    exact L_5 FU 0 0 _ _ _ hP hD hS (lv_sub hl [2, 1, 0] rfl) h
set_option maxHeartbeats 1000000 in
set_option maxRecDepth 100000 in
theorem c_X3_leastColumn (l : Launch) (G : va_G) (kc : Nat → ClassId) (a0 : Nat) {c_a : (Nat → Int32)}  {r : Int32} {FU : Nat} (h : f_X3_leastColumn FU c_a = some r) : CTi l G kc yX3_leastColumn cX3_leastColumn 3 (some .int) (rmq 1 22) [.ref a0] ([(a0, .inl (kc 0, 16, .inl c_a))]) ([(a0, .inl (kc 0, 16, .inl c_a))]) r := by
  refine CTi.mk (by decide) (Nat.le_of_ble_eq_true rfl) ?_
  intro p e s m args below meth c A ls Q hQ S hr hlocks hN hA hK hl hP hD hS
  have hx := S.1
  have hb := S.2.1
  have hl : lv_has ls 3 [(0, .ref a0)] := hl
  unfold f_X3_leastColumn at h
  refine lv_aload_n hx hb dX3_leastColumn_0 rfl (lv_at hl 0 rfl) ?_
  obtain ⟨r_1, hq, h⟩ := bd1_e h
  refine cp_Si (rest := []) [0] S hN cb_X3_columns ml_X3_21 ⟨Nat.le_of_ble_eq_true rfl, Nat.le_of_ble_eq_true rfl⟩ (c_X3_columns l G kc a0  hq) hK hP hD hS hA rfl rfl rfl rfl rfl (Nat.le_of_ble_eq_true rfl) hl.1 dX3_leastColumn_1 (fun H locs hP hD hS => ?_)
  have hP : VP G ([(a0, .inl (kc 0, 16, .inl c_a))]) H := hP
  have hD : va_D A ([(a0, .inl (kc 0, 16, .inl c_a))]) := hD
  refine lv_istore_n (lv' := [(1, .int r_1), (0, .ref a0)]) hx hb dX3_leastColumn_4 rfl hl (by decide) rfl (fun ls hl => ?_)
  refine lv_iconst (v := 0) hx hb dX3_leastColumn_5 (by decide) ?_
  refine lv_istore_n (lv' := [(2, .int 0), (1, .int r_1), (0, .ref a0)]) hx hb dX3_leastColumn_6 rfl hl (by decide) rfl (fun ls hl => ?_)
  refine jn_w (t := fun k => f_X3_leastColumn_L7 FU r_1 k FU 0) (fun (k : Int32 → Option (Int32)) => ∀ (x2_2 : Int32) (H : Heap) (locs : List Loc) (ls : Array Slot), VP G ([(a0, .inl (kc 0, 16, .inl c_a))]) H → va_D A ([(a0, .inl (kc 0, 16, .inl c_a))]) → va_S A s.heap H locs → lv_has ls 3 [] → k x2_2 = some r → WW p l e (rmq 1 22) s m args below meth c Q H locs 29 ls []) h ?_ ?_
  · intro x2_2 H locs ls hP hD hS hl h
    refine lv_bipush (v := (-9)) hx hb dX3_leastColumn_29 (by decide) ?_
    cases h
    exact ret_i hx hb hr rfl hQ hlocks hK hP hD hS dX3_leastColumn_31
  · intro k_3 K_4 h
    have L_5 : ∀ (n : Nat) (x2_2 : Int32) (H : Heap) (locs : List Loc) (ls : Array Slot), VP G ([(a0, .inl (kc 0, 16, .inl c_a))]) H → va_D A ([(a0, .inl (kc 0, 16, .inl c_a))]) → va_S A s.heap H locs → lv_has ls 3 [(1, .int r_1), (2, .int x2_2)] → f_X3_leastColumn_L7 FU r_1 k_3 n x2_2 = some r → WW p l e (rmq 1 22) s m args below meth c Q H locs 7 ls [] := by
      intro n
      induction n with
      | zero => intro x2_2 H locs ls hP hD hS hl h; rw [f_X3_leastColumn_L7] at h; cases h
      | succ n ih =>
        intro x2_2 H locs ls hP hD hS hl h
        rw [f_X3_leastColumn_L7] at h
        refine lv_iload_n hx hb dX3_leastColumn_7 rfl (lv_at hl 1 rfl) ?_
        refine lv_bipush (v := 16) hx hb dX3_leastColumn_8 (by decide) ?_
        refine lv_icmp_ge (tgt := 29) hx hb dX3_leastColumn_10 (by decide) (fun q_7 => ?_) (fun q_7 => ?_)
        · have h := it_t q_7 h
          exact K_4 x2_2 _ _ _ hP hD hS (lv_sub hl [] rfl) h
        · have h := it_f q_7 h
          refine lv_iload_n hx hb dX3_leastColumn_13 rfl (lv_at hl 0 rfl) ?_
          refine lv_iload_n hx hb dX3_leastColumn_14 rfl (lv_at hl 1 rfl) ?_
          refine lv_ishr hx hb dX3_leastColumn_15 ?_
          refine lv_iconst (v := 1) hx hb dX3_leastColumn_16 (by decide) ?_
          refine lv_iand hx hb dX3_leastColumn_17 ?_
          refine lv_if_eq (tgt := 23) hx hb dX3_leastColumn_18 (by decide) (fun q_6 => ?_) (fun q_6 => ?_)
          · have h := it_t q_6 h
            refine lv_iinc (v := (x2_2 + 1)) (lv' := [(2, .int (x2_2 + 1)), (1, .int r_1)]) hx hb dX3_leastColumn_23 hl (k := 1) rfl rfl (by decide) rfl (fun ls hl => ?_)
            refine lv_goto (tgt := 7) hx hb dX3_leastColumn_26 (by decide) ?_
            exact ih (x2_2 + 1) _ _ _ hP hD hS (lv_sub hl [1, 0] rfl) h
          · have h := it_f q_6 h
            refine lv_iload_n hx hb dX3_leastColumn_21 rfl (lv_at hl 1 rfl) ?_
            cases h
            exact ret_i hx hb hr rfl hQ hlocks hK hP hD hS dX3_leastColumn_22
    exact L_5 FU 0 _ _ _ hP hD hS (lv_sub hl [1, 0] rfl) h
set_option maxHeartbeats 1000000 in
set_option maxRecDepth 100000 in
theorem c_X3_greatestColumn (l : Launch) (G : va_G) (kc : Nat → ClassId) (a0 : Nat) {c_a : (Nat → Int32)}  {r : Int32} {FU : Nat} (h : f_X3_greatestColumn FU c_a = some r) : CTi l G kc yX3_greatestColumn cX3_greatestColumn 3 (some .int) (rmq 1 22) [.ref a0] ([(a0, .inl (kc 0, 16, .inl c_a))]) ([(a0, .inl (kc 0, 16, .inl c_a))]) r := by
  refine CTi.mk (by decide) (Nat.le_of_ble_eq_true rfl) ?_
  intro p e s m args below meth c A ls Q hQ S hr hlocks hN hA hK hl hP hD hS
  have hx := S.1
  have hb := S.2.1
  have hl : lv_has ls 3 [(0, .ref a0)] := hl
  unfold f_X3_greatestColumn at h
  refine lv_aload_n hx hb dX3_greatestColumn_0 rfl (lv_at hl 0 rfl) ?_
  obtain ⟨r_1, hq, h⟩ := bd1_e h
  refine cp_Si (rest := []) [0] S hN cb_X3_columns ml_X3_21 ⟨Nat.le_of_ble_eq_true rfl, Nat.le_of_ble_eq_true rfl⟩ (c_X3_columns l G kc a0  hq) hK hP hD hS hA rfl rfl rfl rfl rfl (Nat.le_of_ble_eq_true rfl) hl.1 dX3_greatestColumn_1 (fun H locs hP hD hS => ?_)
  have hP : VP G ([(a0, .inl (kc 0, 16, .inl c_a))]) H := hP
  have hD : va_D A ([(a0, .inl (kc 0, 16, .inl c_a))]) := hD
  refine lv_istore_n (lv' := [(1, .int r_1), (0, .ref a0)]) hx hb dX3_greatestColumn_4 rfl hl (by decide) rfl (fun ls hl => ?_)
  refine lv_bipush (v := 15) hx hb dX3_greatestColumn_5 (by decide) ?_
  refine lv_istore_n (lv' := [(2, .int 15), (1, .int r_1), (0, .ref a0)]) hx hb dX3_greatestColumn_7 rfl hl (by decide) rfl (fun ls hl => ?_)
  refine jn_w (t := fun k => f_X3_greatestColumn_L8 FU r_1 k FU 15) (fun (k : Int32 → Option (Int32)) => ∀ (x2_2 : Int32) (H : Heap) (locs : List Loc) (ls : Array Slot), VP G ([(a0, .inl (kc 0, 16, .inl c_a))]) H → va_D A ([(a0, .inl (kc 0, 16, .inl c_a))]) → va_S A s.heap H locs → lv_has ls 3 [] → k x2_2 = some r → WW p l e (rmq 1 22) s m args below meth c Q H locs 28 ls []) h ?_ ?_
  · intro x2_2 H locs ls hP hD hS hl h
    refine lv_bipush (v := (-9)) hx hb dX3_greatestColumn_28 (by decide) ?_
    cases h
    exact ret_i hx hb hr rfl hQ hlocks hK hP hD hS dX3_greatestColumn_30
  · intro k_3 K_4 h
    have L_5 : ∀ (n : Nat) (x2_2 : Int32) (H : Heap) (locs : List Loc) (ls : Array Slot), VP G ([(a0, .inl (kc 0, 16, .inl c_a))]) H → va_D A ([(a0, .inl (kc 0, 16, .inl c_a))]) → va_S A s.heap H locs → lv_has ls 3 [(1, .int r_1), (2, .int x2_2)] → f_X3_greatestColumn_L8 FU r_1 k_3 n x2_2 = some r → WW p l e (rmq 1 22) s m args below meth c Q H locs 8 ls [] := by
      intro n
      induction n with
      | zero => intro x2_2 H locs ls hP hD hS hl h; rw [f_X3_greatestColumn_L8] at h; cases h
      | succ n ih =>
        intro x2_2 H locs ls hP hD hS hl h
        rw [f_X3_greatestColumn_L8] at h
        refine lv_iload_n hx hb dX3_greatestColumn_8 rfl (lv_at hl 1 rfl) ?_
        refine lv_if_lt (tgt := 28) hx hb dX3_greatestColumn_9 (by decide) (fun q_7 => ?_) (fun q_7 => ?_)
        · have h := it_t q_7 h
          exact K_4 x2_2 _ _ _ hP hD hS (lv_sub hl [] rfl) h
        · have h := it_f q_7 h
          refine lv_iload_n hx hb dX3_greatestColumn_12 rfl (lv_at hl 0 rfl) ?_
          refine lv_iload_n hx hb dX3_greatestColumn_13 rfl (lv_at hl 1 rfl) ?_
          refine lv_ishr hx hb dX3_greatestColumn_14 ?_
          refine lv_iconst (v := 1) hx hb dX3_greatestColumn_15 (by decide) ?_
          refine lv_iand hx hb dX3_greatestColumn_16 ?_
          refine lv_if_eq (tgt := 22) hx hb dX3_greatestColumn_17 (by decide) (fun q_6 => ?_) (fun q_6 => ?_)
          · have h := it_t q_6 h
            refine lv_iinc (v := (x2_2 + (-1))) (lv' := [(2, .int (x2_2 + (-1))), (1, .int r_1)]) hx hb dX3_greatestColumn_22 hl (k := 1) rfl rfl (by decide) rfl (fun ls hl => ?_)
            refine lv_goto (tgt := 8) hx hb dX3_greatestColumn_25 (by decide) ?_
            exact ih (x2_2 + (-1)) _ _ _ hP hD hS (lv_sub hl [1, 0] rfl) h
          · have h := it_f q_6 h
            refine lv_iload_n hx hb dX3_greatestColumn_20 rfl (lv_at hl 1 rfl) ?_
            cases h
            exact ret_i hx hb hr rfl hQ hlocks hK hP hD hS dX3_greatestColumn_21
    exact L_5 FU 15 _ _ _ hP hD hS (lv_sub hl [1, 0] rfl) h
set_option maxHeartbeats 1000000 in
set_option maxRecDepth 100000 in
theorem c_X3_leastRow (l : Launch) (G : va_G) (kc : Nat → ClassId) (a0 : Nat) {c_a : (Nat → Int32)}  {r : Int32} {FU : Nat} (h : f_X3_leastRow FU c_a = some r) : CTi l G kc yX3_leastRow cX3_leastRow 2 (some .int) (rmq 0 0) [.ref a0] ([(a0, .inl (kc 0, 16, .inl c_a))]) ([(a0, .inl (kc 0, 16, .inl c_a))]) r := by
  refine CTi.mk (by decide) (Nat.le_of_ble_eq_true rfl) ?_
  intro p e s m args below meth c A ls Q hQ S hr hlocks hN hA hK hl hP hD hS
  have hx := S.1
  have hb := S.2.1
  have hl : lv_has ls 2 [(0, .ref a0)] := hl
  unfold f_X3_leastRow at h
  refine lv_iconst (v := 0) hx hb dX3_leastRow_0 (by decide) ?_
  refine lv_istore_n (lv' := [(1, .int 0), (0, .ref a0)]) hx hb dX3_leastRow_1 rfl hl (by decide) rfl (fun ls hl => ?_)
  refine jn_w (t := fun k => f_X3_leastRow_L2 FU c_a k FU 0) (fun (k : Int32 → Option (Int32)) => ∀ (x1_1 : Int32) (H : Heap) (locs : List Loc) (ls : Array Slot), VP G ([(a0, .inl (kc 0, 16, .inl c_a))]) H → va_D A ([(a0, .inl (kc 0, 16, .inl c_a))]) → va_S A s.heap H locs → lv_has ls 2 [] → k x1_1 = some r → WW p l e (rmq 0 0) s m args below meth c Q H locs 22 ls []) h ?_ ?_
  · intro x1_1 H locs ls hP hD hS hl h
    refine lv_bipush (v := (-9)) hx hb dX3_leastRow_22 (by decide) ?_
    cases h
    exact ret_i hx hb hr rfl hQ hlocks hK hP hD hS dX3_leastRow_24
  · intro k_2 K_3 h
    have L_4 : ∀ (n : Nat) (x1_1 : Int32) (H : Heap) (locs : List Loc) (ls : Array Slot), VP G ([(a0, .inl (kc 0, 16, .inl c_a))]) H → va_D A ([(a0, .inl (kc 0, 16, .inl c_a))]) → va_S A s.heap H locs → lv_has ls 2 [(0, .ref a0), (1, .int x1_1)] → f_X3_leastRow_L2 FU c_a k_2 n x1_1 = some r → WW p l e (rmq 0 0) s m args below meth c Q H locs 2 ls [] := by
      intro n
      induction n with
      | zero => intro x1_1 H locs ls hP hD hS hl h; rw [f_X3_leastRow_L2] at h; cases h
      | succ n ih =>
        intro x1_1 H locs ls hP hD hS hl h
        rw [f_X3_leastRow_L2] at h
        refine lv_iload_n hx hb dX3_leastRow_2 rfl (lv_at hl 1 rfl) ?_
        refine lv_bipush (v := 16) hx hb dX3_leastRow_3 (by decide) ?_
        refine lv_icmp_ge (tgt := 22) hx hb dX3_leastRow_5 (by decide) (fun q_7 => ?_) (fun q_7 => ?_)
        · have h := it_t q_7 h
          exact K_3 x1_1 _ _ _ hP hD hS (lv_sub hl [] rfl) h
        · have h := it_f q_7 h
          refine lv_aload_n hx hb dX3_leastRow_8 rfl (lv_at hl 0 rfl) ?_
          refine lv_iload_n hx hb dX3_leastRow_9 rfl (lv_at hl 1 rfl) ?_
          refine r_iald hx hb hK hP 0 rfl dX3_leastRow_10 h (fun y_5 h => ?_)
          refine lv_if_eq (tgt := 16) hx hb dX3_leastRow_11 (by decide) (fun q_6 => ?_) (fun q_6 => ?_)
          · have h := it_t q_6 h
            refine lv_iinc (v := (x1_1 + 1)) (lv' := [(1, .int (x1_1 + 1)), (0, .ref a0)]) hx hb dX3_leastRow_16 hl (k := 1) rfl rfl (by decide) rfl (fun ls hl => ?_)
            refine lv_goto (tgt := 2) hx hb dX3_leastRow_19 (by decide) ?_
            exact ih (x1_1 + 1) _ _ _ hP hD hS (lv_sub hl [1, 0] rfl) h
          · have h := it_f q_6 h
            refine lv_iload_n hx hb dX3_leastRow_14 rfl (lv_at hl 1 rfl) ?_
            cases h
            exact ret_i hx hb hr rfl hQ hlocks hK hP hD hS dX3_leastRow_15
    exact L_4 FU 0 _ _ _ hP hD hS (lv_sub hl [1, 0] rfl) h
set_option maxHeartbeats 1000000 in
set_option maxRecDepth 100000 in
theorem c_X3_greatestRow (l : Launch) (G : va_G) (kc : Nat → ClassId) (a0 : Nat) {c_a : (Nat → Int32)}  {r : Int32} {FU : Nat} (h : f_X3_greatestRow FU c_a = some r) : CTi l G kc yX3_greatestRow cX3_greatestRow 2 (some .int) (rmq 0 0) [.ref a0] ([(a0, .inl (kc 0, 16, .inl c_a))]) ([(a0, .inl (kc 0, 16, .inl c_a))]) r := by
  refine CTi.mk (by decide) (Nat.le_of_ble_eq_true rfl) ?_
  intro p e s m args below meth c A ls Q hQ S hr hlocks hN hA hK hl hP hD hS
  have hx := S.1
  have hb := S.2.1
  have hl : lv_has ls 2 [(0, .ref a0)] := hl
  unfold f_X3_greatestRow at h
  refine lv_bipush (v := 15) hx hb dX3_greatestRow_0 (by decide) ?_
  refine lv_istore_n (lv' := [(1, .int 15), (0, .ref a0)]) hx hb dX3_greatestRow_2 rfl hl (by decide) rfl (fun ls hl => ?_)
  refine jn_w (t := fun k => f_X3_greatestRow_L3 FU c_a k FU 15) (fun (k : Int32 → Option (Int32)) => ∀ (x1_1 : Int32) (H : Heap) (locs : List Loc) (ls : Array Slot), VP G ([(a0, .inl (kc 0, 16, .inl c_a))]) H → va_D A ([(a0, .inl (kc 0, 16, .inl c_a))]) → va_S A s.heap H locs → lv_has ls 2 [] → k x1_1 = some r → WW p l e (rmq 0 0) s m args below meth c Q H locs 21 ls []) h ?_ ?_
  · intro x1_1 H locs ls hP hD hS hl h
    refine lv_bipush (v := (-9)) hx hb dX3_greatestRow_21 (by decide) ?_
    cases h
    exact ret_i hx hb hr rfl hQ hlocks hK hP hD hS dX3_greatestRow_23
  · intro k_2 K_3 h
    have L_4 : ∀ (n : Nat) (x1_1 : Int32) (H : Heap) (locs : List Loc) (ls : Array Slot), VP G ([(a0, .inl (kc 0, 16, .inl c_a))]) H → va_D A ([(a0, .inl (kc 0, 16, .inl c_a))]) → va_S A s.heap H locs → lv_has ls 2 [(0, .ref a0), (1, .int x1_1)] → f_X3_greatestRow_L3 FU c_a k_2 n x1_1 = some r → WW p l e (rmq 0 0) s m args below meth c Q H locs 3 ls [] := by
      intro n
      induction n with
      | zero => intro x1_1 H locs ls hP hD hS hl h; rw [f_X3_greatestRow_L3] at h; cases h
      | succ n ih =>
        intro x1_1 H locs ls hP hD hS hl h
        rw [f_X3_greatestRow_L3] at h
        refine lv_iload_n hx hb dX3_greatestRow_3 rfl (lv_at hl 1 rfl) ?_
        refine lv_if_lt (tgt := 21) hx hb dX3_greatestRow_4 (by decide) (fun q_7 => ?_) (fun q_7 => ?_)
        · have h := it_t q_7 h
          exact K_3 x1_1 _ _ _ hP hD hS (lv_sub hl [] rfl) h
        · have h := it_f q_7 h
          refine lv_aload_n hx hb dX3_greatestRow_7 rfl (lv_at hl 0 rfl) ?_
          refine lv_iload_n hx hb dX3_greatestRow_8 rfl (lv_at hl 1 rfl) ?_
          refine r_iald hx hb hK hP 0 rfl dX3_greatestRow_9 h (fun y_5 h => ?_)
          refine lv_if_eq (tgt := 15) hx hb dX3_greatestRow_10 (by decide) (fun q_6 => ?_) (fun q_6 => ?_)
          · have h := it_t q_6 h
            refine lv_iinc (v := (x1_1 + (-1))) (lv' := [(1, .int (x1_1 + (-1))), (0, .ref a0)]) hx hb dX3_greatestRow_15 hl (k := 1) rfl rfl (by decide) rfl (fun ls hl => ?_)
            refine lv_goto (tgt := 3) hx hb dX3_greatestRow_18 (by decide) ?_
            exact ih (x1_1 + (-1)) _ _ _ hP hD hS (lv_sub hl [1, 0] rfl) h
          · have h := it_f q_6 h
            refine lv_iload_n hx hb dX3_greatestRow_13 rfl (lv_at hl 1 rfl) ?_
            cases h
            exact ret_i hx hb hr rfl hQ hlocks hK hP hD hS dX3_greatestRow_14
    exact L_4 FU 15 _ _ _ hP hD hS (lv_sub hl [1, 0] rfl) h
set_option maxHeartbeats 1000000 in
set_option maxRecDepth 100000 in
theorem c_X4_addPair (l : Launch) (G : va_G) (kc : Nat → ClassId) (ap ad la fa ra : Nat → Nat) {c_greys : (Nat → Int32)} {c_remembered : (Nat → Int32)} {c_columns : Int32} {c_rows : Int32} {c_settings : (Nat → Int32)} {c_reached : Int32} {c_order : (Nat → Int32)} {c_merged : (Nat → Int32)} {c_least : (Nat → Int32)} {c_greatest : (Nat → Int32)} {c_role : (Nat → Int32)} {c_head : (Nat → Int64)} {c_tail : (Nat → Int64)} {c_rank : (Nat → Int32)} {c_kindFrom : (Nat → Int32)} {c_kindTo : (Nat → Int32)} {c_side : Int32} {c_across : Int32} {c_down : Int32} {c_count : Int32} {c_flats : Int32} {c_crowded : Int32} {c_kinds : Int32} {c_first : (Nat → Int32)} {c_second : (Nat → Int32)} {c_pairs : Int32} {c_pairsWith : (Nat → Int32)} {c_voted : (Nat → Int32)} {c_ways : (Nat → Int32)} {c_shcount : Int32} {c_numberOfWay : (Nat → Int32)} {c_list : (Nat → Nat)} {c_fcount : Int32} {c_regions : (Nat → Int32)} {c_left : (Nat → Nat → Int32)} {c_open : (Nat → Int32)} {c_frows : (Nat → Nat → Int32)} {c_fshift : (Nat → Int32)} {c_fdx : (Nat → Int32)} {c_fdy : (Nat → Int32)} {c_fleastPlace : (Nat → Int32)} {c_fpairs : (Nat → Int32)} {c_foffset : (Nat → Int32)} {c_fplacesFirst : (Nat → Int32)} {c_fplaces : (Nat → Int32)} (x1 : Int32) (x2 : Int32) (x3 : Int32) {c_first' : (Nat → Int32)} {c_second' : (Nat → Int32)} {c_pairs' : Int32} {c_pairsWith' : (Nat → Int32)} {c_voted' : (Nat → Int32)} {FU : Nat} (h : f_X4_addPair FU c_first c_second c_pairs c_pairsWith c_voted x1 x2 x3 = some (c_first', c_second', c_pairs', c_pairsWith', c_voted')) : CTv l G kc yX4_addPair cX4_addPair 7 none (rmq 1 21) [.ref (ad 13), .int x1, .int x2, .int x3] (sW ap ad la fa ra kc c_greys c_remembered c_columns c_rows c_settings c_reached c_order c_merged c_least c_greatest c_role c_head c_tail c_rank c_kindFrom c_kindTo c_side c_across c_down c_count c_flats c_crowded c_kinds c_first c_second c_pairs c_pairsWith c_voted c_ways c_shcount c_numberOfWay c_list c_fcount c_regions c_left c_open c_frows c_fshift c_fdx c_fdy c_fleastPlace c_fpairs c_foffset c_fplacesFirst c_fplaces) (sW ap ad la fa ra kc c_greys c_remembered c_columns c_rows c_settings c_reached c_order c_merged c_least c_greatest c_role c_head c_tail c_rank c_kindFrom c_kindTo c_side c_across c_down c_count c_flats c_crowded c_kinds (c_first') (c_second') (c_pairs') (c_pairsWith') (c_voted') c_ways c_shcount c_numberOfWay c_list c_fcount c_regions c_left c_open c_frows c_fshift c_fdx c_fdy c_fleastPlace c_fpairs c_foffset c_fplacesFirst c_fplaces) := by
  refine CTv.mk (by decide) (Nat.le_of_ble_eq_true rfl) ?_
  intro p e s m args below meth c A ls Q hQ S hr hlocks hN hA hK hl hP hD hS
  have hx := S.1
  have hb := S.2.1
  have hl : lv_has ls 7 [(0, .ref (ad 13)), (1, .int x1), (2, .int x2), (3, .int x3)] := hl
  unfold f_X4_addPair at h
  refine lv_iload_n hx hb dX4_addPair_0 rfl (lv_at hl 2 rfl) ?_
  refine lv_bipush (v := 16) hx hb dX4_addPair_1 (by decide) ?_
  refine lv_irem hx hb dX4_addPair_3 (by decide) ?_
  refine lv_iload_n hx hb dX4_addPair_4 rfl (lv_at hl 1 rfl) ?_
  refine lv_bipush (v := 16) hx hb dX4_addPair_5 (by decide) ?_
  refine lv_irem hx hb dX4_addPair_7 (by decide) ?_
  refine lv_isub hx hb dX4_addPair_8 ?_
  refine lv_istore (lv' := [(4, .int ((x2 - x2 / 16 * 16) - (x1 - x1 / 16 * 16))), (0, .ref (ad 13)), (1, .int x1), (2, .int x2), (3, .int x3)]) hx hb dX4_addPair_9 hl (by decide) rfl (fun ls hl => ?_)
  refine lv_iload_n hx hb dX4_addPair_11 rfl (lv_at hl 3 rfl) ?_
  refine lv_bipush (v := 16) hx hb dX4_addPair_12 (by decide) ?_
  refine lv_idiv hx hb dX4_addPair_14 (by decide) ?_
  refine lv_iload_n hx hb dX4_addPair_15 rfl (lv_at hl 2 rfl) ?_
  refine lv_bipush (v := 16) hx hb dX4_addPair_16 (by decide) ?_
  refine lv_idiv hx hb dX4_addPair_18 (by decide) ?_
  refine lv_isub hx hb dX4_addPair_19 ?_
  refine lv_istore (lv' := [(5, .int ((x2 / 16) - (x1 / 16))), (4, .int ((x2 - x2 / 16 * 16) - (x1 - x1 / 16 * 16))), (0, .ref (ad 13)), (1, .int x1), (2, .int x2), (3, .int x3)]) hx hb dX4_addPair_20 hl (by decide) rfl (fun ls hl => ?_)
  refine lv_iload hx hb dX4_addPair_22 (lv_at hl 1 rfl) ?_
  refine va_mabs hx hb (S.2.2.1.trans hl.1.symm) S.2.2.2.1 (S.2.2.2.2 _ mm_X4_66) (S.2.2.2.2 _ ms_abs) (S.2.2.2.2 _ ms_init) (S.2.2.2.2 _ mc_abs) (Nat.le_of_ble_eq_true rfl) (Nat.le_of_ble_eq_true rfl) (Nat.zero_le _) (Nat.zero_le _) dX4_addPair_24 ?_
  refine lv_iload_n hx hb dX4_addPair_27 rfl (lv_at hl 5 rfl) ?_
  refine jn_w (fun (k : Int32 → Option ((Nat → Int32) × (Nat → Int32) × Int32 × (Nat → Int32) × (Nat → Int32))) => ∀ (t_1 : Int32) (H : Heap) (locs : List Loc) (ls : Array Slot), VP G (sW ap ad la fa ra kc c_greys c_remembered c_columns c_rows c_settings c_reached c_order c_merged c_least c_greatest c_role c_head c_tail c_rank c_kindFrom c_kindTo c_side c_across c_down c_count c_flats c_crowded c_kinds c_first c_second c_pairs c_pairsWith c_voted c_ways c_shcount c_numberOfWay c_list c_fcount c_regions c_left c_open c_frows c_fshift c_fdx c_fdy c_fleastPlace c_fpairs c_foffset c_fplacesFirst c_fplaces) H → va_D A (sW ap ad la fa ra kc c_greys c_remembered c_columns c_rows c_settings c_reached c_order c_merged c_least c_greatest c_role c_head c_tail c_rank c_kindFrom c_kindTo c_side c_across c_down c_count c_flats c_crowded c_kinds c_first c_second c_pairs c_pairsWith c_voted c_ways c_shcount c_numberOfWay c_list c_fcount c_regions c_left c_open c_frows c_fshift c_fdx c_fdy c_fleastPlace c_fpairs c_foffset c_fplacesFirst c_fplaces) → va_S A s.heap H locs → lv_has ls 7 [(0, .ref (ad 13)), (1, .int x1), (2, .int x2), (4, .int ((x2 - x2 / 16 * 16) - (x1 - x1 / 16 * 16))), (5, .int ((x2 / 16) - (x1 / 16)))] → k t_1 = some (c_first', c_second', c_pairs', c_pairsWith', c_voted') → WW p l e (rmq 1 21) s m args below meth c Q H locs 42 ls [.int t_1]) h ?_ ?_
  · intro t_1 H locs ls hP hD hS hl h
    refine lv_istore (lv' := [(6, .int t_1), (0, .ref (ad 13)), (1, .int x1), (2, .int x2), (4, .int ((x2 - x2 / 16 * 16) - (x1 - x1 / 16 * 16))), (5, .int ((x2 / 16) - (x1 / 16)))]) hx hb dX4_addPair_42 hl (by decide) rfl (fun ls hl => ?_)
    refine lv_iload hx hb dX4_addPair_44 (lv_at hl 0 rfl) ?_
    refine lv_if_ne (tgt := 59) hx hb dX4_addPair_46 (by decide) (fun q_14 => ?_) (fun q_14 => ?_)
    · have h := it_f q_14 h
      cases h
      exact ret_v hx hb hr hQ hlocks hK hP hD hS dX4_addPair_59
    · have h := it_t q_14 h
      refine lv_aload_n hx hb dX4_addPair_49 rfl (lv_at hl 1 rfl) ?_
      refine r_get S gf_X4_30 hK hP 16 rfl rfl dX4_addPair_50 ?_
      refine lv_sipush (v := 2137) hx hb dX4_addPair_53 (by decide) ?_
      refine lv_icmp_lt (tgt := 60) hx hb dX4_addPair_56 (by decide) (fun q_13 => ?_) (fun q_13 => ?_)
      · have h := it_t q_13 h
        refine lv_aload_n hx hb dX4_addPair_60 rfl (lv_at hl 1 rfl) ?_
        refine r_get S gf_X4_9 hK hP 16 rfl rfl dX4_addPair_61 ?_
        refine lv_aload_n hx hb dX4_addPair_64 rfl (lv_at hl 1 rfl) ?_
        refine r_get S gf_X4_30 hK hP 16 rfl rfl dX4_addPair_65 ?_
        refine lv_iload_n hx hb dX4_addPair_68 rfl (lv_at hl 2 rfl) ?_
        refine r_iast hx hb hK hP hD hS 17 rfl dX4_addPair_69 h (fun c_first_4 H locs hP hD hS h => ?_)
        have hP : VP G (sW ap ad la fa ra kc c_greys c_remembered c_columns c_rows c_settings c_reached c_order c_merged c_least c_greatest c_role c_head c_tail c_rank c_kindFrom c_kindTo c_side c_across c_down c_count c_flats c_crowded c_kinds c_first_4 c_second c_pairs c_pairsWith c_voted c_ways c_shcount c_numberOfWay c_list c_fcount c_regions c_left c_open c_frows c_fshift c_fdx c_fdy c_fleastPlace c_fpairs c_foffset c_fplacesFirst c_fplaces) H := hP
        have hD : va_D A (sW ap ad la fa ra kc c_greys c_remembered c_columns c_rows c_settings c_reached c_order c_merged c_least c_greatest c_role c_head c_tail c_rank c_kindFrom c_kindTo c_side c_across c_down c_count c_flats c_crowded c_kinds c_first_4 c_second c_pairs c_pairsWith c_voted c_ways c_shcount c_numberOfWay c_list c_fcount c_regions c_left c_open c_frows c_fshift c_fdx c_fdy c_fleastPlace c_fpairs c_foffset c_fplacesFirst c_fplaces) := hD
        refine lv_aload_n hx hb dX4_addPair_70 rfl (lv_at hl 1 rfl) ?_
        refine r_get S gf_X4_15 hK hP 16 rfl rfl dX4_addPair_71 ?_
        refine lv_aload_n hx hb dX4_addPair_74 rfl (lv_at hl 1 rfl) ?_
        refine r_get S gf_X4_30 hK hP 16 rfl rfl dX4_addPair_75 ?_
        refine lv_iload_n hx hb dX4_addPair_78 rfl (lv_at hl 3 rfl) ?_
        refine r_iast hx hb hK hP hD hS 18 rfl dX4_addPair_79 h (fun c_second_5 H locs hP hD hS h => ?_)
        have hP : VP G (sW ap ad la fa ra kc c_greys c_remembered c_columns c_rows c_settings c_reached c_order c_merged c_least c_greatest c_role c_head c_tail c_rank c_kindFrom c_kindTo c_side c_across c_down c_count c_flats c_crowded c_kinds c_first_4 c_second_5 c_pairs c_pairsWith c_voted c_ways c_shcount c_numberOfWay c_list c_fcount c_regions c_left c_open c_frows c_fshift c_fdx c_fdy c_fleastPlace c_fpairs c_foffset c_fplacesFirst c_fplaces) H := hP
        have hD : va_D A (sW ap ad la fa ra kc c_greys c_remembered c_columns c_rows c_settings c_reached c_order c_merged c_least c_greatest c_role c_head c_tail c_rank c_kindFrom c_kindTo c_side c_across c_down c_count c_flats c_crowded c_kinds c_first_4 c_second_5 c_pairs c_pairsWith c_voted c_ways c_shcount c_numberOfWay c_list c_fcount c_regions c_left c_open c_frows c_fshift c_fdx c_fdy c_fleastPlace c_fpairs c_foffset c_fplacesFirst c_fplaces) := hD
        refine lv_aload_n hx hb dX4_addPair_80 rfl (lv_at hl 1 rfl) ?_
        refine lv_dup hx hb dX4_addPair_81 rfl ?_
        refine r_get S gf_X4_30 hK hP 16 rfl rfl dX4_addPair_82 ?_
        refine lv_iconst (v := 1) hx hb dX4_addPair_85 (by decide) ?_
        refine lv_iadd hx hb dX4_addPair_86 ?_
        refine r_put S pf_X4_30 hK hP hD hS 16 rfl (Nat.le_of_ble_eq_true rfl) dX4_addPair_87 (fun H locs hP hD hS => ?_)
        have hP : VP G (sW ap ad la fa ra kc c_greys c_remembered c_columns c_rows c_settings c_reached c_order c_merged c_least c_greatest c_role c_head c_tail c_rank c_kindFrom c_kindTo c_side c_across c_down c_count c_flats c_crowded c_kinds c_first_4 c_second_5 (c_pairs + 1) c_pairsWith c_voted c_ways c_shcount c_numberOfWay c_list c_fcount c_regions c_left c_open c_frows c_fshift c_fdx c_fdy c_fleastPlace c_fpairs c_foffset c_fplacesFirst c_fplaces) H := hP
        have hD : va_D A (sW ap ad la fa ra kc c_greys c_remembered c_columns c_rows c_settings c_reached c_order c_merged c_least c_greatest c_role c_head c_tail c_rank c_kindFrom c_kindTo c_side c_across c_down c_count c_flats c_crowded c_kinds c_first_4 c_second_5 (c_pairs + 1) c_pairsWith c_voted c_ways c_shcount c_numberOfWay c_list c_fcount c_regions c_left c_open c_frows c_fshift c_fdx c_fdy c_fleastPlace c_fpairs c_foffset c_fplacesFirst c_fplaces) := hD
        refine lv_aload_n hx hb dX4_addPair_90 rfl (lv_at hl 1 rfl) ?_
        refine r_get S gf_X4_18 hK hP 16 rfl rfl dX4_addPair_91 ?_
        refine lv_iload_n hx hb dX4_addPair_94 rfl (lv_at hl 2 rfl) ?_
        refine lv_dup2_11 hx hb dX4_addPair_95 rfl rfl ?_
        refine r_iald hx hb hK hP 19 rfl dX4_addPair_96 h (fun y_6 h => ?_)
        refine lv_iconst (v := 1) hx hb dX4_addPair_97 (by decide) ?_
        refine lv_iadd hx hb dX4_addPair_98 ?_
        refine r_iast hx hb hK hP hD hS 19 rfl dX4_addPair_99 h (fun c_pairsWith_7 H locs hP hD hS h => ?_)
        have hP : VP G (sW ap ad la fa ra kc c_greys c_remembered c_columns c_rows c_settings c_reached c_order c_merged c_least c_greatest c_role c_head c_tail c_rank c_kindFrom c_kindTo c_side c_across c_down c_count c_flats c_crowded c_kinds c_first_4 c_second_5 (c_pairs + 1) c_pairsWith_7 c_voted c_ways c_shcount c_numberOfWay c_list c_fcount c_regions c_left c_open c_frows c_fshift c_fdx c_fdy c_fleastPlace c_fpairs c_foffset c_fplacesFirst c_fplaces) H := hP
        have hD : va_D A (sW ap ad la fa ra kc c_greys c_remembered c_columns c_rows c_settings c_reached c_order c_merged c_least c_greatest c_role c_head c_tail c_rank c_kindFrom c_kindTo c_side c_across c_down c_count c_flats c_crowded c_kinds c_first_4 c_second_5 (c_pairs + 1) c_pairsWith_7 c_voted c_ways c_shcount c_numberOfWay c_list c_fcount c_regions c_left c_open c_frows c_fshift c_fdx c_fdy c_fleastPlace c_fpairs c_foffset c_fplacesFirst c_fplaces) := hD
        refine lv_aload_n hx hb dX4_addPair_100 rfl (lv_at hl 1 rfl) ?_
        refine r_get S gf_X4_18 hK hP 16 rfl rfl dX4_addPair_101 ?_
        refine lv_iload_n hx hb dX4_addPair_104 rfl (lv_at hl 3 rfl) ?_
        refine lv_dup2_11 hx hb dX4_addPair_105 rfl rfl ?_
        refine r_iald hx hb hK hP 19 rfl dX4_addPair_106 h (fun y_8 h => ?_)
        refine lv_iconst (v := 1) hx hb dX4_addPair_107 (by decide) ?_
        refine lv_iadd hx hb dX4_addPair_108 ?_
        refine r_iast hx hb hK hP hD hS 19 rfl dX4_addPair_109 h (fun c_pairsWith_9 H locs hP hD hS h => ?_)
        have hP : VP G (sW ap ad la fa ra kc c_greys c_remembered c_columns c_rows c_settings c_reached c_order c_merged c_least c_greatest c_role c_head c_tail c_rank c_kindFrom c_kindTo c_side c_across c_down c_count c_flats c_crowded c_kinds c_first_4 c_second_5 (c_pairs + 1) c_pairsWith_9 c_voted c_ways c_shcount c_numberOfWay c_list c_fcount c_regions c_left c_open c_frows c_fshift c_fdx c_fdy c_fleastPlace c_fpairs c_foffset c_fplacesFirst c_fplaces) H := hP
        have hD : va_D A (sW ap ad la fa ra kc c_greys c_remembered c_columns c_rows c_settings c_reached c_order c_merged c_least c_greatest c_role c_head c_tail c_rank c_kindFrom c_kindTo c_side c_across c_down c_count c_flats c_crowded c_kinds c_first_4 c_second_5 (c_pairs + 1) c_pairsWith_9 c_voted c_ways c_shcount c_numberOfWay c_list c_fcount c_regions c_left c_open c_frows c_fshift c_fdx c_fdy c_fleastPlace c_fpairs c_foffset c_fplacesFirst c_fplaces) := hD
        refine lv_aload_n hx hb dX4_addPair_110 rfl (lv_at hl 1 rfl) ?_
        refine r_get S gf_X4_21 hK hP 16 rfl rfl dX4_addPair_111 ?_
        refine lv_iload hx hb dX4_addPair_114 (lv_at hl 4 rfl) ?_
        refine lv_iload hx hb dX4_addPair_116 (lv_at hl 5 rfl) ?_
        obtain ⟨r_10, hq, h⟩ := bd1_e h
        refine cn_Si (rest := [.ref (ad 17)]) S hN cb_X7_wayOf mn_X4_72 ⟨Nat.le_of_ble_eq_true rfl, Nat.le_of_ble_eq_true rfl⟩ (c_X7_wayOf l G kc ((x2 - x2 / 16 * 16) - (x1 - x1 / 16 * 16)) ((x2 / 16) - (x1 / 16)) hq) hK hP hD hS hA rfl rfl (Nat.le_of_ble_eq_true rfl) hl.1 dX4_addPair_118 (fun H locs hP hD hS => ?_)
        refine lv_dup2_11 hx hb dX4_addPair_121 rfl rfl ?_
        refine r_iald hx hb hK hP 20 rfl dX4_addPair_122 h (fun y_11 h => ?_)
        refine lv_iconst (v := 1) hx hb dX4_addPair_123 (by decide) ?_
        refine lv_iadd hx hb dX4_addPair_124 ?_
        refine r_iast hx hb hK hP hD hS 20 rfl dX4_addPair_125 h (fun c_voted_12 H locs hP hD hS h => ?_)
        have hP : VP G (sW ap ad la fa ra kc c_greys c_remembered c_columns c_rows c_settings c_reached c_order c_merged c_least c_greatest c_role c_head c_tail c_rank c_kindFrom c_kindTo c_side c_across c_down c_count c_flats c_crowded c_kinds c_first_4 c_second_5 (c_pairs + 1) c_pairsWith_9 c_voted_12 c_ways c_shcount c_numberOfWay c_list c_fcount c_regions c_left c_open c_frows c_fshift c_fdx c_fdy c_fleastPlace c_fpairs c_foffset c_fplacesFirst c_fplaces) H := hP
        have hD : va_D A (sW ap ad la fa ra kc c_greys c_remembered c_columns c_rows c_settings c_reached c_order c_merged c_least c_greatest c_role c_head c_tail c_rank c_kindFrom c_kindTo c_side c_across c_down c_count c_flats c_crowded c_kinds c_first_4 c_second_5 (c_pairs + 1) c_pairsWith_9 c_voted_12 c_ways c_shcount c_numberOfWay c_list c_fcount c_regions c_left c_open c_frows c_fshift c_fdx c_fdy c_fleastPlace c_fpairs c_foffset c_fplacesFirst c_fplaces) := hD
        cases h
        exact ret_v hx hb hr hQ hlocks hK hP hD hS dX4_addPair_126
      · have h := it_f q_13 h
        cases h
        exact ret_v hx hb hr hQ hlocks hK hP hD hS dX4_addPair_59
  · intro j_2 J_3 h
    refine lv_icmp_ge (tgt := 41) hx hb dX4_addPair_28 (by decide) (fun q_16 => ?_) (fun q_16 => ?_)
    · have h := it_t q_16 h
      refine lv_iconst (v := 0) hx hb dX4_addPair_41 (by decide) ?_
      exact J_3 0 _ _ _ hP hD hS (lv_sub hl [2, 3, 4, 1, 0] rfl) h
    · have h := it_f q_16 h
      refine lv_iload hx hb dX4_addPair_31 (lv_at hl 0 rfl) ?_
      refine lv_iload_n hx hb dX4_addPair_33 rfl (lv_at hl 5 rfl) ?_
      refine lv_icmp_ge (tgt := 41) hx hb dX4_addPair_34 (by decide) (fun q_15 => ?_) (fun q_15 => ?_)
      · have h := it_t q_15 h
        refine lv_iconst (v := 0) hx hb dX4_addPair_41 (by decide) ?_
        exact J_3 0 _ _ _ hP hD hS (lv_sub hl [2, 3, 4, 1, 0] rfl) h
      · have h := it_f q_15 h
        refine lv_iconst (v := 1) hx hb dX4_addPair_37 (by decide) ?_
        refine lv_goto (tgt := 42) hx hb dX4_addPair_38 (by decide) ?_
        exact J_3 1 _ _ _ hP hD hS (lv_sub hl [2, 3, 4, 1, 0] rfl) h
set_option maxHeartbeats 1000000 in
set_option maxRecDepth 100000 in
theorem c_X4_pairUp (l : Launch) (G : va_G) (kc : Nat → ClassId) (ap ad la fa ra : Nat → Nat) {c_greys : (Nat → Int32)} {c_remembered : (Nat → Int32)} {c_columns : Int32} {c_rows : Int32} {c_settings : (Nat → Int32)} {c_reached : Int32} {c_order : (Nat → Int32)} {c_merged : (Nat → Int32)} {c_least : (Nat → Int32)} {c_greatest : (Nat → Int32)} {c_role : (Nat → Int32)} {c_head : (Nat → Int64)} {c_tail : (Nat → Int64)} {c_rank : (Nat → Int32)} {c_kindFrom : (Nat → Int32)} {c_kindTo : (Nat → Int32)} {c_side : Int32} {c_across : Int32} {c_down : Int32} {c_count : Int32} {c_flats : Int32} {c_crowded : Int32} {c_kinds : Int32} {c_first : (Nat → Int32)} {c_second : (Nat → Int32)} {c_pairs : Int32} {c_pairsWith : (Nat → Int32)} {c_voted : (Nat → Int32)} {c_ways : (Nat → Int32)} {c_shcount : Int32} {c_numberOfWay : (Nat → Int32)} {c_list : (Nat → Nat)} {c_fcount : Int32} {c_regions : (Nat → Int32)} {c_left : (Nat → Nat → Int32)} {c_open : (Nat → Int32)} {c_frows : (Nat → Nat → Int32)} {c_fshift : (Nat → Int32)} {c_fdx : (Nat → Int32)} {c_fdy : (Nat → Int32)} {c_fleastPlace : (Nat → Int32)} {c_fpairs : (Nat → Int32)} {c_foffset : (Nat → Int32)} {c_fplacesFirst : (Nat → Int32)} {c_fplaces : (Nat → Int32)} (x2 : Int32) (x3 : Int32) {c_first' : (Nat → Int32)} {c_second' : (Nat → Int32)} {c_pairs' : Int32} {c_pairsWith' : (Nat → Int32)} {c_voted' : (Nat → Int32)} {FU : Nat} (h : f_X4_pairUp FU c_order c_role c_rank c_kindTo c_first c_second c_pairs c_pairsWith c_voted x2 x3 = some (c_first', c_second', c_pairs', c_pairsWith', c_voted')) : CTv l G kc yX4_pairUp cX4_pairUp 6 none (rmq 2 47) [.ref (ad 13), .ref (ad 2), .int x2, .int x3] (sW ap ad la fa ra kc c_greys c_remembered c_columns c_rows c_settings c_reached c_order c_merged c_least c_greatest c_role c_head c_tail c_rank c_kindFrom c_kindTo c_side c_across c_down c_count c_flats c_crowded c_kinds c_first c_second c_pairs c_pairsWith c_voted c_ways c_shcount c_numberOfWay c_list c_fcount c_regions c_left c_open c_frows c_fshift c_fdx c_fdy c_fleastPlace c_fpairs c_foffset c_fplacesFirst c_fplaces) (sW ap ad la fa ra kc c_greys c_remembered c_columns c_rows c_settings c_reached c_order c_merged c_least c_greatest c_role c_head c_tail c_rank c_kindFrom c_kindTo c_side c_across c_down c_count c_flats c_crowded c_kinds (c_first') (c_second') (c_pairs') (c_pairsWith') (c_voted') c_ways c_shcount c_numberOfWay c_list c_fcount c_regions c_left c_open c_frows c_fshift c_fdx c_fdy c_fleastPlace c_fpairs c_foffset c_fplacesFirst c_fplaces) := by
  refine CTv.mk (by decide) (Nat.le_of_ble_eq_true rfl) ?_
  intro p e s m args below meth c A ls Q hQ S hr hlocks hN hA hK hl hP hD hS
  have hx := S.1
  have hb := S.2.1
  have hl : lv_has ls 6 [(0, .ref (ad 13)), (1, .ref (ad 2)), (2, .int x2), (3, .int x3)] := hl
  unfold f_X4_pairUp at h
  refine lv_aload_n hx hb dX4_pairUp_0 rfl (lv_at hl 1 rfl) ?_
  refine r_get S gf_X4_50 hK hP 5 rfl rfl dX4_pairUp_1 ?_
  refine lv_iload_n hx hb dX4_pairUp_4 rfl (lv_at hl 2 rfl) ?_
  refine r_iald hx hb hK hP 10 rfl dX4_pairUp_5 h (fun y_1 h => ?_)
  refine lv_if_eq (tgt := 10) hx hb dX4_pairUp_6 (by decide) (fun q_22 => ?_) (fun q_22 => ?_)
  · have h := it_t q_22 h
    refine lv_aload_n hx hb dX4_pairUp_10 rfl (lv_at hl 1 rfl) ?_
    refine r_get S gf_X4_53 hK hP 5 rfl rfl dX4_pairUp_11 ?_
    refine lv_iload_n hx hb dX4_pairUp_14 rfl (lv_at hl 2 rfl) ?_
    refine r_iald hx hb hK hP 13 rfl dX4_pairUp_15 h (fun y_2 h => ?_)
    refine lv_iconst (v := 1) hx hb dX4_pairUp_16 (by decide) ?_
    refine lv_iadd hx hb dX4_pairUp_17 ?_
    refine lv_istore (lv' := [(4, .int (y_2 + 1)), (0, .ref (ad 13)), (1, .ref (ad 2)), (2, .int x2), (3, .int x3)]) hx hb dX4_pairUp_18 hl (by decide) rfl (fun ls hl => ?_)
    refine jn_w (t := fun k => f_X4_pairUp_L20 FU x2 x3 c_order c_role c_kindTo k FU (y_2 + 1) c_first c_second c_pairs c_pairsWith c_voted) (fun (k : Int32 → (Nat → Int32) → (Nat → Int32) → Int32 → (Nat → Int32) → (Nat → Int32) → Option ((Nat → Int32) × (Nat → Int32) × Int32 × (Nat → Int32) × (Nat → Int32))) => ∀ (x4_3 : Int32) (c_first_4 : (Nat → Int32)) (c_second_5 : (Nat → Int32)) (c_pairs_6 : Int32) (c_pairsWith_7 : (Nat → Int32)) (c_voted_8 : (Nat → Int32)) (H : Heap) (locs : List Loc) (ls : Array Slot), VP G (sW ap ad la fa ra kc c_greys c_remembered c_columns c_rows c_settings c_reached c_order c_merged c_least c_greatest c_role c_head c_tail c_rank c_kindFrom c_kindTo c_side c_across c_down c_count c_flats c_crowded c_kinds c_first_4 c_second_5 c_pairs_6 c_pairsWith_7 c_voted_8 c_ways c_shcount c_numberOfWay c_list c_fcount c_regions c_left c_open c_frows c_fshift c_fdx c_fdy c_fleastPlace c_fpairs c_foffset c_fplacesFirst c_fplaces) H → va_D A (sW ap ad la fa ra kc c_greys c_remembered c_columns c_rows c_settings c_reached c_order c_merged c_least c_greatest c_role c_head c_tail c_rank c_kindFrom c_kindTo c_side c_across c_down c_count c_flats c_crowded c_kinds c_first_4 c_second_5 c_pairs_6 c_pairsWith_7 c_voted_8 c_ways c_shcount c_numberOfWay c_list c_fcount c_regions c_left c_open c_frows c_fshift c_fdx c_fdy c_fleastPlace c_fpairs c_foffset c_fplacesFirst c_fplaces) → va_S A s.heap H locs → lv_has ls 6 [] → k x4_3 c_first_4 c_second_5 c_pairs_6 c_pairsWith_7 c_voted_8 = some (c_first', c_second', c_pairs', c_pairsWith', c_voted') → WW p l e (rmq 2 47) s m args below meth c Q H locs 64 ls []) h ?_ ?_
    · intro x4_3 c_first_4 c_second_5 c_pairs_6 c_pairsWith_7 c_voted_8 H locs ls hP hD hS hl h
      cases h
      exact ret_v hx hb hr hQ hlocks hK hP hD hS dX4_pairUp_64
    · intro k_9 K_10 h
      have L_11 : ∀ (n : Nat) (x4_3 : Int32) (c_first_4 : (Nat → Int32)) (c_second_5 : (Nat → Int32)) (c_pairs_6 : Int32) (c_pairsWith_7 : (Nat → Int32)) (c_voted_8 : (Nat → Int32)) (H : Heap) (locs : List Loc) (ls : Array Slot), VP G (sW ap ad la fa ra kc c_greys c_remembered c_columns c_rows c_settings c_reached c_order c_merged c_least c_greatest c_role c_head c_tail c_rank c_kindFrom c_kindTo c_side c_across c_down c_count c_flats c_crowded c_kinds c_first_4 c_second_5 c_pairs_6 c_pairsWith_7 c_voted_8 c_ways c_shcount c_numberOfWay c_list c_fcount c_regions c_left c_open c_frows c_fshift c_fdx c_fdy c_fleastPlace c_fpairs c_foffset c_fplacesFirst c_fplaces) H → va_D A (sW ap ad la fa ra kc c_greys c_remembered c_columns c_rows c_settings c_reached c_order c_merged c_least c_greatest c_role c_head c_tail c_rank c_kindFrom c_kindTo c_side c_across c_down c_count c_flats c_crowded c_kinds c_first_4 c_second_5 c_pairs_6 c_pairsWith_7 c_voted_8 c_ways c_shcount c_numberOfWay c_list c_fcount c_regions c_left c_open c_frows c_fshift c_fdx c_fdy c_fleastPlace c_fpairs c_foffset c_fplacesFirst c_fplaces) → va_S A s.heap H locs → lv_has ls 6 [(0, .ref (ad 13)), (1, .ref (ad 2)), (2, .int x2), (3, .int x3), (4, .int x4_3)] → f_X4_pairUp_L20 FU x2 x3 c_order c_role c_kindTo k_9 n x4_3 c_first_4 c_second_5 c_pairs_6 c_pairsWith_7 c_voted_8 = some (c_first', c_second', c_pairs', c_pairsWith', c_voted') → WW p l e (rmq 2 47) s m args below meth c Q H locs 20 ls [] := by
        intro n
        induction n with
        | zero => intro x4_3 c_first_4 c_second_5 c_pairs_6 c_pairsWith_7 c_voted_8 H locs ls hP hD hS hl h; rw [f_X4_pairUp_L20] at h; cases h
        | succ n ih =>
          intro x4_3 c_first_4 c_second_5 c_pairs_6 c_pairsWith_7 c_voted_8 H locs ls hP hD hS hl h
          rw [f_X4_pairUp_L20] at h
          refine lv_iload hx hb dX4_pairUp_20 (lv_at hl 4 rfl) ?_
          refine lv_aload_n hx hb dX4_pairUp_22 rfl (lv_at hl 1 rfl) ?_
          refine r_get S gf_X4_56 hK hP 5 rfl rfl dX4_pairUp_23 ?_
          refine lv_iload_n hx hb dX4_pairUp_26 rfl (lv_at hl 2 rfl) ?_
          refine r_iald hx hb hK hP 15 rfl dX4_pairUp_27 h (fun y_12 h => ?_)
          refine lv_icmp_ge (tgt := 64) hx hb dX4_pairUp_28 (by decide) (fun q_21 => ?_) (fun q_21 => ?_)
          · have h := it_t q_21 h
            exact K_10 x4_3 c_first_4 c_second_5 c_pairs_6 c_pairsWith_7 c_voted_8 _ _ _ hP hD hS (lv_sub hl [] rfl) h
          · have h := it_f q_21 h
            refine lv_aload_n hx hb dX4_pairUp_31 rfl (lv_at hl 1 rfl) ?_
            refine r_get S gf_X4_59 hK hP 5 rfl rfl dX4_pairUp_32 ?_
            refine lv_iload hx hb dX4_pairUp_35 (lv_at hl 4 rfl) ?_
            refine r_iald hx hb hK hP 6 rfl dX4_pairUp_37 h (fun y_13 h => ?_)
            refine lv_istore (lv' := [(5, .int y_13), (0, .ref (ad 13)), (1, .ref (ad 2)), (2, .int x2), (3, .int x3), (4, .int x4_3)]) hx hb dX4_pairUp_38 hl (by decide) rfl (fun ls hl => ?_)
            refine lv_aload_n hx hb dX4_pairUp_40 rfl (lv_at hl 2 rfl) ?_
            refine r_get S gf_X4_50 hK hP 5 rfl rfl dX4_pairUp_41 ?_
            refine lv_iload hx hb dX4_pairUp_44 (lv_at hl 0 rfl) ?_
            refine r_iald hx hb hK hP 10 rfl dX4_pairUp_46 h (fun y_14 h => ?_)
            refine lv_if_ne (tgt := 58) hx hb dX4_pairUp_47 (by decide) (fun q_20 => ?_) (fun q_20 => ?_)
            · have h := it_f q_20 h
              refine lv_iinc (v := (x4_3 + 1)) (lv' := [(4, .int (x4_3 + 1)), (5, .int y_13), (0, .ref (ad 13)), (1, .ref (ad 2)), (2, .int x2), (3, .int x3)]) hx hb dX4_pairUp_58 hl (k := 5) rfl rfl (by decide) rfl (fun ls hl => ?_)
              refine lv_goto (tgt := 20) hx hb dX4_pairUp_61 (by decide) ?_
              exact ih (x4_3 + 1) c_first_4 c_second_5 c_pairs_6 c_pairsWith_7 c_voted_8 _ _ _ hP hD hS (lv_sub hl [2, 3, 4, 5, 0] rfl) h
            · have h := it_t q_20 h
              refine lv_aload_n hx hb dX4_pairUp_50 rfl (lv_at hl 1 rfl) ?_
              refine lv_iload_n hx hb dX4_pairUp_51 rfl (lv_at hl 3 rfl) ?_
              refine lv_iload hx hb dX4_pairUp_52 (lv_at hl 0 rfl) ?_
              refine lv_iload_n hx hb dX4_pairUp_54 rfl (lv_at hl 4 rfl) ?_
              obtain ⟨c_first_15, c_second_16, c_pairs_17, c_pairsWith_18, c_voted_19, hq, h⟩ := bd5_e h
              refine cs_Vv (rest := []) (ci := 3) S hN cb_X4_addPair ml_X4_62 ⟨Nat.le_of_ble_eq_true rfl, Nat.le_of_ble_eq_true rfl⟩ (c_X4_addPair l G kc ap ad la fa ra x2 y_13 x3  hq) hK hP hD hS hA 16 rfl rfl rfl rfl rfl (Nat.le_of_ble_eq_true rfl) hl.1 dX4_pairUp_55 (fun H locs hP hD hS => ?_)
              refine lv_iinc (v := (x4_3 + 1)) (lv' := [(4, .int (x4_3 + 1)), (5, .int y_13), (0, .ref (ad 13)), (1, .ref (ad 2)), (2, .int x2), (3, .int x3)]) hx hb dX4_pairUp_58 hl (k := 5) rfl rfl (by decide) rfl (fun ls hl => ?_)
              refine lv_goto (tgt := 20) hx hb dX4_pairUp_61 (by decide) ?_
              exact ih (x4_3 + 1) c_first_15 c_second_16 c_pairs_17 c_pairsWith_18 c_voted_19 _ _ _ hP hD hS (lv_sub hl [2, 3, 4, 5, 0] rfl) h
      exact L_11 FU (y_2 + 1) c_first c_second c_pairs c_pairsWith c_voted _ _ _ hP hD hS (lv_sub hl [1, 2, 3, 4, 0] rfl) h
  · have h := it_f q_22 h
    cases h
    exact ret_v hx hb hr hQ hlocks hK hP hD hS dX4_pairUp_9
set_option maxHeartbeats 1000000 in
set_option maxRecDepth 100000 in
theorem c_X4_isAhead (l : Launch) (G : va_G) (kc : Nat → ClassId) (ap ad la fa ra : Nat → Nat) {c_greys : (Nat → Int32)} {c_remembered : (Nat → Int32)} {c_columns : Int32} {c_rows : Int32} {c_settings : (Nat → Int32)} {c_reached : Int32} {c_order : (Nat → Int32)} {c_merged : (Nat → Int32)} {c_least : (Nat → Int32)} {c_greatest : (Nat → Int32)} {c_role : (Nat → Int32)} {c_head : (Nat → Int64)} {c_tail : (Nat → Int64)} {c_rank : (Nat → Int32)} {c_kindFrom : (Nat → Int32)} {c_kindTo : (Nat → Int32)} {c_side : Int32} {c_across : Int32} {c_down : Int32} {c_count : Int32} {c_flats : Int32} {c_crowded : Int32} {c_kinds : Int32} {c_first : (Nat → Int32)} {c_second : (Nat → Int32)} {c_pairs : Int32} {c_pairsWith : (Nat → Int32)} {c_voted : (Nat → Int32)} {c_ways : (Nat → Int32)} {c_shcount : Int32} {c_numberOfWay : (Nat → Int32)} {c_list : (Nat → Nat)} {c_fcount : Int32} {c_regions : (Nat → Int32)} {c_left : (Nat → Nat → Int32)} {c_open : (Nat → Int32)} {c_frows : (Nat → Nat → Int32)} {c_fshift : (Nat → Int32)} {c_fdx : (Nat → Int32)} {c_fdy : (Nat → Int32)} {c_fleastPlace : (Nat → Int32)} {c_fpairs : (Nat → Int32)} {c_foffset : (Nat → Int32)} {c_fplacesFirst : (Nat → Int32)} {c_fplaces : (Nat → Int32)} (x1 : Int32) (x2 : Int32) {r : Int32} {FU : Nat} (h : f_X4_isAhead FU c_voted x1 x2 = some r) : CTi l G kc yX4_isAhead cX4_isAhead 5 (some .boolean) (rmq 1 21) [.ref (ad 13), .int x1, .int x2] (sW ap ad la fa ra kc c_greys c_remembered c_columns c_rows c_settings c_reached c_order c_merged c_least c_greatest c_role c_head c_tail c_rank c_kindFrom c_kindTo c_side c_across c_down c_count c_flats c_crowded c_kinds c_first c_second c_pairs c_pairsWith c_voted c_ways c_shcount c_numberOfWay c_list c_fcount c_regions c_left c_open c_frows c_fshift c_fdx c_fdy c_fleastPlace c_fpairs c_foffset c_fplacesFirst c_fplaces) (sW ap ad la fa ra kc c_greys c_remembered c_columns c_rows c_settings c_reached c_order c_merged c_least c_greatest c_role c_head c_tail c_rank c_kindFrom c_kindTo c_side c_across c_down c_count c_flats c_crowded c_kinds c_first c_second c_pairs c_pairsWith c_voted c_ways c_shcount c_numberOfWay c_list c_fcount c_regions c_left c_open c_frows c_fshift c_fdx c_fdy c_fleastPlace c_fpairs c_foffset c_fplacesFirst c_fplaces) r := by
  refine CTi.mk (by decide) (Nat.le_of_ble_eq_true rfl) ?_
  intro p e s m args below meth c A ls Q hQ S hr hlocks hN hA hK hl hP hD hS
  have hx := S.1
  have hb := S.2.1
  have hl : lv_has ls 5 [(0, .ref (ad 13)), (1, .int x1), (2, .int x2)] := hl
  unfold f_X4_isAhead at h
  refine lv_aload_n hx hb dX4_isAhead_0 rfl (lv_at hl 0 rfl) ?_
  refine r_get S gf_X4_21 hK hP 16 rfl rfl dX4_isAhead_1 ?_
  refine lv_iload_n hx hb dX4_isAhead_4 rfl (lv_at hl 1 rfl) ?_
  refine r_iald hx hb hK hP 20 rfl dX4_isAhead_5 h (fun y_1 h => ?_)
  refine lv_aload_n hx hb dX4_isAhead_6 rfl (lv_at hl 0 rfl) ?_
  refine r_get S gf_X4_21 hK hP 16 rfl rfl dX4_isAhead_7 ?_
  refine lv_iload_n hx hb dX4_isAhead_10 rfl (lv_at hl 2 rfl) ?_
  refine r_iald hx hb hK hP 20 rfl dX4_isAhead_11 h (fun y_2 h => ?_)
  refine lv_icmp_eq (tgt := 36) hx hb dX4_isAhead_12 (by decide) (fun q_13 => ?_) (fun q_13 => ?_)
  · have h := it_t q_13 h
    refine lv_iload_n hx hb dX4_isAhead_36 rfl (lv_at hl 1 rfl) ?_
    obtain ⟨r_3, hq, h⟩ := bd1_e h
    refine cn_Si (rest := []) S hN cb_X7_acrossOf mn_X4_89 ⟨Nat.le_of_ble_eq_true rfl, Nat.le_of_ble_eq_true rfl⟩ (c_X7_acrossOf l G kc x1 hq) hK hP hD hS hA rfl rfl (Nat.le_of_ble_eq_true rfl) hl.1 dX4_isAhead_37 (fun H locs hP hD hS => ?_)
    refine va_mabs hx hb (S.2.2.1.trans hl.1.symm) S.2.2.2.1 (S.2.2.2.2 _ mm_X4_66) (S.2.2.2.2 _ ms_abs) (S.2.2.2.2 _ ms_init) (S.2.2.2.2 _ mc_abs) (Nat.le_of_ble_eq_true rfl) (Nat.le_of_ble_eq_true rfl) (Nat.zero_le _) (Nat.zero_le _) dX4_isAhead_40 ?_
    refine lv_iload_n hx hb dX4_isAhead_43 rfl (lv_at hl 1 rfl) ?_
    obtain ⟨r_4, hq, h⟩ := bd1_e h
    refine cn_Si (rest := [.int (if 0 ≤ r_3 then r_3 else 0 - r_3)]) S hN cb_X7_downOf mn_X4_92 ⟨Nat.le_of_ble_eq_true rfl, Nat.le_of_ble_eq_true rfl⟩ (c_X7_downOf l G kc x1 hq) hK hP hD hS hA rfl rfl (Nat.le_of_ble_eq_true rfl) hl.1 dX4_isAhead_44 (fun H locs hP hD hS => ?_)
    refine lv_iadd hx hb dX4_isAhead_47 ?_
    refine lv_istore_n (lv' := [(3, .int ((if 0 ≤ r_3 then r_3 else 0 - r_3) + r_4)), (0, .ref (ad 13)), (1, .int x1), (2, .int x2)]) hx hb dX4_isAhead_48 rfl hl (by decide) rfl (fun ls hl => ?_)
    refine lv_iload_n hx hb dX4_isAhead_49 rfl (lv_at hl 3 rfl) ?_
    obtain ⟨r_5, hq, h⟩ := bd1_e h
    refine cn_Si (rest := []) S hN cb_X7_acrossOf mn_X4_89 ⟨Nat.le_of_ble_eq_true rfl, Nat.le_of_ble_eq_true rfl⟩ (c_X7_acrossOf l G kc x2 hq) hK hP hD hS hA rfl rfl (Nat.le_of_ble_eq_true rfl) hl.1 dX4_isAhead_50 (fun H locs hP hD hS => ?_)
    refine va_mabs hx hb (S.2.2.1.trans hl.1.symm) S.2.2.2.1 (S.2.2.2.2 _ mm_X4_66) (S.2.2.2.2 _ ms_abs) (S.2.2.2.2 _ ms_init) (S.2.2.2.2 _ mc_abs) (Nat.le_of_ble_eq_true rfl) (Nat.le_of_ble_eq_true rfl) (Nat.zero_le _) (Nat.zero_le _) dX4_isAhead_53 ?_
    refine lv_iload_n hx hb dX4_isAhead_56 rfl (lv_at hl 3 rfl) ?_
    obtain ⟨r_6, hq, h⟩ := bd1_e h
    refine cn_Si (rest := [.int (if 0 ≤ r_5 then r_5 else 0 - r_5)]) S hN cb_X7_downOf mn_X4_92 ⟨Nat.le_of_ble_eq_true rfl, Nat.le_of_ble_eq_true rfl⟩ (c_X7_downOf l G kc x2 hq) hK hP hD hS hA rfl rfl (Nat.le_of_ble_eq_true rfl) hl.1 dX4_isAhead_57 (fun H locs hP hD hS => ?_)
    refine lv_iadd hx hb dX4_isAhead_60 ?_
    refine lv_istore (lv' := [(4, .int ((if 0 ≤ r_5 then r_5 else 0 - r_5) + r_6)), (3, .int ((if 0 ≤ r_3 then r_3 else 0 - r_3) + r_4)), (0, .ref (ad 13)), (1, .int x1), (2, .int x2)]) hx hb dX4_isAhead_61 hl (by decide) rfl (fun ls hl => ?_)
    refine lv_iload_n hx hb dX4_isAhead_63 rfl (lv_at hl 1 rfl) ?_
    refine lv_iload hx hb dX4_isAhead_64 (lv_at hl 0 rfl) ?_
    refine lv_icmp_eq (tgt := 83) hx hb dX4_isAhead_66 (by decide) (fun q_9 => ?_) (fun q_9 => ?_)
    · have h := it_t q_9 h
      refine lv_iload_n hx hb dX4_isAhead_83 rfl (lv_at hl 3 rfl) ?_
      refine lv_iload_n hx hb dX4_isAhead_84 rfl (lv_at hl 4 rfl) ?_
      refine lv_icmp_ge (tgt := 92) hx hb dX4_isAhead_85 (by decide) (fun q_7 => ?_) (fun q_7 => ?_)
      · have h := it_t q_7 h
        refine lv_iconst (v := 0) hx hb dX4_isAhead_92 (by decide) ?_
        cases h
        exact ret_i hx hb hr rfl hQ hlocks hK hP hD hS dX4_isAhead_93
      · have h := it_f q_7 h
        refine lv_iconst (v := 1) hx hb dX4_isAhead_88 (by decide) ?_
        refine lv_goto (tgt := 93) hx hb dX4_isAhead_89 (by decide) ?_
        cases h
        exact ret_i hx hb hr rfl hQ hlocks hK hP hD hS dX4_isAhead_93
    · have h := it_f q_9 h
      refine lv_iload_n hx hb dX4_isAhead_69 rfl (lv_at hl 1 rfl) ?_
      refine lv_iload hx hb dX4_isAhead_70 (lv_at hl 0 rfl) ?_
      refine lv_icmp_ge (tgt := 79) hx hb dX4_isAhead_72 (by decide) (fun q_8 => ?_) (fun q_8 => ?_)
      · have h := it_t q_8 h
        refine lv_iconst (v := 0) hx hb dX4_isAhead_79 (by decide) ?_
        refine lv_goto (tgt := 93) hx hb dX4_isAhead_80 (by decide) ?_
        cases h
        exact ret_i hx hb hr rfl hQ hlocks hK hP hD hS dX4_isAhead_93
      · have h := it_f q_8 h
        refine lv_iconst (v := 1) hx hb dX4_isAhead_75 (by decide) ?_
        refine lv_goto (tgt := 93) hx hb dX4_isAhead_76 (by decide) ?_
        cases h
        exact ret_i hx hb hr rfl hQ hlocks hK hP hD hS dX4_isAhead_93
  · have h := it_f q_13 h
    refine lv_aload_n hx hb dX4_isAhead_15 rfl (lv_at hl 0 rfl) ?_
    refine r_get S gf_X4_21 hK hP 16 rfl rfl dX4_isAhead_16 ?_
    refine lv_iload_n hx hb dX4_isAhead_19 rfl (lv_at hl 1 rfl) ?_
    refine r_iald hx hb hK hP 20 rfl dX4_isAhead_20 h (fun y_10 h => ?_)
    refine lv_aload_n hx hb dX4_isAhead_21 rfl (lv_at hl 0 rfl) ?_
    refine r_get S gf_X4_21 hK hP 16 rfl rfl dX4_isAhead_22 ?_
    refine lv_iload_n hx hb dX4_isAhead_25 rfl (lv_at hl 2 rfl) ?_
    refine r_iald hx hb hK hP 20 rfl dX4_isAhead_26 h (fun y_11 h => ?_)
    refine lv_icmp_le (tgt := 34) hx hb dX4_isAhead_27 (by decide) (fun q_12 => ?_) (fun q_12 => ?_)
    · have h := it_t q_12 h
      refine lv_iconst (v := 0) hx hb dX4_isAhead_34 (by decide) ?_
      cases h
      exact ret_i hx hb hr rfl hQ hlocks hK hP hD hS dX4_isAhead_35
    · have h := it_f q_12 h
      refine lv_iconst (v := 1) hx hb dX4_isAhead_30 (by decide) ?_
      refine lv_goto (tgt := 35) hx hb dX4_isAhead_31 (by decide) ?_
      cases h
      exact ret_i hx hb hr rfl hQ hlocks hK hP hD hS dX4_isAhead_35
