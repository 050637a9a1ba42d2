set_option maxHeartbeats 1000000 in
set_option maxRecDepth 100000 in
theorem c_X4_settle (l : Launch) (G : va_G) (kc : Nat → ClassId) (ap ad la fa ra : Nat → Nat) {c_greys : (Nat → Int32)} {c_remembered : (Nat → Int32)} {c_columns : Int32} {c_rows : Int32} {c_settings : (Nat → Int32)} {c_reached : Int32} {c_order : (Nat → Int32)} {c_merged : (Nat → Int32)} {c_least : (Nat → Int32)} {c_greatest : (Nat → Int32)} {c_role : (Nat → Int32)} {c_head : (Nat → Int64)} {c_tail : (Nat → Int64)} {c_rank : (Nat → Int32)} {c_kindFrom : (Nat → Int32)} {c_kindTo : (Nat → Int32)} {c_side : Int32} {c_across : Int32} {c_down : Int32} {c_count : Int32} {c_flats : Int32} {c_crowded : Int32} {c_kinds : Int32} {c_first : (Nat → Int32)} {c_second : (Nat → Int32)} {c_pairs : Int32} {c_pairsWith : (Nat → Int32)} {c_voted : (Nat → Int32)} {c_ways : (Nat → Int32)} {c_shcount : Int32} {c_numberOfWay : (Nat → Int32)} {c_list : (Nat → Nat)} {c_fcount : Int32} {c_regions : (Nat → Int32)} {c_left : (Nat → Nat → Int32)} {c_open : (Nat → Int32)} {c_frows : (Nat → Nat → Int32)} {c_fshift : (Nat → Int32)} {c_fdx : (Nat → Int32)} {c_fdy : (Nat → Int32)} {c_fleastPlace : (Nat → Int32)} {c_fpairs : (Nat → Int32)} {c_foffset : (Nat → Int32)} {c_fplacesFirst : (Nat → Int32)} {c_fplaces : (Nat → Int32)} (x1 : Int32) {c_ways' : (Nat → Int32)} {FU : Nat} (h : f_X4_settle FU c_voted c_ways x1 = some c_ways') : CTv l G kc yX4_settle cX4_settle 4 none (rmq 2 45) [.ref (ad 13), .int x1] (sW ap ad la fa ra kc c_greys c_remembered c_columns c_rows c_settings c_reached c_order c_merged c_least c_greatest c_role c_head c_tail c_rank c_kindFrom c_kindTo c_side c_across c_down c_count c_flats c_crowded c_kinds c_first c_second c_pairs c_pairsWith c_voted c_ways c_shcount c_numberOfWay c_list c_fcount c_regions c_left c_open c_frows c_fshift c_fdx c_fdy c_fleastPlace c_fpairs c_foffset c_fplacesFirst c_fplaces) (sW ap ad la fa ra kc c_greys c_remembered c_columns c_rows c_settings c_reached c_order c_merged c_least c_greatest c_role c_head c_tail c_rank c_kindFrom c_kindTo c_side c_across c_down c_count c_flats c_crowded c_kinds c_first c_second c_pairs c_pairsWith c_voted (c_ways') c_shcount c_numberOfWay c_list c_fcount c_regions c_left c_open c_frows c_fshift c_fdx c_fdy c_fleastPlace c_fpairs c_foffset c_fplacesFirst c_fplaces) := by
  refine CTv.mk (by decide) (Nat.le_of_ble_eq_true rfl) ?_
  intro p e s m args below meth c A ls Q hQ S hr hlocks hN hA hK hl hP hD hS
  have hx := S.1
  have hb := S.2.1
  have hl : lv_has ls 4 [(0, .ref (ad 13)), (1, .int x1)] := hl
  unfold f_X4_settle at h
  refine lv_iload_n hx hb dX4_settle_0 rfl (lv_at hl 1 rfl) ?_
  refine lv_istore_n (lv' := [(2, .int x1), (0, .ref (ad 13)), (1, .int x1)]) hx hb dX4_settle_1 rfl hl (by decide) rfl (fun ls hl => ?_)
  refine jn_w (t := fun k => f_X4_settle_L2 FU c_voted k FU x1 c_ways) (fun (k : Int32 → (Nat → Int32) → Option ((Nat → Int32))) => ∀ (x2_1 : Int32) (c_ways_2 : (Nat → Int32)) (H : Heap) (locs : List Loc) (ls : Array Slot), VP G (sW ap ad la fa ra kc c_greys c_remembered c_columns c_rows c_settings c_reached c_order c_merged c_least c_greatest c_role c_head c_tail c_rank c_kindFrom c_kindTo c_side c_across c_down c_count c_flats c_crowded c_kinds c_first c_second c_pairs c_pairsWith c_voted c_ways_2 c_shcount c_numberOfWay c_list c_fcount c_regions c_left c_open c_frows c_fshift c_fdx c_fdy c_fleastPlace c_fpairs c_foffset c_fplacesFirst c_fplaces) H → va_D A (sW ap ad la fa ra kc c_greys c_remembered c_columns c_rows c_settings c_reached c_order c_merged c_least c_greatest c_role c_head c_tail c_rank c_kindFrom c_kindTo c_side c_across c_down c_count c_flats c_crowded c_kinds c_first c_second c_pairs c_pairsWith c_voted c_ways_2 c_shcount c_numberOfWay c_list c_fcount c_regions c_left c_open c_frows c_fshift c_fdx c_fdy c_fleastPlace c_fpairs c_foffset c_fplacesFirst c_fplaces) → va_S A s.heap H locs → lv_has ls 4 [] → k x2_1 c_ways_2 = some c_ways' → WW p l e (rmq 2 45) s m args below meth c Q H locs 63 ls []) h ?_ ?_
  · intro x2_1 c_ways_2 H locs ls hP hD hS hl h
    cases h
    exact ret_v hx hb hr hQ hlocks hK hP hD hS dX4_settle_63
  · intro k_3 K_4 h
    have L_5 : ∀ (n : Nat) (x2_1 : Int32) (c_ways_2 : (Nat → Int32)) (H : Heap) (locs : List Loc) (ls : Array Slot), VP G (sW ap ad la fa ra kc c_greys c_remembered c_columns c_rows c_settings c_reached c_order c_merged c_least c_greatest c_role c_head c_tail c_rank c_kindFrom c_kindTo c_side c_across c_down c_count c_flats c_crowded c_kinds c_first c_second c_pairs c_pairsWith c_voted c_ways_2 c_shcount c_numberOfWay c_list c_fcount c_regions c_left c_open c_frows c_fshift c_fdx c_fdy c_fleastPlace c_fpairs c_foffset c_fplacesFirst c_fplaces) H → va_D A (sW ap ad la fa ra kc c_greys c_remembered c_columns c_rows c_settings c_reached c_order c_merged c_least c_greatest c_role c_head c_tail c_rank c_kindFrom c_kindTo c_side c_across c_down c_count c_flats c_crowded c_kinds c_first c_second c_pairs c_pairsWith c_voted c_ways_2 c_shcount c_numberOfWay c_list c_fcount c_regions c_left c_open c_frows c_fshift c_fdx c_fdy c_fleastPlace c_fpairs c_foffset c_fplacesFirst c_fplaces) → va_S A s.heap H locs → lv_has ls 4 [(0, .ref (ad 13)), (2, .int x2_1)] → f_X4_settle_L2 FU c_voted k_3 n x2_1 c_ways_2 = some c_ways' → WW p l e (rmq 2 45) s m args below meth c Q H locs 2 ls [] := by
      intro n
      induction n with
      | zero => intro x2_1 c_ways_2 H locs ls hP hD hS hl h; rw [f_X4_settle_L2] at h; cases h
      | succ n ih =>
        intro x2_1 c_ways_2 H locs ls hP hD hS hl h
        rw [f_X4_settle_L2] at h
        refine lv_iload_n hx hb dX4_settle_2 rfl (lv_at hl 1 rfl) ?_
        refine lv_if_le (tgt := 63) hx hb dX4_settle_3 (by decide) (fun q_14 => ?_) (fun q_14 => ?_)
        · have h := it_t q_14 h
          exact K_4 x2_1 c_ways_2 _ _ _ hP hD hS (lv_sub hl [] rfl) h
        · have h := it_f q_14 h
          refine lv_aload_n hx hb dX4_settle_6 rfl (lv_at hl 0 rfl) ?_
          refine lv_aload_n hx hb dX4_settle_7 rfl (lv_at hl 0 rfl) ?_
          refine r_get S gf_X4_24 hK hP 16 rfl rfl dX4_settle_8 ?_
          refine lv_iload_n hx hb dX4_settle_11 rfl (lv_at hl 1 rfl) ?_
          refine r_iald hx hb hK hP 21 rfl dX4_settle_12 h (fun y_6 h => ?_)
          refine lv_aload_n hx hb dX4_settle_13 rfl (lv_at hl 0 rfl) ?_
          refine r_get S gf_X4_24 hK hP 16 rfl rfl dX4_settle_14 ?_
          refine lv_iload_n hx hb dX4_settle_17 rfl (lv_at hl 1 rfl) ?_
          refine lv_iconst (v := 1) hx hb dX4_settle_18 (by decide) ?_
          refine lv_isub hx hb dX4_settle_19 ?_
          refine r_iald hx hb hK hP 21 rfl dX4_settle_20 h (fun y_7 h => ?_)
          obtain ⟨r_8, hq, h⟩ := bd1_e h
          refine cs_Vi (rest := []) (ci := 3) S hN cb_X4_isAhead ml_X4_85 ⟨Nat.le_of_ble_eq_true rfl, Nat.le_of_ble_eq_true rfl⟩ (c_X4_isAhead l G kc ap ad la fa ra y_6 y_7  hq) hK hP hD hS hA 16 rfl rfl rfl rfl rfl (Nat.le_of_ble_eq_true rfl) hl.1 dX4_settle_21 (fun H locs hP hD hS => ?_)
          refine lv_if_eq (tgt := 63) hx hb dX4_settle_24 (by decide) (fun q_13 => ?_) (fun q_13 => ?_)
          · have h := it_t q_13 h
            exact K_4 x2_1 c_ways_2 _ _ _ hP hD hS (lv_sub hl [] rfl) h
          · have h := it_f q_13 h
            refine lv_aload_n hx hb dX4_settle_27 rfl (lv_at hl 0 rfl) ?_
            refine r_get S gf_X4_24 hK hP 16 rfl rfl dX4_settle_28 ?_
            refine lv_iload_n hx hb dX4_settle_31 rfl (lv_at hl 1 rfl) ?_
            refine r_iald hx hb hK hP 21 rfl dX4_settle_32 h (fun y_9 h => ?_)
            refine lv_istore_n (lv' := [(3, .int y_9), (0, .ref (ad 13)), (2, .int x2_1)]) hx hb dX4_settle_33 rfl hl (by decide) rfl (fun ls hl => ?_)
            refine lv_aload_n hx hb dX4_settle_34 rfl (lv_at hl 1 rfl) ?_
            refine r_get S gf_X4_24 hK hP 16 rfl rfl dX4_settle_35 ?_
            refine lv_iload_n hx hb dX4_settle_38 rfl (lv_at hl 2 rfl) ?_
            refine lv_aload_n hx hb dX4_settle_39 rfl (lv_at hl 1 rfl) ?_
            refine r_get S gf_X4_24 hK hP 16 rfl rfl dX4_settle_40 ?_
            refine lv_iload_n hx hb dX4_settle_43 rfl (lv_at hl 2 rfl) ?_
            refine lv_iconst (v := 1) hx hb dX4_settle_44 (by decide) ?_
            refine lv_isub hx hb dX4_settle_45 ?_
            refine r_iald hx hb hK hP 21 rfl dX4_settle_46 h (fun y_10 h => ?_)
            refine r_iast hx hb hK hP hD hS 21 rfl dX4_settle_47 h (fun c_ways_11 H locs hP hD hS h => ?_)
            have hP : VP G (sW ap ad la fa ra kc c_greys c_remembered c_columns c_rows c_settings c_reached c_order c_merged c_least c_greatest c_role c_head c_tail c_rank c_kindFrom c_kindTo c_side c_across c_down c_count c_flats c_crowded c_kinds c_first c_second c_pairs c_pairsWith c_voted c_ways_11 c_shcount c_numberOfWay c_list c_fcount c_regions c_left c_open c_frows c_fshift c_fdx c_fdy c_fleastPlace c_fpairs c_foffset c_fplacesFirst c_fplaces) H := hP
            have hD : va_D A (sW ap ad la fa ra kc c_greys c_remembered c_columns c_rows c_settings c_reached c_order c_merged c_least c_greatest c_role c_head c_tail c_rank c_kindFrom c_kindTo c_side c_across c_down c_count c_flats c_crowded c_kinds c_first c_second c_pairs c_pairsWith c_voted c_ways_11 c_shcount c_numberOfWay c_list c_fcount c_regions c_left c_open c_frows c_fshift c_fdx c_fdy c_fleastPlace c_fpairs c_foffset c_fplacesFirst c_fplaces) := hD
            refine lv_aload_n hx hb dX4_settle_48 rfl (lv_at hl 1 rfl) ?_
            refine r_get S gf_X4_24 hK hP 16 rfl rfl dX4_settle_49 ?_
            refine lv_iload_n hx hb dX4_settle_52 rfl (lv_at hl 2 rfl) ?_
            refine lv_iconst (v := 1) hx hb dX4_settle_53 (by decide) ?_
            refine lv_isub hx hb dX4_settle_54 ?_
            refine lv_iload_n hx hb dX4_settle_55 rfl (lv_at hl 0 rfl) ?_
            refine r_iast hx hb hK hP hD hS 21 rfl dX4_settle_56 h (fun c_ways_12 H locs hP hD hS h => ?_)
            have hP : VP G (sW ap ad la fa ra kc c_greys c_remembered c_columns c_rows c_settings c_reached c_order c_merged c_least c_greatest c_role c_head c_tail c_rank c_kindFrom c_kindTo c_side c_across c_down c_count c_flats c_crowded c_kinds c_first c_second c_pairs c_pairsWith c_voted c_ways_12 c_shcount c_numberOfWay c_list c_fcount c_regions c_left c_open c_frows c_fshift c_fdx c_fdy c_fleastPlace c_fpairs c_foffset c_fplacesFirst c_fplaces) H := hP
            have hD : va_D A (sW ap ad la fa ra kc c_greys c_remembered c_columns c_rows c_settings c_reached c_order c_merged c_least c_greatest c_role c_head c_tail c_rank c_kindFrom c_kindTo c_side c_across c_down c_count c_flats c_crowded c_kinds c_first c_second c_pairs c_pairsWith c_voted c_ways_12 c_shcount c_numberOfWay c_list c_fcount c_regions c_left c_open c_frows c_fshift c_fdx c_fdy c_fleastPlace c_fpairs c_foffset c_fplacesFirst c_fplaces) := hD
            refine lv_iinc (v := (x2_1 + (-1))) (lv' := [(2, .int (x2_1 + (-1))), (3, .int y_9), (0, .ref (ad 13))]) hx hb dX4_settle_57 hl (k := 2) rfl rfl (by decide) rfl (fun ls hl => ?_)
            refine lv_goto (tgt := 2) hx hb dX4_settle_60 (by decide) ?_
            exact ih (x2_1 + (-1)) c_ways_12 _ _ _ hP hD hS (lv_sub hl [2, 0] rfl) h
    exact L_5 FU x1 c_ways _ _ _ hP hD hS (lv_sub hl [1, 0] rfl) h
set_option maxHeartbeats 1000000 in
set_option maxRecDepth 100000 in
theorem c_X4_choose (l : Launch) (G : va_G) (kc : Nat → ClassId) (ap ad la fa ra : Nat → Nat) {c_greys : (Nat → Int32)} {c_remembered : (Nat → Int32)} {c_columns : Int32} {c_rows : Int32} {c_settings : (Nat → Int32)} {c_reached : Int32} {c_order : (Nat → Int32)} {c_merged : (Nat → Int32)} {c_least : (Nat → Int32)} {c_greatest : (Nat → Int32)} {c_role : (Nat → Int32)} {c_head : (Nat → Int64)} {c_tail : (Nat → Int64)} {c_rank : (Nat → Int32)} {c_kindFrom : (Nat → Int32)} {c_kindTo : (Nat → Int32)} {c_side : Int32} {c_across : Int32} {c_down : Int32} {c_count : Int32} {c_flats : Int32} {c_crowded : Int32} {c_kinds : Int32} {c_first : (Nat → Int32)} {c_second : (Nat → Int32)} {c_pairs : Int32} {c_pairsWith : (Nat → Int32)} {c_voted : (Nat → Int32)} {c_ways : (Nat → Int32)} {c_shcount : Int32} {c_numberOfWay : (Nat → Int32)} {c_list : (Nat → Nat)} {c_fcount : Int32} {c_regions : (Nat → Int32)} {c_left : (Nat → Nat → Int32)} {c_open : (Nat → Int32)} {c_frows : (Nat → Nat → Int32)} {c_fshift : (Nat → Int32)} {c_fdx : (Nat → Int32)} {c_fdy : (Nat → Int32)} {c_fleastPlace : (Nat → Int32)} {c_fpairs : (Nat → Int32)} {c_foffset : (Nat → Int32)} {c_fplacesFirst : (Nat → Int32)} {c_fplaces : (Nat → Int32)} (x1 : Int32) {c_ways' : (Nat → Int32)} {c_shcount' : Int32} {c_numberOfWay' : (Nat → Int32)} {FU : Nat} (h : f_X4_choose FU c_voted c_ways c_shcount c_numberOfWay x1 = some (c_ways', c_shcount', c_numberOfWay')) : CTv l G kc yX4_choose cX4_choose 3 none (rmq 3 68) [.ref (ad 13), .int x1] (sW ap ad la fa ra kc c_greys c_remembered c_columns c_rows c_settings c_reached c_order c_merged c_least c_greatest c_role c_head c_tail c_rank c_kindFrom c_kindTo c_side c_across c_down c_count c_flats c_crowded c_kinds c_first c_second c_pairs c_pairsWith c_voted c_ways c_shcount c_numberOfWay c_list c_fcount c_regions c_left c_open c_frows c_fshift c_fdx c_fdy c_fleastPlace c_fpairs c_foffset c_fplacesFirst c_fplaces) (sW ap ad la fa ra kc c_greys c_remembered c_columns c_rows c_settings c_reached c_order c_merged c_least c_greatest c_role c_head c_tail c_rank c_kindFrom c_kindTo c_side c_across c_down c_count c_flats c_crowded c_kinds c_first c_second c_pairs c_pairsWith c_voted (c_ways') (c_shcount') (c_numberOfWay') c_list c_fcount c_regions c_left c_open c_frows c_fshift c_fdx c_fdy c_fleastPlace c_fpairs c_foffset c_fplacesFirst c_fplaces) := by
  refine CTv.mk (by decide) (Nat.le_of_ble_eq_true rfl) ?_
  intro p e s m args below meth c A ls Q hQ S hr hlocks hN hA hK hl hP hD hS
  have hx := S.1
  have hb := S.2.1
  have hl : lv_has ls 3 [(0, .ref (ad 13)), (1, .int x1)] := hl
  unfold f_X4_choose at h
  refine lv_aload_n hx hb dX4_choose_0 rfl (lv_at hl 0 rfl) ?_
  refine lv_iconst (v := 0) hx hb dX4_choose_1 (by decide) ?_
  refine r_put S pf_X4_76 hK hP hD hS 16 rfl (Nat.le_of_ble_eq_true rfl) dX4_choose_2 (fun H locs hP hD hS => ?_)
  have hP : VP G (sW ap ad la fa ra kc c_greys c_remembered c_columns c_rows c_settings c_reached c_order c_merged c_least c_greatest c_role c_head c_tail c_rank c_kindFrom c_kindTo c_side c_across c_down c_count c_flats c_crowded c_kinds c_first c_second c_pairs c_pairsWith c_voted c_ways 0 c_numberOfWay c_list c_fcount c_regions c_left c_open c_frows c_fshift c_fdx c_fdy c_fleastPlace c_fpairs c_foffset c_fplacesFirst c_fplaces) H := hP
  have hD : va_D A (sW ap ad la fa ra kc c_greys c_remembered c_columns c_rows c_settings c_reached c_order c_merged c_least c_greatest c_role c_head c_tail c_rank c_kindFrom c_kindTo c_side c_across c_down c_count c_flats c_crowded c_kinds c_first c_second c_pairs c_pairsWith c_voted c_ways 0 c_numberOfWay c_list c_fcount c_regions c_left c_open c_frows c_fshift c_fdx c_fdy c_fleastPlace c_fpairs c_foffset c_fplacesFirst c_fplaces) := hD
  refine lv_iconst (v := 0) hx hb dX4_choose_5 (by decide) ?_
  refine lv_istore_n (lv' := [(2, .int 0), (0, .ref (ad 13)), (1, .int x1)]) hx hb dX4_choose_6 rfl hl (by decide) rfl (fun ls hl => ?_)
  refine jn_w (t := fun k => f_X4_choose_L7 FU x1 c_voted k FU 0 c_ways 0) (fun (k : Int32 → (Nat → Int32) → Int32 → Option ((Nat → Int32) × Int32 × (Nat → Int32))) => ∀ (x2_1 : Int32) (c_ways_2 : (Nat → Int32)) (c_shcount_3 : Int32) (H : Heap) (locs : List Loc) (ls : Array Slot), VP G (sW ap ad la fa ra kc c_greys c_remembered c_columns c_rows c_settings c_reached c_order c_merged c_least c_greatest c_role c_head c_tail c_rank c_kindFrom c_kindTo c_side c_across c_down c_count c_flats c_crowded c_kinds c_first c_second c_pairs c_pairsWith c_voted c_ways_2 c_shcount_3 c_numberOfWay c_list c_fcount c_regions c_left c_open c_frows c_fshift c_fdx c_fdy c_fleastPlace c_fpairs c_foffset c_fplacesFirst c_fplaces) H → va_D A (sW ap ad la fa ra kc c_greys c_remembered c_columns c_rows c_settings c_reached c_order c_merged c_least c_greatest c_role c_head c_tail c_rank c_kindFrom c_kindTo c_side c_across c_down c_count c_flats c_crowded c_kinds c_first c_second c_pairs c_pairsWith c_voted c_ways_2 c_shcount_3 c_numberOfWay c_list c_fcount c_regions c_left c_open c_frows c_fshift c_fdx c_fdy c_fleastPlace c_fpairs c_foffset c_fplacesFirst c_fplaces) → va_S A s.heap H locs → lv_has ls 3 [(0, .ref (ad 13))] → k x2_1 c_ways_2 c_shcount_3 = some (c_ways', c_shcount', c_numberOfWay') → WW p l e (rmq 3 68) s m args below meth c Q H locs 63 ls []) h ?_ ?_
  · intro x2_1 c_ways_2 c_shcount_3 H locs ls hP hD hS hl h
    refine lv_iconst (v := 0) hx hb dX4_choose_63 (by decide) ?_
    refine lv_istore_n (lv' := [(2, .int 0), (0, .ref (ad 13))]) hx hb dX4_choose_64 rfl hl (by decide) rfl (fun ls hl => ?_)
    refine jn_w (t := fun k => f_X4_choose_L65 FU c_ways_2 c_shcount_3 k FU 0 c_numberOfWay) (fun (k : Int32 → (Nat → Int32) → Option ((Nat → Int32) × Int32 × (Nat → Int32))) => ∀ (x2_7 : Int32) (c_numberOfWay_8 : (Nat → Int32)) (H : Heap) (locs : List Loc) (ls : Array Slot), VP G (sW ap ad la fa ra kc c_greys c_remembered c_columns c_rows c_settings c_reached c_order c_merged c_least c_greatest c_role c_head c_tail c_rank c_kindFrom c_kindTo c_side c_across c_down c_count c_flats c_crowded c_kinds c_first c_second c_pairs c_pairsWith c_voted c_ways_2 c_shcount_3 c_numberOfWay_8 c_list c_fcount c_regions c_left c_open c_frows c_fshift c_fdx c_fdy c_fleastPlace c_fpairs c_foffset c_fplacesFirst c_fplaces) H → va_D A (sW ap ad la fa ra kc c_greys c_remembered c_columns c_rows c_settings c_reached c_order c_merged c_least c_greatest c_role c_head c_tail c_rank c_kindFrom c_kindTo c_side c_across c_down c_count c_flats c_crowded c_kinds c_first c_second c_pairs c_pairsWith c_voted c_ways_2 c_shcount_3 c_numberOfWay_8 c_list c_fcount c_regions c_left c_open c_frows c_fshift c_fdx c_fdy c_fleastPlace c_fpairs c_foffset c_fplacesFirst c_fplaces) → va_S A s.heap H locs → lv_has ls 3 [] → k x2_7 c_numberOfWay_8 = some (c_ways', c_shcount', c_numberOfWay') → WW p l e (rmq 3 68) s m args below meth c Q H locs 91 ls []) h ?_ ?_
    · intro x2_7 c_numberOfWay_8 H locs ls hP hD hS hl h
      cases h
      exact ret_v hx hb hr hQ hlocks hK hP hD hS dX4_choose_91
    · intro k_9 K_10 h
      have L_11 : ∀ (n : Nat) (x2_7 : Int32) (c_numberOfWay_8 : (Nat → Int32)) (H : Heap) (locs : List Loc) (ls : Array Slot), VP G (sW ap ad la fa ra kc c_greys c_remembered c_columns c_rows c_settings c_reached c_order c_merged c_least c_greatest c_role c_head c_tail c_rank c_kindFrom c_kindTo c_side c_across c_down c_count c_flats c_crowded c_kinds c_first c_second c_pairs c_pairsWith c_voted c_ways_2 c_shcount_3 c_numberOfWay_8 c_list c_fcount c_regions c_left c_open c_frows c_fshift c_fdx c_fdy c_fleastPlace c_fpairs c_foffset c_fplacesFirst c_fplaces) H → va_D A (sW ap ad la fa ra kc c_greys c_remembered c_columns c_rows c_settings c_reached c_order c_merged c_least c_greatest c_role c_head c_tail c_rank c_kindFrom c_kindTo c_side c_across c_down c_count c_flats c_crowded c_kinds c_first c_second c_pairs c_pairsWith c_voted c_ways_2 c_shcount_3 c_numberOfWay_8 c_list c_fcount c_regions c_left c_open c_frows c_fshift c_fdx c_fdy c_fleastPlace c_fpairs c_foffset c_fplacesFirst c_fplaces) → va_S A s.heap H locs → lv_has ls 3 [(0, .ref (ad 13)), (2, .int x2_7)] → f_X4_choose_L65 FU c_ways_2 c_shcount_3 k_9 n x2_7 c_numberOfWay_8 = some (c_ways', c_shcount', c_numberOfWay') → WW p l e (rmq 3 68) s m args below meth c Q H locs 65 ls [] := by
        intro n
        induction n with
        | zero => intro x2_7 c_numberOfWay_8 H locs ls hP hD hS hl h; rw [f_X4_choose_L65] at h; cases h
        | succ n ih =>
          intro x2_7 c_numberOfWay_8 H locs ls hP hD hS hl h
          rw [f_X4_choose_L65] at h
          refine lv_iload_n hx hb dX4_choose_65 rfl (lv_at hl 1 rfl) ?_
          refine lv_aload_n hx hb dX4_choose_66 rfl (lv_at hl 0 rfl) ?_
          refine r_get S gf_X4_76 hK hP 16 rfl rfl dX4_choose_67 ?_
          refine lv_icmp_ge (tgt := 91) hx hb dX4_choose_70 (by decide) (fun q_14 => ?_) (fun q_14 => ?_)
          · have h := it_t q_14 h
            exact K_10 x2_7 c_numberOfWay_8 _ _ _ hP hD hS (lv_sub hl [] rfl) h
          · have h := it_f q_14 h
            refine lv_aload_n hx hb dX4_choose_73 rfl (lv_at hl 0 rfl) ?_
            refine r_get S gf_X4_27 hK hP 16 rfl rfl dX4_choose_74 ?_
            refine lv_aload_n hx hb dX4_choose_77 rfl (lv_at hl 0 rfl) ?_
            refine r_get S gf_X4_24 hK hP 16 rfl rfl dX4_choose_78 ?_
            refine lv_iload_n hx hb dX4_choose_81 rfl (lv_at hl 1 rfl) ?_
            refine r_iald hx hb hK hP 21 rfl dX4_choose_82 h (fun y_12 h => ?_)
            refine lv_iload_n hx hb dX4_choose_83 rfl (lv_at hl 1 rfl) ?_
            refine r_iast hx hb hK hP hD hS 22 rfl dX4_choose_84 h (fun c_numberOfWay_13 H locs hP hD hS h => ?_)
            have hP : VP G (sW ap ad la fa ra kc c_greys c_remembered c_columns c_rows c_settings c_reached c_order c_merged c_least c_greatest c_role c_head c_tail c_rank c_kindFrom c_kindTo c_side c_across c_down c_count c_flats c_crowded c_kinds c_first c_second c_pairs c_pairsWith c_voted c_ways_2 c_shcount_3 c_numberOfWay_13 c_list c_fcount c_regions c_left c_open c_frows c_fshift c_fdx c_fdy c_fleastPlace c_fpairs c_foffset c_fplacesFirst c_fplaces) H := hP
            have hD : va_D A (sW ap ad la fa ra kc c_greys c_remembered c_columns c_rows c_settings c_reached c_order c_merged c_least c_greatest c_role c_head c_tail c_rank c_kindFrom c_kindTo c_side c_across c_down c_count c_flats c_crowded c_kinds c_first c_second c_pairs c_pairsWith c_voted c_ways_2 c_shcount_3 c_numberOfWay_13 c_list c_fcount c_regions c_left c_open c_frows c_fshift c_fdx c_fdy c_fleastPlace c_fpairs c_foffset c_fplacesFirst c_fplaces) := hD
            refine lv_iinc (v := (x2_7 + 1)) (lv' := [(2, .int (x2_7 + 1)), (0, .ref (ad 13))]) hx hb dX4_choose_85 hl (k := 1) rfl rfl (by decide) rfl (fun ls hl => ?_)
            refine lv_goto (tgt := 65) hx hb dX4_choose_88 (by decide) ?_
            exact ih (x2_7 + 1) c_numberOfWay_13 _ _ _ hP hD hS (lv_sub hl [1, 0] rfl) h
      exact L_11 FU 0 c_numberOfWay _ _ _ hP hD hS (lv_sub hl [1, 0] rfl) h
  · intro k_4 K_5 h
    have L_6 : ∀ (n : Nat) (x2_1 : Int32) (c_ways_2 : (Nat → Int32)) (c_shcount_3 : Int32) (H : Heap) (locs : List Loc) (ls : Array Slot), VP G (sW ap ad la fa ra kc c_greys c_remembered c_columns c_rows c_settings c_reached c_order c_merged c_least c_greatest c_role c_head c_tail c_rank c_kindFrom c_kindTo c_side c_across c_down c_count c_flats c_crowded c_kinds c_first c_second c_pairs c_pairsWith c_voted c_ways_2 c_shcount_3 c_numberOfWay c_list c_fcount c_regions c_left c_open c_frows c_fshift c_fdx c_fdy c_fleastPlace c_fpairs c_foffset c_fplacesFirst c_fplaces) H → va_D A (sW ap ad la fa ra kc c_greys c_remembered c_columns c_rows c_settings c_reached c_order c_merged c_least c_greatest c_role c_head c_tail c_rank c_kindFrom c_kindTo c_side c_across c_down c_count c_flats c_crowded c_kinds c_first c_second c_pairs c_pairsWith c_voted c_ways_2 c_shcount_3 c_numberOfWay c_list c_fcount c_regions c_left c_open c_frows c_fshift c_fdx c_fdy c_fleastPlace c_fpairs c_foffset c_fplacesFirst c_fplaces) → va_S A s.heap H locs → lv_has ls 3 [(0, .ref (ad 13)), (1, .int x1), (2, .int x2_1)] → f_X4_choose_L7 FU x1 c_voted k_4 n x2_1 c_ways_2 c_shcount_3 = some (c_ways', c_shcount', c_numberOfWay') → WW p l e (rmq 3 68) s m args below meth c Q H locs 7 ls [] := by
      intro n
      induction n with
      | zero => intro x2_1 c_ways_2 c_shcount_3 H locs ls hP hD hS hl h; rw [f_X4_choose_L7] at h; cases h
      | succ n ih =>
        intro x2_1 c_ways_2 c_shcount_3 H locs ls hP hD hS hl h
        rw [f_X4_choose_L7] at h
        refine lv_iload_n hx hb dX4_choose_7 rfl (lv_at hl 2 rfl) ?_
        refine lv_sipush (v := 496) hx hb dX4_choose_8 (by decide) ?_
        refine lv_icmp_ge (tgt := 63) hx hb dX4_choose_11 (by decide) (fun q_19 => ?_) (fun q_19 => ?_)
        · have h := it_t q_19 h
          exact K_5 x2_1 c_ways_2 c_shcount_3 _ _ _ hP hD hS (lv_sub hl [0] rfl) h
        · have h := it_f q_19 h
          refine lv_aload_n hx hb dX4_choose_14 rfl (lv_at hl 0 rfl) ?_
          refine r_get S gf_X4_21 hK hP 16 rfl rfl dX4_choose_15 ?_
          refine lv_iload_n hx hb dX4_choose_18 rfl (lv_at hl 2 rfl) ?_
          refine r_iald hx hb hK hP 20 rfl dX4_choose_19 h (fun y_15 h => ?_)
          refine lv_iload_n hx hb dX4_choose_20 rfl (lv_at hl 1 rfl) ?_
          refine lv_icmp_lt (tgt := 57) hx hb dX4_choose_21 (by decide) (fun q_18 => ?_) (fun q_18 => ?_)
          · have h := it_t q_18 h
            refine lv_iinc (v := (x2_1 + 1)) (lv' := [(2, .int (x2_1 + 1)), (0, .ref (ad 13)), (1, .int x1)]) hx hb dX4_choose_57 hl (k := 2) rfl rfl (by decide) rfl (fun ls hl => ?_)
            refine lv_goto (tgt := 7) hx hb dX4_choose_60 (by decide) ?_
            exact ih (x2_1 + 1) c_ways_2 c_shcount_3 _ _ _ hP hD hS (lv_sub hl [1, 2, 0] rfl) h
          · have h := it_f q_18 h
            refine lv_aload_n hx hb dX4_choose_24 rfl (lv_at hl 0 rfl) ?_
            refine r_get S gf_X4_24 hK hP 16 rfl rfl dX4_choose_25 ?_
            refine lv_aload_n hx hb dX4_choose_28 rfl (lv_at hl 0 rfl) ?_
            refine r_get S gf_X4_76 hK hP 16 rfl rfl dX4_choose_29 ?_
            refine lv_iload_n hx hb dX4_choose_32 rfl (lv_at hl 2 rfl) ?_
            refine r_iast hx hb hK hP hD hS 21 rfl dX4_choose_33 h (fun c_ways_16 H locs hP hD hS h => ?_)
            have hP : VP G (sW ap ad la fa ra kc c_greys c_remembered c_columns c_rows c_settings c_reached c_order c_merged c_least c_greatest c_role c_head c_tail c_rank c_kindFrom c_kindTo c_side c_across c_down c_count c_flats c_crowded c_kinds c_first c_second c_pairs c_pairsWith c_voted c_ways_16 c_shcount_3 c_numberOfWay c_list c_fcount c_regions c_left c_open c_frows c_fshift c_fdx c_fdy c_fleastPlace c_fpairs c_foffset c_fplacesFirst c_fplaces) H := hP
            have hD : va_D A (sW ap ad la fa ra kc c_greys c_remembered c_columns c_rows c_settings c_reached c_order c_merged c_least c_greatest c_role c_head c_tail c_rank c_kindFrom c_kindTo c_side c_across c_down c_count c_flats c_crowded c_kinds c_first c_second c_pairs c_pairsWith c_voted c_ways_16 c_shcount_3 c_numberOfWay c_list c_fcount c_regions c_left c_open c_frows c_fshift c_fdx c_fdy c_fleastPlace c_fpairs c_foffset c_fplacesFirst c_fplaces) := hD
            refine lv_aload_n hx hb dX4_choose_34 rfl (lv_at hl 0 rfl) ?_
            refine lv_aload_n hx hb dX4_choose_35 rfl (lv_at hl 0 rfl) ?_
            refine r_get S gf_X4_76 hK hP 16 rfl rfl dX4_choose_36 ?_
            obtain ⟨c_ways_17, hq, h⟩ := bd1_e h
            refine cs_Vv (rest := []) (ci := 3) S hN cb_X4_settle ml_X4_79 ⟨Nat.le_of_ble_eq_true rfl, Nat.le_of_ble_eq_true rfl⟩ (c_X4_settle l G kc ap ad la fa ra c_shcount_3  hq) hK hP hD hS hA 16 rfl rfl rfl rfl rfl (Nat.le_of_ble_eq_true rfl) hl.1 dX4_choose_39 (fun H locs hP hD hS => ?_)
            refine lv_aload_n hx hb dX4_choose_42 rfl (lv_at hl 0 rfl) ?_
            refine lv_aload_n hx hb dX4_choose_43 rfl (lv_at hl 0 rfl) ?_
            refine r_get S gf_X4_76 hK hP 16 rfl rfl dX4_choose_44 ?_
            refine lv_iconst (v := 1) hx hb dX4_choose_47 (by decide) ?_
            refine lv_iadd hx hb dX4_choose_48 ?_
            refine lv_bipush (v := 8) hx hb dX4_choose_49 (by decide) ?_
            refine va_mmin hx hb (S.2.2.1.trans hl.1.symm) S.2.2.2.1 (S.2.2.2.2 _ mm_X4_82) (S.2.2.2.2 _ ms_min) (S.2.2.2.2 _ ms_init) (S.2.2.2.2 _ mc_min) (Nat.le_of_ble_eq_true rfl) (Nat.le_of_ble_eq_true rfl) (Nat.zero_le _) (Nat.zero_le _) dX4_choose_51 ?_
            refine r_put S pf_X4_76 hK hP hD hS 16 rfl (Nat.le_of_ble_eq_true rfl) dX4_choose_54 (fun H locs hP hD hS => ?_)
            have hP : VP G (sW ap ad la fa ra kc c_greys c_remembered c_columns c_rows c_settings c_reached c_order c_merged c_least c_greatest c_role c_head c_tail c_rank c_kindFrom c_kindTo c_side c_across c_down c_count c_flats c_crowded c_kinds c_first c_second c_pairs c_pairsWith c_voted c_ways_17 (if 8 < (c_shcount_3 + 1) then 8 else (c_shcount_3 + 1)) c_numberOfWay c_list c_fcount c_regions c_left c_open c_frows c_fshift c_fdx c_fdy c_fleastPlace c_fpairs c_foffset c_fplacesFirst c_fplaces) H := hP
            have hD : va_D A (sW ap ad la fa ra kc c_greys c_remembered c_columns c_rows c_settings c_reached c_order c_merged c_least c_greatest c_role c_head c_tail c_rank c_kindFrom c_kindTo c_side c_across c_down c_count c_flats c_crowded c_kinds c_first c_second c_pairs c_pairsWith c_voted c_ways_17 (if 8 < (c_shcount_3 + 1) then 8 else (c_shcount_3 + 1)) c_numberOfWay c_list c_fcount c_regions c_left c_open c_frows c_fshift c_fdx c_fdy c_fleastPlace c_fpairs c_foffset c_fplacesFirst c_fplaces) := hD
            refine lv_iinc (v := (x2_1 + 1)) (lv' := [(2, .int (x2_1 + 1)), (0, .ref (ad 13)), (1, .int x1)]) hx hb dX4_choose_57 hl (k := 2) rfl rfl (by decide) rfl (fun ls hl => ?_)
            refine lv_goto (tgt := 7) hx hb dX4_choose_60 (by decide) ?_
            exact ih (x2_1 + 1) c_ways_17 (if 8 < (c_shcount_3 + 1) then 8 else (c_shcount_3 + 1)) _ _ _ hP hD hS (lv_sub hl [1, 2, 0] rfl) h
    exact L_6 FU 0 c_ways 0 _ _ _ hP hD hS (lv_sub hl [1, 2, 0] rfl) h
set_option maxHeartbeats 1000000 in
set_option maxRecDepth 100000 in
theorem c_X4_gather (l : Launch) (G : va_G) (kc : Nat → ClassId) (ap ad la fa ra : Nat → Nat) {c_greys : (Nat → Int32)} {c_remembered : (Nat → Int32)} {c_columns : Int32} {c_rows : Int32} {c_settings : (Nat → Int32)} {c_reached : Int32} {c_order : (Nat → Int32)} {c_merged : (Nat → Int32)} {c_least : (Nat → Int32)} {c_greatest : (Nat → Int32)} {c_role : (Nat → Int32)} {c_head : (Nat → Int64)} {c_tail : (Nat → Int64)} {c_rank : (Nat → Int32)} {c_kindFrom : (Nat → Int32)} {c_kindTo : (Nat → Int32)} {c_side : Int32} {c_across : Int32} {c_down : Int32} {c_count : Int32} {c_flats : Int32} {c_crowded : Int32} {c_kinds : Int32} {c_first : (Nat → Int32)} {c_second : (Nat → Int32)} {c_pairs : Int32} {c_pairsWith : (Nat → Int32)} {c_voted : (Nat → Int32)} {c_ways : (Nat → Int32)} {c_shcount : Int32} {c_numberOfWay : (Nat → Int32)} {c_list : (Nat → Nat)} {c_fcount : Int32} {c_regions : (Nat → Int32)} {c_left : (Nat → Nat → Int32)} {c_open : (Nat → Int32)} {c_frows : (Nat → Nat → Int32)} {c_fshift : (Nat → Int32)} {c_fdx : (Nat → Int32)} {c_fdy : (Nat → Int32)} {c_fleastPlace : (Nat → Int32)} {c_fpairs : (Nat → Int32)} {c_foffset : (Nat → Int32)} {c_fplacesFirst : (Nat → Int32)} {c_fplaces : (Nat → Int32)}  {c_first' : (Nat → Int32)} {c_second' : (Nat → Int32)} {c_pairs' : Int32} {c_pairsWith' : (Nat → Int32)} {c_voted' : (Nat → Int32)} {c_ways' : (Nat → Int32)} {c_shcount' : Int32} {c_numberOfWay' : (Nat → Int32)} {FU : Nat} (h : f_X4_gather FU c_settings c_order c_role c_rank c_kindTo c_across c_down c_first c_second c_pairs c_pairsWith c_voted c_ways c_shcount c_numberOfWay = some (c_first', c_second', c_pairs', c_pairsWith', c_voted', c_ways', c_shcount', c_numberOfWay')) : CTv l G kc yX4_gather cX4_gather 5 none (rmq 4 90) [.ref (ad 13), .ref (ad 2), .ref (ad 1)] (sW ap ad la fa ra kc c_greys c_remembered c_columns c_rows c_settings c_reached c_order c_merged c_least c_greatest c_role c_head c_tail c_rank c_kindFrom c_kindTo c_side c_across c_down c_count c_flats c_crowded c_kinds c_first c_second c_pairs c_pairsWith c_voted c_ways c_shcount c_numberOfWay c_list c_fcount c_regions c_left c_open c_frows c_fshift c_fdx c_fdy c_fleastPlace c_fpairs c_foffset c_fplacesFirst c_fplaces) (sW ap ad la fa ra kc c_greys c_remembered c_columns c_rows c_settings c_reached c_order c_merged c_least c_greatest c_role c_head c_tail c_rank c_kindFrom c_kindTo c_side c_across c_down c_count c_flats c_crowded c_kinds (c_first') (c_second') (c_pairs') (c_pairsWith') (c_voted') (c_ways') (c_shcount') (c_numberOfWay') c_list c_fcount c_regions c_left c_open c_frows c_fshift c_fdx c_fdy c_fleastPlace c_fpairs c_foffset c_fplacesFirst c_fplaces) := by
  refine CTv.mk (by decide) (Nat.le_of_ble_eq_true rfl) ?_
  intro p e s m args below meth c A ls Q hQ S hr hlocks hN hA hK hl hP hD hS
  have hx := S.1
  have hb := S.2.1
  have hl : lv_has ls 5 [(0, .ref (ad 13)), (1, .ref (ad 2)), (2, .ref (ad 1))] := hl
  unfold f_X4_gather at h
  refine lv_aload_n hx hb dX4_gather_0 rfl (lv_at hl 0 rfl) ?_
  refine lv_iconst (v := 0) hx hb dX4_gather_1 (by decide) ?_
  refine r_put S pf_X4_30 hK hP hD hS 16 rfl (Nat.le_of_ble_eq_true rfl) dX4_gather_2 (fun H locs hP hD hS => ?_)
  have hP : VP G (sW ap ad la fa ra kc c_greys c_remembered c_columns c_rows c_settings c_reached c_order c_merged c_least c_greatest c_role c_head c_tail c_rank c_kindFrom c_kindTo c_side c_across c_down c_count c_flats c_crowded c_kinds c_first c_second 0 c_pairsWith c_voted c_ways c_shcount c_numberOfWay c_list c_fcount c_regions c_left c_open c_frows c_fshift c_fdx c_fdy c_fleastPlace c_fpairs c_foffset c_fplacesFirst c_fplaces) H := hP
  have hD : va_D A (sW ap ad la fa ra kc c_greys c_remembered c_columns c_rows c_settings c_reached c_order c_merged c_least c_greatest c_role c_head c_tail c_rank c_kindFrom c_kindTo c_side c_across c_down c_count c_flats c_crowded c_kinds c_first c_second 0 c_pairsWith c_voted c_ways c_shcount c_numberOfWay c_list c_fcount c_regions c_left c_open c_frows c_fshift c_fdx c_fdy c_fleastPlace c_fpairs c_foffset c_fplacesFirst c_fplaces) := hD
  refine lv_iconst (v := 0) hx hb dX4_gather_5 (by decide) ?_
  refine lv_istore_n (lv' := [(3, .int 0), (0, .ref (ad 13)), (1, .ref (ad 2)), (2, .ref (ad 1))]) hx hb dX4_gather_6 rfl hl (by decide) rfl (fun ls hl => ?_)
  refine jn_w (t := fun k => f_X4_gather_L7 FU  k FU 0 c_pairsWith) (fun (k : Int32 → (Nat → Int32) → Option ((Nat → Int32) × (Nat → Int32) × Int32 × (Nat → Int32) × (Nat → Int32) × (Nat → Int32) × Int32 × (Nat → Int32))) => ∀ (x3_1 : Int32) (c_pairsWith_2 : (Nat → Int32)) (H : Heap) (locs : List Loc) (ls : Array Slot), VP G (sW ap ad la fa ra kc c_greys c_remembered c_columns c_rows c_settings c_reached c_order c_merged c_least c_greatest c_role c_head c_tail c_rank c_kindFrom c_kindTo c_side c_across c_down c_count c_flats c_crowded c_kinds c_first c_second 0 c_pairsWith_2 c_voted c_ways c_shcount c_numberOfWay c_list c_fcount c_regions c_left c_open c_frows c_fshift c_fdx c_fdy c_fleastPlace c_fpairs c_foffset c_fplacesFirst c_fplaces) H → va_D A (sW ap ad la fa ra kc c_greys c_remembered c_columns c_rows c_settings c_reached c_order c_merged c_least c_greatest c_role c_head c_tail c_rank c_kindFrom c_kindTo c_side c_across c_down c_count c_flats c_crowded c_kinds c_first c_second 0 c_pairsWith_2 c_voted c_ways c_shcount c_numberOfWay c_list c_fcount c_regions c_left c_open c_frows c_fshift c_fdx c_fdy c_fleastPlace c_fpairs c_foffset c_fplacesFirst c_fplaces) → va_S A s.heap H locs → lv_has ls 5 [(0, .ref (ad 13)), (1, .ref (ad 2)), (2, .ref (ad 1))] → k x3_1 c_pairsWith_2 = some (c_first', c_second', c_pairs', c_pairsWith', c_voted', c_ways', c_shcount', c_numberOfWay') → WW p l e (rmq 4 90) s m args below meth c Q H locs 27 ls []) h ?_ ?_
  · intro x3_1 c_pairsWith_2 H locs ls hP hD hS hl h
    refine lv_iconst (v := 0) hx hb dX4_gather_27 (by decide) ?_
    refine lv_istore_n (lv' := [(3, .int 0), (0, .ref (ad 13)), (1, .ref (ad 2)), (2, .ref (ad 1))]) hx hb dX4_gather_28 rfl hl (by decide) rfl (fun ls hl => ?_)
    refine jn_w (t := fun k => f_X4_gather_L29 FU  k FU 0 c_voted c_numberOfWay) (fun (k : Int32 → (Nat → Int32) → (Nat → Int32) → Option ((Nat → Int32) × (Nat → Int32) × Int32 × (Nat → Int32) × (Nat → Int32) × (Nat → Int32) × Int32 × (Nat → Int32))) => ∀ (x3_6 : Int32) (c_voted_7 : (Nat → Int32)) (c_numberOfWay_8 : (Nat → Int32)) (H : Heap) (locs : List Loc) (ls : Array Slot), VP G (sW ap ad la fa ra kc c_greys c_remembered c_columns c_rows c_settings c_reached c_order c_merged c_least c_greatest c_role c_head c_tail c_rank c_kindFrom c_kindTo c_side c_across c_down c_count c_flats c_crowded c_kinds c_first c_second 0 c_pairsWith_2 c_voted_7 c_ways c_shcount c_numberOfWay_8 c_list c_fcount c_regions c_left c_open c_frows c_fshift c_fdx c_fdy c_fleastPlace c_fpairs c_foffset c_fplacesFirst c_fplaces) H → va_D A (sW ap ad la fa ra kc c_greys c_remembered c_columns c_rows c_settings c_reached c_order c_merged c_least c_greatest c_role c_head c_tail c_rank c_kindFrom c_kindTo c_side c_across c_down c_count c_flats c_crowded c_kinds c_first c_second 0 c_pairsWith_2 c_voted_7 c_ways c_shcount c_numberOfWay_8 c_list c_fcount c_regions c_left c_open c_frows c_fshift c_fdx c_fdy c_fleastPlace c_fpairs c_foffset c_fplacesFirst c_fplaces) → va_S A s.heap H locs → lv_has ls 5 [(0, .ref (ad 13)), (1, .ref (ad 2)), (2, .ref (ad 1))] → k x3_6 c_voted_7 c_numberOfWay_8 = some (c_first', c_second', c_pairs', c_pairsWith', c_voted', c_ways', c_shcount', c_numberOfWay') → WW p l e (rmq 4 90) s m args below meth c Q H locs 57 ls []) h ?_ ?_
    · intro x3_6 c_voted_7 c_numberOfWay_8 H locs ls hP hD hS hl h
      refine lv_iconst (v := 0) hx hb dX4_gather_57 (by decide) ?_
      refine lv_istore_n (lv' := [(3, .int 0), (0, .ref (ad 13)), (1, .ref (ad 2)), (2, .ref (ad 1))]) hx hb dX4_gather_58 rfl hl (by decide) rfl (fun ls hl => ?_)
      refine jn_w (t := fun k => f_X4_gather_L59 FU c_settings c_order c_role c_rank c_kindTo c_across c_down k FU 0 c_first c_second 0 c_pairsWith_2 c_voted_7) (fun (k : Int32 → (Nat → Int32) → (Nat → Int32) → Int32 → (Nat → Int32) → (Nat → Int32) → Option ((Nat → Int32) × (Nat → Int32) × Int32 × (Nat → Int32) × (Nat → Int32) × (Nat → Int32) × Int32 × (Nat → Int32))) => ∀ (x3_12 : Int32) (c_first_13 : (Nat → Int32)) (c_second_14 : (Nat → Int32)) (c_pairs_15 : Int32) (c_pairsWith_16 : (Nat → Int32)) (c_voted_17 : (Nat → Int32)) (H : Heap) (locs : List Loc) (ls : Array Slot), VP G (sW ap ad la fa ra kc c_greys c_remembered c_columns c_rows c_settings c_reached c_order c_merged c_least c_greatest c_role c_head c_tail c_rank c_kindFrom c_kindTo c_side c_across c_down c_count c_flats c_crowded c_kinds c_first_13 c_second_14 c_pairs_15 c_pairsWith_16 c_voted_17 c_ways c_shcount c_numberOfWay_8 c_list c_fcount c_regions c_left c_open c_frows c_fshift c_fdx c_fdy c_fleastPlace c_fpairs c_foffset c_fplacesFirst c_fplaces) H → va_D A (sW ap ad la fa ra kc c_greys c_remembered c_columns c_rows c_settings c_reached c_order c_merged c_least c_greatest c_role c_head c_tail c_rank c_kindFrom c_kindTo c_side c_across c_down c_count c_flats c_crowded c_kinds c_first_13 c_second_14 c_pairs_15 c_pairsWith_16 c_voted_17 c_ways c_shcount c_numberOfWay_8 c_list c_fcount c_regions c_left c_open c_frows c_fshift c_fdx c_fdy c_fleastPlace c_fpairs c_foffset c_fplacesFirst c_fplaces) → va_S A s.heap H locs → lv_has ls 5 [(0, .ref (ad 13)), (2, .ref (ad 1))] → k x3_12 c_first_13 c_second_14 c_pairs_15 c_pairsWith_16 c_voted_17 = some (c_first', c_second', c_pairs', c_pairsWith', c_voted', c_ways', c_shcount', c_numberOfWay') → WW p l e (rmq 4 90) s m args below meth c Q H locs 106 ls []) h ?_ ?_
      · intro x3_12 c_first_13 c_second_14 c_pairs_15 c_pairsWith_16 c_voted_17 H locs ls hP hD hS hl h
        refine lv_aload_n hx hb dX4_gather_106 rfl (lv_at hl 0 rfl) ?_
        refine lv_aload_n hx hb dX4_gather_107 rfl (lv_at hl 1 rfl) ?_
        refine lv_bipush (v := 6) hx hb dX4_gather_108 (by decide) ?_
        refine r_iald hx hb hK hP 4 rfl dX4_gather_110 h (fun y_21 h => ?_)
        obtain ⟨c_ways_22, c_shcount_23, c_numberOfWay_24, hq, h⟩ := bd3_e h
        refine cs_Vv (rest := []) (ci := 3) S hN cb_X4_choose ml_X4_46 ⟨Nat.le_of_ble_eq_true rfl, Nat.le_of_ble_eq_true rfl⟩ (c_X4_choose l G kc ap ad la fa ra y_21  hq) hK hP hD hS hA 16 rfl rfl rfl rfl rfl (Nat.le_of_ble_eq_true rfl) hl.1 dX4_gather_111 (fun H locs hP hD hS => ?_)
        cases h
        exact ret_v hx hb hr hQ hlocks hK hP hD hS dX4_gather_114
      · intro k_18 K_19 h
        have L_20 : ∀ (n : Nat) (x3_12 : Int32) (c_first_13 : (Nat → Int32)) (c_second_14 : (Nat → Int32)) (c_pairs_15 : Int32) (c_pairsWith_16 : (Nat → Int32)) (c_voted_17 : (Nat → Int32)) (H : Heap) (locs : List Loc) (ls : Array Slot), VP G (sW ap ad la fa ra kc c_greys c_remembered c_columns c_rows c_settings c_reached c_order c_merged c_least c_greatest c_role c_head c_tail c_rank c_kindFrom c_kindTo c_side c_across c_down c_count c_flats c_crowded c_kinds c_first_13 c_second_14 c_pairs_15 c_pairsWith_16 c_voted_17 c_ways c_shcount c_numberOfWay_8 c_list c_fcount c_regions c_left c_open c_frows c_fshift c_fdx c_fdy c_fleastPlace c_fpairs c_foffset c_fplacesFirst c_fplaces) H → va_D A (sW ap ad la fa ra kc c_greys c_remembered c_columns c_rows c_settings c_reached c_order c_merged c_least c_greatest c_role c_head c_tail c_rank c_kindFrom c_kindTo c_side c_across c_down c_count c_flats c_crowded c_kinds c_first_13 c_second_14 c_pairs_15 c_pairsWith_16 c_voted_17 c_ways c_shcount c_numberOfWay_8 c_list c_fcount c_regions c_left c_open c_frows c_fshift c_fdx c_fdy c_fleastPlace c_fpairs c_foffset c_fplacesFirst c_fplaces) → va_S A s.heap H locs → lv_has ls 5 [(0, .ref (ad 13)), (1, .ref (ad 2)), (2, .ref (ad 1)), (3, .int x3_12)] → f_X4_gather_L59 FU c_settings c_order c_role c_rank c_kindTo c_across c_down k_18 n x3_12 c_first_13 c_second_14 c_pairs_15 c_pairsWith_16 c_voted_17 = some (c_first', c_second', c_pairs', c_pairsWith', c_voted', c_ways', c_shcount', c_numberOfWay') → WW p l e (rmq 4 90) s m args below meth c Q H locs 59 ls [] := by
          intro n
          induction n with
          | zero => intro x3_12 c_first_13 c_second_14 c_pairs_15 c_pairsWith_16 c_voted_17 H locs ls hP hD hS hl h; rw [f_X4_gather_L59] at h; cases h
          | succ n ih =>
            intro x3_12 c_first_13 c_second_14 c_pairs_15 c_pairsWith_16 c_voted_17 H locs ls hP hD hS hl h
            rw [f_X4_gather_L59] at h
            refine lv_iload_n hx hb dX4_gather_59 rfl (lv_at hl 3 rfl) ?_
            refine lv_aload_n hx hb dX4_gather_60 rfl (lv_at hl 1 rfl) ?_
            refine r_get S gf_X4_34 hK hP 5 rfl rfl dX4_gather_61 ?_
            refine lv_icmp_ge (tgt := 106) hx hb dX4_gather_64 (by decide) (fun q_41 => ?_) (fun q_41 => ?_)
            · have h := it_t q_41 h
              exact K_19 x3_12 c_first_13 c_second_14 c_pairs_15 c_pairsWith_16 c_voted_17 _ _ _ hP hD hS (lv_sub hl [0, 2] rfl) h
            · have h := it_f q_41 h
              refine lv_iconst (v := 0) hx hb dX4_gather_67 (by decide) ?_
              refine lv_istore (lv' := [(4, .int 0), (0, .ref (ad 13)), (1, .ref (ad 2)), (2, .ref (ad 1)), (3, .int x3_12)]) hx hb dX4_gather_68 hl (by decide) rfl (fun ls hl => ?_)
              refine jn_w (t := fun k => f_X4_gather_L70 FU x3_12 c_settings c_order c_role c_rank c_kindTo c_across k FU 0 c_first_13 c_second_14 c_pairs_15 c_pairsWith_16 c_voted_17) (fun (k : Int32 → (Nat → Int32) → (Nat → Int32) → Int32 → (Nat → Int32) → (Nat → Int32) → Option ((Nat → Int32) × (Nat → Int32) × Int32 × (Nat → Int32) × (Nat → Int32) × (Nat → Int32) × Int32 × (Nat → Int32))) => ∀ (x4_25 : Int32) (c_first_26 : (Nat → Int32)) (c_second_27 : (Nat → Int32)) (c_pairs_28 : Int32) (c_pairsWith_29 : (Nat → Int32)) (c_voted_30 : (Nat → Int32)) (H : Heap) (locs : List Loc) (ls : Array Slot), VP G (sW ap ad la fa ra kc c_greys c_remembered c_columns c_rows c_settings c_reached c_order c_merged c_least c_greatest c_role c_head c_tail c_rank c_kindFrom c_kindTo c_side c_across c_down c_count c_flats c_crowded c_kinds c_first_26 c_second_27 c_pairs_28 c_pairsWith_29 c_voted_30 c_ways c_shcount c_numberOfWay_8 c_list c_fcount c_regions c_left c_open c_frows c_fshift c_fdx c_fdy c_fleastPlace c_fpairs c_foffset c_fplacesFirst c_fplaces) H → va_D A (sW ap ad la fa ra kc c_greys c_remembered c_columns c_rows c_settings c_reached c_order c_merged c_least c_greatest c_role c_head c_tail c_rank c_kindFrom c_kindTo c_side c_across c_down c_count c_flats c_crowded c_kinds c_first_26 c_second_27 c_pairs_28 c_pairsWith_29 c_voted_30 c_ways c_shcount c_numberOfWay_8 c_list c_fcount c_regions c_left c_open c_frows c_fshift c_fdx c_fdy c_fleastPlace c_fpairs c_foffset c_fplacesFirst c_fplaces) → va_S A s.heap H locs → lv_has ls 5 [(0, .ref (ad 13)), (1, .ref (ad 2)), (2, .ref (ad 1)), (3, .int x3_12)] → k x4_25 c_first_26 c_second_27 c_pairs_28 c_pairsWith_29 c_voted_30 = some (c_first', c_second', c_pairs', c_pairsWith', c_voted', c_ways', c_shcount', c_numberOfWay') → WW p l e (rmq 4 90) s m args below meth c Q H locs 100 ls []) h ?_ ?_
              · intro x4_25 c_first_26 c_second_27 c_pairs_28 c_pairsWith_29 c_voted_30 H locs ls hP hD hS hl h
                refine lv_iinc (v := (x3_12 + 1)) (lv' := [(3, .int (x3_12 + 1)), (0, .ref (ad 13)), (1, .ref (ad 2)), (2, .ref (ad 1))]) hx hb dX4_gather_100 hl (k := 3) rfl rfl (by decide) rfl (fun ls hl => ?_)
                refine lv_goto (tgt := 59) hx hb dX4_gather_103 (by decide) ?_
                exact ih (x3_12 + 1) c_first_26 c_second_27 c_pairs_28 c_pairsWith_29 c_voted_30 _ _ _ hP hD hS (lv_sub hl [1, 2, 3, 0] rfl) h
              · intro k_31 K_32 h
                have L_33 : ∀ (n : Nat) (x4_25 : Int32) (c_first_26 : (Nat → Int32)) (c_second_27 : (Nat → Int32)) (c_pairs_28 : Int32) (c_pairsWith_29 : (Nat → Int32)) (c_voted_30 : (Nat → Int32)) (H : Heap) (locs : List Loc) (ls : Array Slot), VP G (sW ap ad la fa ra kc c_greys c_remembered c_columns c_rows c_settings c_reached c_order c_merged c_least c_greatest c_role c_head c_tail c_rank c_kindFrom c_kindTo c_side c_across c_down c_count c_flats c_crowded c_kinds c_first_26 c_second_27 c_pairs_28 c_pairsWith_29 c_voted_30 c_ways c_shcount c_numberOfWay_8 c_list c_fcount c_regions c_left c_open c_frows c_fshift c_fdx c_fdy c_fleastPlace c_fpairs c_foffset c_fplacesFirst c_fplaces) H → va_D A (sW ap ad la fa ra kc c_greys c_remembered c_columns c_rows c_settings c_reached c_order c_merged c_least c_greatest c_role c_head c_tail c_rank c_kindFrom c_kindTo c_side c_across c_down c_count c_flats c_crowded c_kinds c_first_26 c_second_27 c_pairs_28 c_pairsWith_29 c_voted_30 c_ways c_shcount c_numberOfWay_8 c_list c_fcount c_regions c_left c_open c_frows c_fshift c_fdx c_fdy c_fleastPlace c_fpairs c_foffset c_fplacesFirst c_fplaces) → va_S A s.heap H locs → lv_has ls 5 [(0, .ref (ad 13)), (1, .ref (ad 2)), (2, .ref (ad 1)), (3, .int x3_12), (4, .int x4_25)] → f_X4_gather_L70 FU x3_12 c_settings c_order c_role c_rank c_kindTo c_across k_31 n x4_25 c_first_26 c_second_27 c_pairs_28 c_pairsWith_29 c_voted_30 = some (c_first', c_second', c_pairs', c_pairsWith', c_voted', c_ways', c_shcount', c_numberOfWay') → WW p l e (rmq 4 90) s m args below meth c Q H locs 70 ls [] := by
                  intro n
                  induction n with
                  | zero => intro x4_25 c_first_26 c_second_27 c_pairs_28 c_pairsWith_29 c_voted_30 H locs ls hP hD hS hl h; rw [f_X4_gather_L70] at h; cases h
                  | succ n ih =>
                    intro x4_25 c_first_26 c_second_27 c_pairs_28 c_pairsWith_29 c_voted_30 H locs ls hP hD hS hl h
                    rw [f_X4_gather_L70] at h
                    refine lv_iload hx hb dX4_gather_70 (lv_at hl 4 rfl) ?_
                    refine lv_aload_n hx hb dX4_gather_72 rfl (lv_at hl 1 rfl) ?_
                    refine r_get S gf_X4_39 hK hP 5 rfl rfl dX4_gather_73 ?_
                    refine lv_icmp_ge (tgt := 100) hx hb dX4_gather_76 (by decide) (fun q_40 => ?_) (fun q_40 => ?_)
                    · have h := it_t q_40 h
                      exact K_32 x4_25 c_first_26 c_second_27 c_pairs_28 c_pairsWith_29 c_voted_30 _ _ _ hP hD hS (lv_sub hl [0, 1, 2, 3] rfl) h
                    · have h := it_f q_40 h
                      refine lv_aload_n hx hb dX4_gather_79 rfl (lv_at hl 0 rfl) ?_
                      refine lv_aload_n hx hb dX4_gather_80 rfl (lv_at hl 1 rfl) ?_
                      refine lv_bipush (v := 16) hx hb dX4_gather_81 (by decide) ?_
                      refine lv_iload_n hx hb dX4_gather_83 rfl (lv_at hl 3 rfl) ?_
                      refine lv_imul hx hb dX4_gather_84 ?_
                      refine lv_iload hx hb dX4_gather_85 (lv_at hl 4 rfl) ?_
                      refine lv_iadd hx hb dX4_gather_87 ?_
                      refine lv_aload_n hx hb dX4_gather_88 rfl (lv_at hl 2 rfl) ?_
                      refine lv_iconst (v := 4) hx hb dX4_gather_89 (by decide) ?_
                      refine r_iald hx hb hK hP 4 rfl dX4_gather_90 h (fun y_34 h => ?_)
                      obtain ⟨c_first_35, c_second_36, c_pairs_37, c_pairsWith_38, c_voted_39, hq, h⟩ := bd5_e h
                      refine cs_Vv (rest := []) (ci := 3) S hN cb_X4_pairUp ml_X4_42 ⟨Nat.le_of_ble_eq_true rfl, Nat.le_of_ble_eq_true rfl⟩ (c_X4_pairUp l G kc ap ad la fa ra ((16 * x3_12) + x4_25) y_34  hq) hK hP hD hS hA 16 rfl rfl rfl rfl rfl (Nat.le_of_ble_eq_true rfl) hl.1 dX4_gather_91 (fun H locs hP hD hS => ?_)
                      refine lv_iinc (v := (x4_25 + 1)) (lv' := [(4, .int (x4_25 + 1)), (0, .ref (ad 13)), (1, .ref (ad 2)), (2, .ref (ad 1)), (3, .int x3_12)]) hx hb dX4_gather_94 hl (k := 4) rfl rfl (by decide) rfl (fun ls hl => ?_)
                      refine lv_goto (tgt := 70) hx hb dX4_gather_97 (by decide) ?_
                      exact ih (x4_25 + 1) c_first_35 c_second_36 c_pairs_37 c_pairsWith_38 c_voted_39 _ _ _ hP hD hS (lv_sub hl [1, 2, 3, 4, 0] rfl) h
                exact L_33 FU 0 c_first_13 c_second_14 c_pairs_15 c_pairsWith_16 c_voted_17 _ _ _ hP hD hS (lv_sub hl [1, 2, 3, 4, 0] rfl) h
        exact L_20 FU 0 c_first c_second 0 c_pairsWith_2 c_voted_7 _ _ _ hP hD hS (lv_sub hl [1, 2, 3, 0] rfl) h
    · intro k_9 K_10 h
      have L_11 : ∀ (n : Nat) (x3_6 : Int32) (c_voted_7 : (Nat → Int32)) (c_numberOfWay_8 : (Nat → Int32)) (H : Heap) (locs : List Loc) (ls : Array Slot), VP G (sW ap ad la fa ra kc c_greys c_remembered c_columns c_rows c_settings c_reached c_order c_merged c_least c_greatest c_role c_head c_tail c_rank c_kindFrom c_kindTo c_side c_across c_down c_count c_flats c_crowded c_kinds c_first c_second 0 c_pairsWith_2 c_voted_7 c_ways c_shcount c_numberOfWay_8 c_list c_fcount c_regions c_left c_open c_frows c_fshift c_fdx c_fdy c_fleastPlace c_fpairs c_foffset c_fplacesFirst c_fplaces) H → va_D A (sW ap ad la fa ra kc c_greys c_remembered c_columns c_rows c_settings c_reached c_order c_merged c_least c_greatest c_role c_head c_tail c_rank c_kindFrom c_kindTo c_side c_across c_down c_count c_flats c_crowded c_kinds c_first c_second 0 c_pairsWith_2 c_voted_7 c_ways c_shcount c_numberOfWay_8 c_list c_fcount c_regions c_left c_open c_frows c_fshift c_fdx c_fdy c_fleastPlace c_fpairs c_foffset c_fplacesFirst c_fplaces) → va_S A s.heap H locs → lv_has ls 5 [(0, .ref (ad 13)), (1, .ref (ad 2)), (2, .ref (ad 1)), (3, .int x3_6)] → f_X4_gather_L29 FU  k_9 n x3_6 c_voted_7 c_numberOfWay_8 = some (c_first', c_second', c_pairs', c_pairsWith', c_voted', c_ways', c_shcount', c_numberOfWay') → WW p l e (rmq 4 90) s m args below meth c Q H locs 29 ls [] := by
        intro n
        induction n with
        | zero => intro x3_6 c_voted_7 c_numberOfWay_8 H locs ls hP hD hS hl h; rw [f_X4_gather_L29] at h; cases h
        | succ n ih =>
          intro x3_6 c_voted_7 c_numberOfWay_8 H locs ls hP hD hS hl h
          rw [f_X4_gather_L29] at h
          refine lv_iload_n hx hb dX4_gather_29 rfl (lv_at hl 3 rfl) ?_
          refine lv_sipush (v := 496) hx hb dX4_gather_30 (by decide) ?_
          refine lv_icmp_ge (tgt := 57) hx hb dX4_gather_33 (by decide) (fun q_44 => ?_) (fun q_44 => ?_)
          · have h := it_t q_44 h
            exact K_10 x3_6 c_voted_7 c_numberOfWay_8 _ _ _ hP hD hS (lv_sub hl [0, 1, 2] rfl) h
          · have h := it_f q_44 h
            refine lv_aload_n hx hb dX4_gather_36 rfl (lv_at hl 0 rfl) ?_
            refine r_get S gf_X4_21 hK hP 16 rfl rfl dX4_gather_37 ?_
            refine lv_iload_n hx hb dX4_gather_40 rfl (lv_at hl 3 rfl) ?_
            refine lv_iconst (v := 0) hx hb dX4_gather_41 (by decide) ?_
            refine r_iast hx hb hK hP hD hS 20 rfl dX4_gather_42 h (fun c_voted_42 H locs hP hD hS h => ?_)
            have hP : VP G (sW ap ad la fa ra kc c_greys c_remembered c_columns c_rows c_settings c_reached c_order c_merged c_least c_greatest c_role c_head c_tail c_rank c_kindFrom c_kindTo c_side c_across c_down c_count c_flats c_crowded c_kinds c_first c_second 0 c_pairsWith_2 c_voted_42 c_ways c_shcount c_numberOfWay_8 c_list c_fcount c_regions c_left c_open c_frows c_fshift c_fdx c_fdy c_fleastPlace c_fpairs c_foffset c_fplacesFirst c_fplaces) H := hP
            have hD : va_D A (sW ap ad la fa ra kc c_greys c_remembered c_columns c_rows c_settings c_reached c_order c_merged c_least c_greatest c_role c_head c_tail c_rank c_kindFrom c_kindTo c_side c_across c_down c_count c_flats c_crowded c_kinds c_first c_second 0 c_pairsWith_2 c_voted_42 c_ways c_shcount c_numberOfWay_8 c_list c_fcount c_regions c_left c_open c_frows c_fshift c_fdx c_fdy c_fleastPlace c_fpairs c_foffset c_fplacesFirst c_fplaces) := hD
            refine lv_aload_n hx hb dX4_gather_43 rfl (lv_at hl 0 rfl) ?_
            refine r_get S gf_X4_27 hK hP 16 rfl rfl dX4_gather_44 ?_
            refine lv_iload_n hx hb dX4_gather_47 rfl (lv_at hl 3 rfl) ?_
            refine lv_bipush (v := (-9)) hx hb dX4_gather_48 (by decide) ?_
            refine r_iast hx hb hK hP hD hS 22 rfl dX4_gather_50 h (fun c_numberOfWay_43 H locs hP hD hS h => ?_)
            have hP : VP G (sW ap ad la fa ra kc c_greys c_remembered c_columns c_rows c_settings c_reached c_order c_merged c_least c_greatest c_role c_head c_tail c_rank c_kindFrom c_kindTo c_side c_across c_down c_count c_flats c_crowded c_kinds c_first c_second 0 c_pairsWith_2 c_voted_42 c_ways c_shcount c_numberOfWay_43 c_list c_fcount c_regions c_left c_open c_frows c_fshift c_fdx c_fdy c_fleastPlace c_fpairs c_foffset c_fplacesFirst c_fplaces) H := hP
            have hD : va_D A (sW ap ad la fa ra kc c_greys c_remembered c_columns c_rows c_settings c_reached c_order c_merged c_least c_greatest c_role c_head c_tail c_rank c_kindFrom c_kindTo c_side c_across c_down c_count c_flats c_crowded c_kinds c_first c_second 0 c_pairsWith_2 c_voted_42 c_ways c_shcount c_numberOfWay_43 c_list c_fcount c_regions c_left c_open c_frows c_fshift c_fdx c_fdy c_fleastPlace c_fpairs c_foffset c_fplacesFirst c_fplaces) := hD
            refine lv_iinc (v := (x3_6 + 1)) (lv' := [(3, .int (x3_6 + 1)), (0, .ref (ad 13)), (1, .ref (ad 2)), (2, .ref (ad 1))]) hx hb dX4_gather_51 hl (k := 3) rfl rfl (by decide) rfl (fun ls hl => ?_)
            refine lv_goto (tgt := 29) hx hb dX4_gather_54 (by decide) ?_
            exact ih (x3_6 + 1) c_voted_42 c_numberOfWay_43 _ _ _ hP hD hS (lv_sub hl [1, 2, 3, 0] rfl) h
      exact L_11 FU 0 c_voted c_numberOfWay _ _ _ hP hD hS (lv_sub hl [1, 2, 3, 0] rfl) h
  · intro k_3 K_4 h
    have L_5 : ∀ (n : Nat) (x3_1 : Int32) (c_pairsWith_2 : (Nat → Int32)) (H : Heap) (locs : List Loc) (ls : Array Slot), VP G (sW ap ad la fa ra kc c_greys c_remembered c_columns c_rows c_settings c_reached c_order c_merged c_least c_greatest c_role c_head c_tail c_rank c_kindFrom c_kindTo c_side c_across c_down c_count c_flats c_crowded c_kinds c_first c_second 0 c_pairsWith_2 c_voted c_ways c_shcount c_numberOfWay c_list c_fcount c_regions c_left c_open c_frows c_fshift c_fdx c_fdy c_fleastPlace c_fpairs c_foffset c_fplacesFirst c_fplaces) H → va_D A (sW ap ad la fa ra kc c_greys c_remembered c_columns c_rows c_settings c_reached c_order c_merged c_least c_greatest c_role c_head c_tail c_rank c_kindFrom c_kindTo c_side c_across c_down c_count c_flats c_crowded c_kinds c_first c_second 0 c_pairsWith_2 c_voted c_ways c_shcount c_numberOfWay c_list c_fcount c_regions c_left c_open c_frows c_fshift c_fdx c_fdy c_fleastPlace c_fpairs c_foffset c_fplacesFirst c_fplaces) → va_S A s.heap H locs → lv_has ls 5 [(0, .ref (ad 13)), (1, .ref (ad 2)), (2, .ref (ad 1)), (3, .int x3_1)] → f_X4_gather_L7 FU  k_3 n x3_1 c_pairsWith_2 = some (c_first', c_second', c_pairs', c_pairsWith', c_voted', c_ways', c_shcount', c_numberOfWay') → WW p l e (rmq 4 90) s m args below meth c Q H locs 7 ls [] := by
      intro n
      induction n with
      | zero => intro x3_1 c_pairsWith_2 H locs ls hP hD hS hl h; rw [f_X4_gather_L7] at h; cases h
      | succ n ih =>
        intro x3_1 c_pairsWith_2 H locs ls hP hD hS hl h
        rw [f_X4_gather_L7] at h
        refine lv_iload_n hx hb dX4_gather_7 rfl (lv_at hl 3 rfl) ?_
        refine lv_sipush (v := 256) hx hb dX4_gather_8 (by decide) ?_
        refine lv_icmp_ge (tgt := 27) hx hb dX4_gather_11 (by decide) (fun q_46 => ?_) (fun q_46 => ?_)
        · have h := it_t q_46 h
          exact K_4 x3_1 c_pairsWith_2 _ _ _ hP hD hS (lv_sub hl [0, 1, 2] rfl) h
        · have h := it_f q_46 h
          refine lv_aload_n hx hb dX4_gather_14 rfl (lv_at hl 0 rfl) ?_
          refine r_get S gf_X4_18 hK hP 16 rfl rfl dX4_gather_15 ?_
          refine lv_iload_n hx hb dX4_gather_18 rfl (lv_at hl 3 rfl) ?_
          refine lv_iconst (v := 0) hx hb dX4_gather_19 (by decide) ?_
          refine r_iast hx hb hK hP hD hS 19 rfl dX4_gather_20 h (fun c_pairsWith_45 H locs hP hD hS h => ?_)
          have hP : VP G (sW ap ad la fa ra kc c_greys c_remembered c_columns c_rows c_settings c_reached c_order c_merged c_least c_greatest c_role c_head c_tail c_rank c_kindFrom c_kindTo c_side c_across c_down c_count c_flats c_crowded c_kinds c_first c_second 0 c_pairsWith_45 c_voted c_ways c_shcount c_numberOfWay c_list c_fcount c_regions c_left c_open c_frows c_fshift c_fdx c_fdy c_fleastPlace c_fpairs c_foffset c_fplacesFirst c_fplaces) H := hP
          have hD : va_D A (sW ap ad la fa ra kc c_greys c_remembered c_columns c_rows c_settings c_reached c_order c_merged c_least c_greatest c_role c_head c_tail c_rank c_kindFrom c_kindTo c_side c_across c_down c_count c_flats c_crowded c_kinds c_first c_second 0 c_pairsWith_45 c_voted c_ways c_shcount c_numberOfWay c_list c_fcount c_regions c_left c_open c_frows c_fshift c_fdx c_fdy c_fleastPlace c_fpairs c_foffset c_fplacesFirst c_fplaces) := hD
          refine lv_iinc (v := (x3_1 + 1)) (lv' := [(3, .int (x3_1 + 1)), (0, .ref (ad 13)), (1, .ref (ad 2)), (2, .ref (ad 1))]) hx hb dX4_gather_21 hl (k := 3) rfl rfl (by decide) rfl (fun ls hl => ?_)
          refine lv_goto (tgt := 7) hx hb dX4_gather_24 (by decide) ?_
          exact ih (x3_1 + 1) c_pairsWith_45 _ _ _ hP hD hS (lv_sub hl [1, 2, 3, 0] rfl) h
    exact L_5 FU 0 c_pairsWith _ _ _ hP hD hS (lv_sub hl [1, 2, 3, 0] rfl) h
set_option maxHeartbeats 1000000 in
set_option maxRecDepth 100000 in
theorem c_X5_has (l : Launch) (G : va_G) (kc : Nat → ClassId) (ap ad la fa ra : Nat → Nat) {c_greys : (Nat → Int32)} {c_remembered : (Nat → Int32)} {c_columns : Int32} {c_rows : Int32} {c_settings : (Nat → Int32)} {c_reached : Int32} {c_order : (Nat → Int32)} {c_merged : (Nat → Int32)} {c_least : (Nat → Int32)} {c_greatest : (Nat → Int32)} {c_role : (Nat → Int32)} {c_head : (Nat → Int64)} {c_tail : (Nat → Int64)} {c_rank : (Nat → Int32)} {c_kindFrom : (Nat → Int32)} {c_kindTo : (Nat → Int32)} {c_side : Int32} {c_across : Int32} {c_down : Int32} {c_count : Int32} {c_flats : Int32} {c_crowded : Int32} {c_kinds : Int32} {c_first : (Nat → Int32)} {c_second : (Nat → Int32)} {c_pairs : Int32} {c_pairsWith : (Nat → Int32)} {c_voted : (Nat → Int32)} {c_ways : (Nat → Int32)} {c_shcount : Int32} {c_numberOfWay : (Nat → Int32)} {c_list : (Nat → Nat)} {c_fcount : Int32} {c_regions : (Nat → Int32)} {c_left : (Nat → Nat → Int32)} {c_open : (Nat → Int32)} {c_frows : (Nat → Nat → Int32)} {c_fshift : (Nat → Int32)} {c_fdx : (Nat → Int32)} {c_fdy : (Nat → Int32)} {c_fleastPlace : (Nat → Int32)} {c_fpairs : (Nat → Int32)} {c_foffset : (Nat → Int32)} {c_fplacesFirst : (Nat → Int32)} {c_fplaces : (Nat → Int32)} (x1 : Int32) (x2 : Int32) {r : Int32} {FU : Nat} (h : f_X5_has FU c_across c_down x1 x2 = some r) : CTi l G kc yX5_has cX5_has 3 (some .boolean) (rmq 0 0) [.ref (ad 2), .int x1, .int x2] (sW ap ad la fa ra kc c_greys c_remembered c_columns c_rows c_settings c_reached c_order c_merged c_least c_greatest c_role c_head c_tail c_rank c_kindFrom c_kindTo c_side c_across c_down c_count c_flats c_crowded c_kinds c_first c_second c_pairs c_pairsWith c_voted c_ways c_shcount c_numberOfWay c_list c_fcount c_regions c_left c_open c_frows c_fshift c_fdx c_fdy c_fleastPlace c_fpairs c_foffset c_fplacesFirst c_fplaces) (sW ap ad la fa ra kc c_greys c_remembered c_columns c_rows c_settings c_reached c_order c_merged c_least c_greatest c_role c_head c_tail c_rank c_kindFrom c_kindTo c_side c_across c_down c_count c_flats c_crowded c_kinds c_first c_second c_pairs c_pairsWith c_voted c_ways c_shcount c_numberOfWay c_list c_fcount c_regions c_left c_open c_frows c_fshift c_fdx c_fdy c_fleastPlace c_fpairs c_foffset c_fplacesFirst c_fplaces) r := by
  refine CTi.mk (by decide) (Nat.le_of_ble_eq_true rfl) ?_
  intro p e s m args below meth c A ls Q hQ S hr hlocks hN hA hK hl hP hD hS
  have hx := S.1
  have hb := S.2.1
  have hl : lv_has ls 3 [(0, .ref (ad 2)), (1, .int x1), (2, .int x2)] := hl
  unfold f_X5_has at h
  refine lv_iload_n hx hb dX5_has_0 rfl (lv_at hl 1 rfl) ?_
  refine lv_if_lt (tgt := 28) hx hb dX5_has_1 (by decide) (fun q_4 => ?_) (fun q_4 => ?_)
  · have h := it_t q_4 h
    refine lv_iconst (v := 0) hx hb dX5_has_28 (by decide) ?_
    cases h
    exact ret_i hx hb hr rfl hQ hlocks hK hP hD hS dX5_has_29
  · have h := it_f q_4 h
    refine lv_iload_n hx hb dX5_has_4 rfl (lv_at hl 1 rfl) ?_
    refine lv_aload_n hx hb dX5_has_5 rfl (lv_at hl 0 rfl) ?_
    refine r_get S gf_X5_43 hK hP 5 rfl rfl dX5_has_6 ?_
    refine lv_icmp_ge (tgt := 28) hx hb dX5_has_9 (by decide) (fun q_3 => ?_) (fun q_3 => ?_)
    · have h := it_t q_3 h
      refine lv_iconst (v := 0) hx hb dX5_has_28 (by decide) ?_
      cases h
      exact ret_i hx hb hr rfl hQ hlocks hK hP hD hS dX5_has_29
    · have h := it_f q_3 h
      refine lv_iload_n hx hb dX5_has_12 rfl (lv_at hl 2 rfl) ?_
      refine lv_if_lt (tgt := 28) hx hb dX5_has_13 (by decide) (fun q_2 => ?_) (fun q_2 => ?_)
      · have h := it_t q_2 h
        refine lv_iconst (v := 0) hx hb dX5_has_28 (by decide) ?_
        cases h
        exact ret_i hx hb hr rfl hQ hlocks hK hP hD hS dX5_has_29
      · have h := it_f q_2 h
        refine lv_iload_n hx hb dX5_has_16 rfl (lv_at hl 2 rfl) ?_
        refine lv_aload_n hx hb dX5_has_17 rfl (lv_at hl 0 rfl) ?_
        refine r_get S gf_X5_47 hK hP 5 rfl rfl dX5_has_18 ?_
        refine lv_icmp_ge (tgt := 28) hx hb dX5_has_21 (by decide) (fun q_1 => ?_) (fun q_1 => ?_)
        · have h := it_t q_1 h
          refine lv_iconst (v := 0) hx hb dX5_has_28 (by decide) ?_
          cases h
          exact ret_i hx hb hr rfl hQ hlocks hK hP hD hS dX5_has_29
        · have h := it_f q_1 h
          refine lv_iconst (v := 1) hx hb dX5_has_24 (by decide) ?_
          refine lv_goto (tgt := 29) hx hb dX5_has_25 (by decide) ?_
          cases h
          exact ret_i hx hb hr rfl hQ hlocks hK hP hD hS dX5_has_29
set_option maxHeartbeats 1000000 in
set_option maxRecDepth 100000 in
theorem c_X5_measure (l : Launch) (G : va_G) (kc : Nat → ClassId) (ap ad la fa ra : Nat → Nat) {c_greys : (Nat → Int32)} {c_remembered : (Nat → Int32)} {c_columns : Int32} {c_rows : Int32} {c_settings : (Nat → Int32)} {c_reached : Int32} {c_order : (Nat → Int32)} {c_merged : (Nat → Int32)} {c_least : (Nat → Int32)} {c_greatest : (Nat → Int32)} {c_role : (Nat → Int32)} {c_head : (Nat → Int64)} {c_tail : (Nat → Int64)} {c_rank : (Nat → Int32)} {c_kindFrom : (Nat → Int32)} {c_kindTo : (Nat → Int32)} {c_side : Int32} {c_across : Int32} {c_down : Int32} {c_count : Int32} {c_flats : Int32} {c_crowded : Int32} {c_kinds : Int32} {c_first : (Nat → Int32)} {c_second : (Nat → Int32)} {c_pairs : Int32} {c_pairsWith : (Nat → Int32)} {c_voted : (Nat → Int32)} {c_ways : (Nat → Int32)} {c_shcount : Int32} {c_numberOfWay : (Nat → Int32)} {c_list : (Nat → Nat)} {c_fcount : Int32} {c_regions : (Nat → Int32)} {c_left : (Nat → Nat → Int32)} {c_open : (Nat → Int32)} {c_frows : (Nat → Nat → Int32)} {c_fshift : (Nat → Int32)} {c_fdx : (Nat → Int32)} {c_fdy : (Nat → Int32)} {c_fleastPlace : (Nat → Int32)} {c_fpairs : (Nat → Int32)} {c_foffset : (Nat → Int32)} {c_fplacesFirst : (Nat → Int32)} {c_fplaces : (Nat → Int32)} (x2 : Int32) (x3 : Int32) (x4 : Int32) {c_least' : (Nat → Int32)} {c_greatest' : (Nat → Int32)} {c_role' : (Nat → Int32)} {c_flats' : Int32} {FU : Nat} (h : f_X5_measure FU c_greys c_columns c_rows c_least c_greatest c_role c_side c_flats x2 x3 x4 = some (c_least', c_greatest', c_role', c_flats')) : CTv l G kc yX5_measure cX5_measure 10 none (rmq 2 44) [.ref (ad 2), .ref (ap 0), .int x2, .int x3, .int x4] (sW ap ad la fa ra kc c_greys c_remembered c_columns c_rows c_settings c_reached c_order c_merged c_least c_greatest c_role c_head c_tail c_rank c_kindFrom c_kindTo c_side c_across c_down c_count c_flats c_crowded c_kinds c_first c_second c_pairs c_pairsWith c_voted c_ways c_shcount c_numberOfWay c_list c_fcount c_regions c_left c_open c_frows c_fshift c_fdx c_fdy c_fleastPlace c_fpairs c_foffset c_fplacesFirst c_fplaces) (sW ap ad la fa ra kc c_greys c_remembered c_columns c_rows c_settings c_reached c_order c_merged (c_least') (c_greatest') (c_role') c_head c_tail c_rank c_kindFrom c_kindTo c_side c_across c_down c_count (c_flats') c_crowded c_kinds c_first c_second c_pairs c_pairsWith c_voted c_ways c_shcount c_numberOfWay c_list c_fcount c_regions c_left c_open c_frows c_fshift c_fdx c_fdy c_fleastPlace c_fpairs c_foffset c_fplacesFirst c_fplaces) := by
  refine CTv.mk (by decide) (Nat.le_of_ble_eq_true rfl) ?_
  intro p e s m args below meth c A ls Q hQ S hr hlocks hN hA hK hl hP hD hS
  have hx := S.1
  have hb := S.2.1
  have hl : lv_has ls 10 [(0, .ref (ad 2)), (1, .ref (ap 0)), (2, .int x2), (3, .int x3), (4, .int x4)] := hl
  unfold f_X5_measure at h
  refine lv_bipush (v := 99) hx hb dX5_measure_0 (by decide) ?_
  refine lv_istore (lv' := [(5, .int 99), (0, .ref (ad 2)), (1, .ref (ap 0)), (2, .int x2), (3, .int x3), (4, .int x4)]) hx hb dX5_measure_2 hl (by decide) rfl (fun ls hl => ?_)
  refine lv_iconst (v := 0) hx hb dX5_measure_4 (by decide) ?_
  refine lv_istore (lv' := [(6, .int 0), (5, .int 99), (0, .ref (ad 2)), (1, .ref (ap 0)), (2, .int x2), (3, .int x3), (4, .int x4)]) hx hb dX5_measure_5 hl (by decide) rfl (fun ls hl => ?_)
  refine lv_iload_n hx hb dX5_measure_7 rfl (lv_at hl 5 rfl) ?_
  refine lv_istore (lv' := [(7, .int x3), (6, .int 0), (5, .int 99), (0, .ref (ad 2)), (1, .ref (ap 0)), (2, .int x2), (3, .int x3), (4, .int x4)]) hx hb dX5_measure_8 hl (by decide) rfl (fun ls hl => ?_)
  refine jn_w (t := fun k => f_X5_measure_L10 FU x2 x3 c_greys c_columns c_rows c_side k FU 99 0 x3) (fun (k : Int32 → Int32 → Int32 → Option ((Nat → Int32) × (Nat → Int32) × (Nat → Int32) × Int32)) => ∀ (x5_1 : Int32) (x6_2 : Int32) (x7_3 : Int32) (H : Heap) (locs : List Loc) (ls : Array Slot), VP G (sW ap ad la fa ra kc c_greys c_remembered c_columns c_rows c_settings c_reached c_order c_merged c_least c_greatest c_role c_head c_tail c_rank c_kindFrom c_kindTo c_side c_across c_down c_count c_flats c_crowded c_kinds c_first c_second c_pairs c_pairsWith c_voted c_ways c_shcount c_numberOfWay c_list c_fcount c_regions c_left c_open c_frows c_fshift c_fdx c_fdy c_fleastPlace c_fpairs c_foffset c_fplacesFirst c_fplaces) H → va_D A (sW ap ad la fa ra kc c_greys c_remembered c_columns c_rows c_settings c_reached c_order c_merged c_least c_greatest c_role c_head c_tail c_rank c_kindFrom c_kindTo c_side c_across c_down c_count c_flats c_crowded c_kinds c_first c_second c_pairs c_pairsWith c_voted c_ways c_shcount c_numberOfWay c_list c_fcount c_regions c_left c_open c_frows c_fshift c_fdx c_fdy c_fleastPlace c_fpairs c_foffset c_fplacesFirst c_fplaces) → va_S A s.heap H locs → lv_has ls 10 [(0, .ref (ad 2)), (2, .int x2), (3, .int x3), (4, .int x4), (5, .int x5_1), (6, .int x6_2)] → k x5_1 x6_2 x7_3 = some (c_least', c_greatest', c_role', c_flats') → WW p l e (rmq 2 44) s m args below meth c Q H locs 75 ls []) h ?_ ?_
  · intro x5_1 x6_2 x7_3 H locs ls hP hD hS hl h
    refine lv_bipush (v := 16) hx hb dX5_measure_75 (by decide) ?_
    refine lv_iload_n hx hb dX5_measure_77 rfl (lv_at hl 2 rfl) ?_
    refine lv_imul hx hb dX5_measure_78 ?_
    refine lv_iload_n hx hb dX5_measure_79 rfl (lv_at hl 1 rfl) ?_
    refine lv_iadd hx hb dX5_measure_80 ?_
    refine lv_istore (lv' := [(7, .int ((16 * x3) + x2)), (0, .ref (ad 2)), (2, .int x2), (3, .int x3), (4, .int x4), (5, .int x5_1), (6, .int x6_2)]) hx hb dX5_measure_81 hl (by decide) rfl (fun ls hl => ?_)
    refine lv_aload_n hx hb dX5_measure_83 rfl (lv_at hl 1 rfl) ?_
    refine r_get S gf_X5_18 hK hP 5 rfl rfl dX5_measure_84 ?_
    refine lv_iload hx hb dX5_measure_87 (lv_at hl 0 rfl) ?_
    refine lv_iload hx hb dX5_measure_89 (lv_at hl 5 rfl) ?_
    refine r_iast hx hb hK hP hD hS 8 rfl dX5_measure_91 h (fun c_least_7 H locs hP hD hS h => ?_)
    have hP : VP G (sW ap ad la fa ra kc c_greys c_remembered c_columns c_rows c_settings c_reached c_order c_merged c_least_7 c_greatest c_role c_head c_tail c_rank c_kindFrom c_kindTo c_side c_across c_down c_count c_flats c_crowded c_kinds c_first c_second c_pairs c_pairsWith c_voted c_ways c_shcount c_numberOfWay c_list c_fcount c_regions c_left c_open c_frows c_fshift c_fdx c_fdy c_fleastPlace c_fpairs c_foffset c_fplacesFirst c_fplaces) H := hP
    have hD : va_D A (sW ap ad la fa ra kc c_greys c_remembered c_columns c_rows c_settings c_reached c_order c_merged c_least_7 c_greatest c_role c_head c_tail c_rank c_kindFrom c_kindTo c_side c_across c_down c_count c_flats c_crowded c_kinds c_first c_second c_pairs c_pairsWith c_voted c_ways c_shcount c_numberOfWay c_list c_fcount c_regions c_left c_open c_frows c_fshift c_fdx c_fdy c_fleastPlace c_fpairs c_foffset c_fplacesFirst c_fplaces) := hD
    refine lv_aload_n hx hb dX5_measure_92 rfl (lv_at hl 1 rfl) ?_
    refine r_get S gf_X5_21 hK hP 5 rfl rfl dX5_measure_93 ?_
    refine lv_iload hx hb dX5_measure_96 (lv_at hl 0 rfl) ?_
    refine lv_iload hx hb dX5_measure_98 (lv_at hl 6 rfl) ?_
    refine r_iast hx hb hK hP hD hS 9 rfl dX5_measure_100 h (fun c_greatest_8 H locs hP hD hS h => ?_)
    have hP : VP G (sW ap ad la fa ra kc c_greys c_remembered c_columns c_rows c_settings c_reached c_order c_merged c_least_7 c_greatest_8 c_role c_head c_tail c_rank c_kindFrom c_kindTo c_side c_across c_down c_count c_flats c_crowded c_kinds c_first c_second c_pairs c_pairsWith c_voted c_ways c_shcount c_numberOfWay c_list c_fcount c_regions c_left c_open c_frows c_fshift c_fdx c_fdy c_fleastPlace c_fpairs c_foffset c_fplacesFirst c_fplaces) H := hP
    have hD : va_D A (sW ap ad la fa ra kc c_greys c_remembered c_columns c_rows c_settings c_reached c_order c_merged c_least_7 c_greatest_8 c_role c_head c_tail c_rank c_kindFrom c_kindTo c_side c_across c_down c_count c_flats c_crowded c_kinds c_first c_second c_pairs c_pairsWith c_voted c_ways c_shcount c_numberOfWay c_list c_fcount c_regions c_left c_open c_frows c_fshift c_fdx c_fdy c_fleastPlace c_fpairs c_foffset c_fplacesFirst c_fplaces) := hD
    refine lv_aload_n hx hb dX5_measure_101 rfl (lv_at hl 1 rfl) ?_
    refine r_get S gf_X5_24 hK hP 5 rfl rfl dX5_measure_102 ?_
    refine lv_iload hx hb dX5_measure_105 (lv_at hl 0 rfl) ?_
    refine lv_iload hx hb dX5_measure_107 (lv_at hl 6 rfl) ?_
    refine lv_iload hx hb dX5_measure_109 (lv_at hl 5 rfl) ?_
    refine lv_isub hx hb dX5_measure_111 ?_
    refine lv_iload hx hb dX5_measure_112 (lv_at hl 4 rfl) ?_
    refine jn_w (fun (k : Int32 → Option ((Nat → Int32) × (Nat → Int32) × (Nat → Int32) × Int32)) => ∀ (t_9 : Int32) (H : Heap) (locs : List Loc) (ls : Array Slot), VP G (sW ap ad la fa ra kc c_greys c_remembered c_columns c_rows c_settings c_reached c_order c_merged c_least_7 c_greatest_8 c_role c_head c_tail c_rank c_kindFrom c_kindTo c_side c_across c_down c_count c_flats c_crowded c_kinds c_first c_second c_pairs c_pairsWith c_voted c_ways c_shcount c_numberOfWay c_list c_fcount c_regions c_left c_open c_frows c_fshift c_fdx c_fdy c_fleastPlace c_fpairs c_foffset c_fplacesFirst c_fplaces) H → va_D A (sW ap ad la fa ra kc c_greys c_remembered c_columns c_rows c_settings c_reached c_order c_merged c_least_7 c_greatest_8 c_role c_head c_tail c_rank c_kindFrom c_kindTo c_side c_across c_down c_count c_flats c_crowded c_kinds c_first c_second c_pairs c_pairsWith c_voted c_ways c_shcount c_numberOfWay c_list c_fcount c_regions c_left c_open c_frows c_fshift c_fdx c_fdy c_fleastPlace c_fpairs c_foffset c_fplacesFirst c_fplaces) → va_S A s.heap H locs → lv_has ls 10 [(0, .ref (ad 2)), (7, .int ((16 * x3) + x2))] → k t_9 = some (c_least', c_greatest', c_role', c_flats') → WW p l e (rmq 2 44) s m args below meth c Q H locs 122 ls [.int t_9, .int ((16 * x3) + x2), .ref (ad 7)]) h ?_ ?_
    · intro t_9 H locs ls hP hD hS hl h
      refine r_iast hx hb hK hP hD hS 10 rfl dX5_measure_122 h (fun c_role_12 H locs hP hD hS h => ?_)
      have hP : VP G (sW ap ad la fa ra kc c_greys c_remembered c_columns c_rows c_settings c_reached c_order c_merged c_least_7 c_greatest_8 c_role_12 c_head c_tail c_rank c_kindFrom c_kindTo c_side c_across c_down c_count c_flats c_crowded c_kinds c_first c_second c_pairs c_pairsWith c_voted c_ways c_shcount c_numberOfWay c_list c_fcount c_regions c_left c_open c_frows c_fshift c_fdx c_fdy c_fleastPlace c_fpairs c_foffset c_fplacesFirst c_fplaces) H := hP
      have hD : va_D A (sW ap ad la fa ra kc c_greys c_remembered c_columns c_rows c_settings c_reached c_order c_merged c_least_7 c_greatest_8 c_role_12 c_head c_tail c_rank c_kindFrom c_kindTo c_side c_across c_down c_count c_flats c_crowded c_kinds c_first c_second c_pairs c_pairsWith c_voted c_ways c_shcount c_numberOfWay c_list c_fcount c_regions c_left c_open c_frows c_fshift c_fdx c_fdy c_fleastPlace c_fpairs c_foffset c_fplacesFirst c_fplaces) := hD
      refine lv_aload_n hx hb dX5_measure_123 rfl (lv_at hl 0 rfl) ?_
      refine lv_dup hx hb dX5_measure_124 rfl ?_
      refine r_get S gf_X5_70 hK hP 5 rfl rfl dX5_measure_125 ?_
      refine lv_aload_n hx hb dX5_measure_128 rfl (lv_at hl 0 rfl) ?_
      refine r_get S gf_X5_24 hK hP 5 rfl rfl dX5_measure_129 ?_
      refine lv_iload hx hb dX5_measure_132 (lv_at hl 1 rfl) ?_
      refine r_iald hx hb hK hP 10 rfl dX5_measure_134 h (fun y_13 h => ?_)
      refine lv_iconst (v := 1) hx hb dX5_measure_135 (by decide) ?_
      refine jn_w (fun (k : Int32 → Option ((Nat → Int32) × (Nat → Int32) × (Nat → Int32) × Int32)) => ∀ (t_14 : Int32) (H : Heap) (locs : List Loc) (ls : Array Slot), VP G (sW ap ad la fa ra kc c_greys c_remembered c_columns c_rows c_settings c_reached c_order c_merged c_least_7 c_greatest_8 c_role_12 c_head c_tail c_rank c_kindFrom c_kindTo c_side c_across c_down c_count c_flats c_crowded c_kinds c_first c_second c_pairs c_pairsWith c_voted c_ways c_shcount c_numberOfWay c_list c_fcount c_regions c_left c_open c_frows c_fshift c_fdx c_fdy c_fleastPlace c_fpairs c_foffset c_fplacesFirst c_fplaces) H → va_D A (sW ap ad la fa ra kc c_greys c_remembered c_columns c_rows c_settings c_reached c_order c_merged c_least_7 c_greatest_8 c_role_12 c_head c_tail c_rank c_kindFrom c_kindTo c_side c_across c_down c_count c_flats c_crowded c_kinds c_first c_second c_pairs c_pairsWith c_voted c_ways c_shcount c_numberOfWay c_list c_fcount c_regions c_left c_open c_frows c_fshift c_fdx c_fdy c_fleastPlace c_fpairs c_foffset c_fplacesFirst c_fplaces) → va_S A s.heap H locs → lv_has ls 10 [] → k t_14 = some (c_least', c_greatest', c_role', c_flats') → WW p l e (rmq 2 44) s m args below meth c Q H locs 144 ls [.int t_14, .int c_flats, .ref (ad 2)]) h ?_ ?_
      · intro t_14 H locs ls hP hD hS hl h
        refine lv_iadd hx hb dX5_measure_144 ?_
        refine r_put S pf_X5_70 hK hP hD hS 5 rfl (Nat.le_of_ble_eq_true rfl) dX5_measure_145 (fun H locs hP hD hS => ?_)
        have hP : VP G (sW ap ad la fa ra kc c_greys c_remembered c_columns c_rows c_settings c_reached c_order c_merged c_least_7 c_greatest_8 c_role_12 c_head c_tail c_rank c_kindFrom c_kindTo c_side c_across c_down c_count (c_flats + t_14) c_crowded c_kinds c_first c_second c_pairs c_pairsWith c_voted c_ways c_shcount c_numberOfWay c_list c_fcount c_regions c_left c_open c_frows c_fshift c_fdx c_fdy c_fleastPlace c_fpairs c_foffset c_fplacesFirst c_fplaces) H := hP
        have hD : va_D A (sW ap ad la fa ra kc c_greys c_remembered c_columns c_rows c_settings c_reached c_order c_merged c_least_7 c_greatest_8 c_role_12 c_head c_tail c_rank c_kindFrom c_kindTo c_side c_across c_down c_count (c_flats + t_14) c_crowded c_kinds c_first c_second c_pairs c_pairsWith c_voted c_ways c_shcount c_numberOfWay c_list c_fcount c_regions c_left c_open c_frows c_fshift c_fdx c_fdy c_fleastPlace c_fpairs c_foffset c_fplacesFirst c_fplaces) := hD
        cases h
        exact ret_v hx hb hr hQ hlocks hK hP hD hS dX5_measure_148
      · intro j_15 J_16 h
        refine lv_icmp_ne (tgt := 143) hx hb dX5_measure_136 (by decide) (fun q_17 => ?_) (fun q_17 => ?_)
        · have h := it_f q_17 h
          refine lv_iconst (v := 0) hx hb dX5_measure_143 (by decide) ?_
          exact J_16 0 _ _ _ hP hD hS (lv_sub hl [] rfl) h
        · have h := it_t q_17 h
          refine lv_iconst (v := 1) hx hb dX5_measure_139 (by decide) ?_
          refine lv_goto (tgt := 144) hx hb dX5_measure_140 (by decide) ?_
          exact J_16 1 _ _ _ hP hD hS (lv_sub hl [] rfl) h
    · intro j_10 J_11 h
      refine lv_icmp_gt (tgt := 121) hx hb dX5_measure_114 (by decide) (fun q_18 => ?_) (fun q_18 => ?_)
      · have h := it_t q_18 h
        refine lv_iconst (v := 0) hx hb dX5_measure_121 (by decide) ?_
        exact J_11 0 _ _ _ hP hD hS (lv_sub hl [1, 0] rfl) h
      · have h := it_f q_18 h
        refine lv_iconst (v := 1) hx hb dX5_measure_117 (by decide) ?_
        refine lv_goto (tgt := 122) hx hb dX5_measure_118 (by decide) ?_
        exact J_11 1 _ _ _ hP hD hS (lv_sub hl [1, 0] rfl) h
  · intro k_4 K_5 h
    have L_6 : ∀ (n : Nat) (x5_1 : Int32) (x6_2 : Int32) (x7_3 : Int32) (H : Heap) (locs : List Loc) (ls : Array Slot), VP G (sW ap ad la fa ra kc c_greys c_remembered c_columns c_rows c_settings c_reached c_order c_merged c_least c_greatest c_role c_head c_tail c_rank c_kindFrom c_kindTo c_side c_across c_down c_count c_flats c_crowded c_kinds c_first c_second c_pairs c_pairsWith c_voted c_ways c_shcount c_numberOfWay c_list c_fcount c_regions c_left c_open c_frows c_fshift c_fdx c_fdy c_fleastPlace c_fpairs c_foffset c_fplacesFirst c_fplaces) H → va_D A (sW ap ad la fa ra kc c_greys c_remembered c_columns c_rows c_settings c_reached c_order c_merged c_least c_greatest c_role c_head c_tail c_rank c_kindFrom c_kindTo c_side c_across c_down c_count c_flats c_crowded c_kinds c_first c_second c_pairs c_pairsWith c_voted c_ways c_shcount c_numberOfWay c_list c_fcount c_regions c_left c_open c_frows c_fshift c_fdx c_fdy c_fleastPlace c_fpairs c_foffset c_fplacesFirst c_fplaces) → va_S A s.heap H locs → lv_has ls 10 [(0, .ref (ad 2)), (1, .ref (ap 0)), (2, .int x2), (3, .int x3), (4, .int x4), (5, .int x5_1), (6, .int x6_2), (7, .int x7_3)] → f_X5_measure_L10 FU x2 x3 c_greys c_columns c_rows c_side k_4 n x5_1 x6_2 x7_3 = some (c_least', c_greatest', c_role', c_flats') → WW p l e (rmq 2 44) s m args below meth c Q H locs 10 ls [] := by
      intro n
      induction n with
      | zero => intro x5_1 x6_2 x7_3 H locs ls hP hD hS hl h; rw [f_X5_measure_L10] at h; cases h
      | succ n ih =>
        intro x5_1 x6_2 x7_3 H locs ls hP hD hS hl h
        rw [f_X5_measure_L10] at h
        refine lv_iload hx hb dX5_measure_10 (lv_at hl 7 rfl) ?_
        refine lv_iload_n hx hb dX5_measure_12 rfl (lv_at hl 3 rfl) ?_
        refine lv_aload_n hx hb dX5_measure_13 rfl (lv_at hl 0 rfl) ?_
        refine r_get S gf_X5_50 hK hP 5 rfl rfl dX5_measure_14 ?_
        refine lv_iadd hx hb dX5_measure_17 ?_
        refine lv_icmp_ge (tgt := 75) hx hb dX5_measure_18 (by decide) (fun q_27 => ?_) (fun q_27 => ?_)
        · have h := it_t q_27 h
          exact K_5 x5_1 x6_2 x7_3 _ _ _ hP hD hS (lv_sub hl [0, 2, 3, 4, 5, 6] rfl) h
        · have h := it_f q_27 h
          refine lv_iload_n hx hb dX5_measure_21 rfl (lv_at hl 2 rfl) ?_
          refine lv_istore (lv' := [(8, .int x2), (0, .ref (ad 2)), (1, .ref (ap 0)), (2, .int x2), (3, .int x3), (4, .int x4), (5, .int x5_1), (6, .int x6_2), (7, .int x7_3)]) hx hb dX5_measure_22 hl (by decide) rfl (fun ls hl => ?_)
          refine jn_w (t := fun k => f_X5_measure_L24 FU x2 x7_3 c_greys c_columns c_rows c_side k FU x5_1 x6_2 x2) (fun (k : Int32 → Int32 → Int32 → Option ((Nat → Int32) × (Nat → Int32) × (Nat → Int32) × Int32)) => ∀ (x5_19 : Int32) (x6_20 : Int32) (x8_21 : Int32) (H : Heap) (locs : List Loc) (ls : Array Slot), VP G (sW ap ad la fa ra kc c_greys c_remembered c_columns c_rows c_settings c_reached c_order c_merged c_least c_greatest c_role c_head c_tail c_rank c_kindFrom c_kindTo c_side c_across c_down c_count c_flats c_crowded c_kinds c_first c_second c_pairs c_pairsWith c_voted c_ways c_shcount c_numberOfWay c_list c_fcount c_regions c_left c_open c_frows c_fshift c_fdx c_fdy c_fleastPlace c_fpairs c_foffset c_fplacesFirst c_fplaces) H → va_D A (sW ap ad la fa ra kc c_greys c_remembered c_columns c_rows c_settings c_reached c_order c_merged c_least c_greatest c_role c_head c_tail c_rank c_kindFrom c_kindTo c_side c_across c_down c_count c_flats c_crowded c_kinds c_first c_second c_pairs c_pairsWith c_voted c_ways c_shcount c_numberOfWay c_list c_fcount c_regions c_left c_open c_frows c_fshift c_fdx c_fdy c_fleastPlace c_fpairs c_foffset c_fplacesFirst c_fplaces) → va_S A s.heap H locs → lv_has ls 10 [(0, .ref (ad 2)), (1, .ref (ap 0)), (2, .int x2), (3, .int x3), (4, .int x4), (5, .int x5_19), (6, .int x6_20), (7, .int x7_3)] → k x5_19 x6_20 x8_21 = some (c_least', c_greatest', c_role', c_flats') → WW p l e (rmq 2 44) s m args below meth c Q H locs 69 ls []) h ?_ ?_
          · intro x5_19 x6_20 x8_21 H locs ls hP hD hS hl h
            refine lv_iinc (v := (x7_3 + 1)) (lv' := [(7, .int (x7_3 + 1)), (0, .ref (ad 2)), (1, .ref (ap 0)), (2, .int x2), (3, .int x3), (4, .int x4), (5, .int x5_19), (6, .int x6_20)]) hx hb dX5_measure_69 hl (k := 7) rfl rfl (by decide) rfl (fun ls hl => ?_)
            refine lv_goto (tgt := 10) hx hb dX5_measure_72 (by decide) ?_
            exact ih x5_19 x6_20 (x7_3 + 1) _ _ _ hP hD hS (lv_sub hl [1, 2, 3, 4, 5, 6, 7, 0] rfl) h
          · intro k_22 K_23 h
            have L_24 : ∀ (n : Nat) (x5_19 : Int32) (x6_20 : Int32) (x8_21 : Int32) (H : Heap) (locs : List Loc) (ls : Array Slot), VP G (sW ap ad la fa ra kc c_greys c_remembered c_columns c_rows c_settings c_reached c_order c_merged c_least c_greatest c_role c_head c_tail c_rank c_kindFrom c_kindTo c_side c_across c_down c_count c_flats c_crowded c_kinds c_first c_second c_pairs c_pairsWith c_voted c_ways c_shcount c_numberOfWay c_list c_fcount c_regions c_left c_open c_frows c_fshift c_fdx c_fdy c_fleastPlace c_fpairs c_foffset c_fplacesFirst c_fplaces) H → va_D A (sW ap ad la fa ra kc c_greys c_remembered c_columns c_rows c_settings c_reached c_order c_merged c_least c_greatest c_role c_head c_tail c_rank c_kindFrom c_kindTo c_side c_across c_down c_count c_flats c_crowded c_kinds c_first c_second c_pairs c_pairsWith c_voted c_ways c_shcount c_numberOfWay c_list c_fcount c_regions c_left c_open c_frows c_fshift c_fdx c_fdy c_fleastPlace c_fpairs c_foffset c_fplacesFirst c_fplaces) → va_S A s.heap H locs → lv_has ls 10 [(0, .ref (ad 2)), (1, .ref (ap 0)), (2, .int x2), (3, .int x3), (4, .int x4), (5, .int x5_19), (6, .int x6_20), (7, .int x7_3), (8, .int x8_21)] → f_X5_measure_L24 FU x2 x7_3 c_greys c_columns c_rows c_side k_22 n x5_19 x6_20 x8_21 = some (c_least', c_greatest', c_role', c_flats') → WW p l e (rmq 2 44) s m args below meth c Q H locs 24 ls [] := by
              intro n
              induction n with
              | zero => intro x5_19 x6_20 x8_21 H locs ls hP hD hS hl h; rw [f_X5_measure_L24] at h; cases h
              | succ n ih =>
                intro x5_19 x6_20 x8_21 H locs ls hP hD hS hl h
                rw [f_X5_measure_L24] at h
                refine lv_iload hx hb dX5_measure_24 (lv_at hl 8 rfl) ?_
                refine lv_iload_n hx hb dX5_measure_26 rfl (lv_at hl 2 rfl) ?_
                refine lv_aload_n hx hb dX5_measure_27 rfl (lv_at hl 0 rfl) ?_
                refine r_get S gf_X5_50 hK hP 5 rfl rfl dX5_measure_28 ?_
                refine lv_iadd hx hb dX5_measure_31 ?_
                refine lv_icmp_ge (tgt := 69) hx hb dX5_measure_32 (by decide) (fun q_26 => ?_) (fun q_26 => ?_)
                · have h := it_t q_26 h
                  exact K_23 x5_19 x6_20 x8_21 _ _ _ hP hD hS (lv_sub hl [0, 1, 2, 3, 4, 5, 6, 7] rfl) h
                · have h := it_f q_26 h
                  refine lv_aload_n hx hb dX5_measure_35 rfl (lv_at hl 1 rfl) ?_
                  refine lv_iload hx hb dX5_measure_36 (lv_at hl 8 rfl) ?_
                  refine lv_iload hx hb dX5_measure_38 (lv_at hl 7 rfl) ?_
                  obtain ⟨r_25, hq, h⟩ := bd1_e h
                  refine cp_Vi (rest := []) (ci := 2) [0, 1, 2] S hN cb_X2_greyOf ml_X5_88 ⟨Nat.le_of_ble_eq_true rfl, Nat.le_of_ble_eq_true rfl⟩ (c_X2_greyOf l G kc ap x8_21 x7_3 hq) hK hP hD hS hA rfl rfl rfl 0 rfl rfl rfl rfl rfl (Nat.le_of_ble_eq_true rfl) hl.1 dX5_measure_40 (fun H locs hP hD hS => ?_)
                  have hP : VP G (sW ap ad la fa ra kc c_greys c_remembered c_columns c_rows c_settings c_reached c_order c_merged c_least c_greatest c_role c_head c_tail c_rank c_kindFrom c_kindTo c_side c_across c_down c_count c_flats c_crowded c_kinds c_first c_second c_pairs c_pairsWith c_voted c_ways c_shcount c_numberOfWay c_list c_fcount c_regions c_left c_open c_frows c_fshift c_fdx c_fdy c_fleastPlace c_fpairs c_foffset c_fplacesFirst c_fplaces) H := hP
                  have hD : va_D A (sW ap ad la fa ra kc c_greys c_remembered c_columns c_rows c_settings c_reached c_order c_merged c_least c_greatest c_role c_head c_tail c_rank c_kindFrom c_kindTo c_side c_across c_down c_count c_flats c_crowded c_kinds c_first c_second c_pairs c_pairsWith c_voted c_ways c_shcount c_numberOfWay c_list c_fcount c_regions c_left c_open c_frows c_fshift c_fdx c_fdy c_fleastPlace c_fpairs c_foffset c_fplacesFirst c_fplaces) := hD
                  refine lv_istore (lv' := [(9, .int r_25), (0, .ref (ad 2)), (1, .ref (ap 0)), (2, .int x2), (3, .int x3), (4, .int x4), (5, .int x5_19), (6, .int x6_20), (7, .int x7_3), (8, .int x8_21)]) hx hb dX5_measure_43 hl (by decide) rfl (fun ls hl => ?_)
                  refine lv_iload hx hb dX5_measure_45 (lv_at hl 6 rfl) ?_
                  refine lv_iload hx hb dX5_measure_47 (lv_at hl 0 rfl) ?_
                  refine va_mmin hx hb (S.2.2.1.trans hl.1.symm) S.2.2.2.1 (S.2.2.2.2 _ mm_X5_91) (S.2.2.2.2 _ ms_min) (S.2.2.2.2 _ ms_init) (S.2.2.2.2 _ mc_min) (Nat.le_of_ble_eq_true rfl) (Nat.le_of_ble_eq_true rfl) (Nat.zero_le _) (Nat.zero_le _) dX5_measure_49 ?_
                  refine lv_istore (lv' := [(5, .int (if r_25 < x5_19 then r_25 else x5_19)), (9, .int r_25), (0, .ref (ad 2)), (1, .ref (ap 0)), (2, .int x2), (3, .int x3), (4, .int x4), (6, .int x6_20), (7, .int x7_3), (8, .int x8_21)]) hx hb dX5_measure_52 hl (by decide) rfl (fun ls hl => ?_)
                  refine lv_iload hx hb dX5_measure_54 (lv_at hl 7 rfl) ?_
                  refine lv_iload hx hb dX5_measure_56 (lv_at hl 1 rfl) ?_
                  refine va_mmax hx hb (S.2.2.1.trans hl.1.symm) S.2.2.2.1 (S.2.2.2.2 _ mm_X5_58) (S.2.2.2.2 _ ms_max) (S.2.2.2.2 _ ms_init) (S.2.2.2.2 _ mc_max) (Nat.le_of_ble_eq_true rfl) (Nat.le_of_ble_eq_true rfl) (Nat.zero_le _) (Nat.zero_le _) dX5_measure_58 ?_
                  refine lv_istore (lv' := [(6, .int (if x6_20 < r_25 then r_25 else x6_20)), (5, .int (if r_25 < x5_19 then r_25 else x5_19)), (9, .int r_25), (0, .ref (ad 2)), (1, .ref (ap 0)), (2, .int x2), (3, .int x3), (4, .int x4), (7, .int x7_3), (8, .int x8_21)]) hx hb dX5_measure_61 hl (by decide) rfl (fun ls hl => ?_)
                  refine lv_iinc (v := (x8_21 + 1)) (lv' := [(8, .int (x8_21 + 1)), (6, .int (if x6_20 < r_25 then r_25 else x6_20)), (5, .int (if r_25 < x5_19 then r_25 else x5_19)), (9, .int r_25), (0, .ref (ad 2)), (1, .ref (ap 0)), (2, .int x2), (3, .int x3), (4, .int x4), (7, .int x7_3)]) hx hb dX5_measure_63 hl (k := 9) rfl rfl (by decide) rfl (fun ls hl => ?_)
                  refine lv_goto (tgt := 24) hx hb dX5_measure_66 (by decide) ?_
                  exact ih (if r_25 < x5_19 then r_25 else x5_19) (if x6_20 < r_25 then r_25 else x6_20) (x8_21 + 1) _ _ _ hP hD hS (lv_sub hl [4, 5, 6, 7, 8, 2, 1, 9, 0] rfl) h
            exact L_24 FU x5_1 x6_2 x2 _ _ _ hP hD hS (lv_sub hl [1, 2, 3, 4, 5, 6, 7, 8, 0] rfl) h
    exact L_6 FU 99 0 x3 _ _ _ hP hD hS (lv_sub hl [3, 4, 5, 6, 7, 2, 1, 0] rfl) h
set_option maxHeartbeats 1000000 in
set_option maxRecDepth 100000 in
theorem c_X5_readNumbers (l : Launch) (G : va_G) (kc : Nat → ClassId) (ap ad la fa ra : Nat → Nat) {c_greys : (Nat → Int32)} {c_remembered : (Nat → Int32)} {c_columns : Int32} {c_rows : Int32} {c_settings : (Nat → Int32)} {c_reached : Int32} {c_order : (Nat → Int32)} {c_merged : (Nat → Int32)} {c_least : (Nat → Int32)} {c_greatest : (Nat → Int32)} {c_role : (Nat → Int32)} {c_head : (Nat → Int64)} {c_tail : (Nat → Int64)} {c_rank : (Nat → Int32)} {c_kindFrom : (Nat → Int32)} {c_kindTo : (Nat → Int32)} {c_side : Int32} {c_across : Int32} {c_down : Int32} {c_count : Int32} {c_flats : Int32} {c_crowded : Int32} {c_kinds : Int32} {c_first : (Nat → Int32)} {c_second : (Nat → Int32)} {c_pairs : Int32} {c_pairsWith : (Nat → Int32)} {c_voted : (Nat → Int32)} {c_ways : (Nat → Int32)} {c_shcount : Int32} {c_numberOfWay : (Nat → Int32)} {c_list : (Nat → Nat)} {c_fcount : Int32} {c_regions : (Nat → Int32)} {c_left : (Nat → Nat → Int32)} {c_open : (Nat → Int32)} {c_frows : (Nat → Nat → Int32)} {c_fshift : (Nat → Int32)} {c_fdx : (Nat → Int32)} {c_fdy : (Nat → Int32)} {c_fleastPlace : (Nat → Int32)} {c_fpairs : (Nat → Int32)} {c_foffset : (Nat → Int32)} {c_fplacesFirst : (Nat → Int32)} {c_fplaces : (Nat → Int32)} (x2 : Int32) (x3 : Int32) {c_head' : (Nat → Int64)} {c_tail' : (Nat → Int64)} {FU : Nat} (h : f_X5_readNumbers FU c_greys c_columns c_rows c_settings c_least c_head c_tail c_side x2 x3 = some (c_head', c_tail')) : CTv l G kc yX5_readNumbers cX5_readNumbers 16 none (rmq 2 44) [.ref (ad 2), .ref (ap 0), .int x2, .int x3, .ref (ad 1)] (sW ap ad la fa ra kc c_greys c_remembered c_columns c_rows c_settings c_reached c_order c_merged c_least c_greatest c_role c_head c_tail c_rank c_kindFrom c_kindTo c_side c_across c_down c_count c_flats c_crowded c_kinds c_first c_second c_pairs c_pairsWith c_voted c_ways c_shcount c_numberOfWay c_list c_fcount c_regions c_left c_open c_frows c_fshift c_fdx c_fdy c_fleastPlace c_fpairs c_foffset c_fplacesFirst c_fplaces) (sW ap ad la fa ra kc c_greys c_remembered c_columns c_rows c_settings c_reached c_order c_merged c_least c_greatest c_role (c_head') (c_tail') c_rank c_kindFrom c_kindTo c_side c_across c_down c_count c_flats c_crowded c_kinds c_first c_second c_pairs c_pairsWith c_voted c_ways c_shcount c_numberOfWay c_list c_fcount c_regions c_left c_open c_frows c_fshift c_fdx c_fdy c_fleastPlace c_fpairs c_foffset c_fplacesFirst c_fplaces) := by
  refine CTv.mk (by decide) (Nat.le_of_ble_eq_true rfl) ?_
  intro p e s m args below meth c A ls Q hQ S hr hlocks hN hA hK hl hP hD hS
  have hx := S.1
  have hb := S.2.1
  have hl : lv_has ls 16 [(0, .ref (ad 2)), (1, .ref (ap 0)), (2, .int x2), (3, .int x3), (4, .ref (ad 1))] := hl
  unfold f_X5_readNumbers at h
  refine lv_bipush (v := 16) hx hb dX5_readNumbers_0 (by decide) ?_
  refine lv_iload_n hx hb dX5_readNumbers_2 rfl (lv_at hl 3 rfl) ?_
  refine lv_imul hx hb dX5_readNumbers_3 ?_
  refine lv_iload_n hx hb dX5_readNumbers_4 rfl (lv_at hl 2 rfl) ?_
  refine lv_iadd hx hb dX5_readNumbers_5 ?_
  refine lv_istore (lv' := [(5, .int ((16 * x3) + x2)), (0, .ref (ad 2)), (1, .ref (ap 0)), (2, .int x2), (3, .int x3), (4, .ref (ad 1))]) hx hb dX5_readNumbers_6 hl (by decide) rfl (fun ls hl => ?_)
  refine lv_aload hx hb dX5_readNumbers_8 (lv_at hl 5 rfl) ?_
  refine lv_iconst (v := 2) hx hb dX5_readNumbers_10 (by decide) ?_
  refine r_iald hx hb hK hP 4 rfl dX5_readNumbers_11 h (fun y_1 h => ?_)
  refine lv_iconst (v := 1) hx hb dX5_readNumbers_12 (by decide) ?_
  refine jn_w (fun (k : Int32 → Option ((Nat → Int64) × (Nat → Int64))) => ∀ (t_2 : Int32) (H : Heap) (locs : List Loc) (ls : Array Slot), VP G (sW ap ad la fa ra kc c_greys c_remembered c_columns c_rows c_settings c_reached c_order c_merged c_least c_greatest c_role c_head c_tail c_rank c_kindFrom c_kindTo c_side c_across c_down c_count c_flats c_crowded c_kinds c_first c_second c_pairs c_pairsWith c_voted c_ways c_shcount c_numberOfWay c_list c_fcount c_regions c_left c_open c_frows c_fshift c_fdx c_fdy c_fleastPlace c_fpairs c_foffset c_fplacesFirst c_fplaces) H → va_D A (sW ap ad la fa ra kc c_greys c_remembered c_columns c_rows c_settings c_reached c_order c_merged c_least c_greatest c_role c_head c_tail c_rank c_kindFrom c_kindTo c_side c_across c_down c_count c_flats c_crowded c_kinds c_first c_second c_pairs c_pairsWith c_voted c_ways c_shcount c_numberOfWay c_list c_fcount c_regions c_left c_open c_frows c_fshift c_fdx c_fdy c_fleastPlace c_fpairs c_foffset c_fplacesFirst c_fplaces) → va_S A s.heap H locs → lv_has ls 16 [(0, .ref (ad 2)), (1, .ref (ap 0)), (2, .int x2), (3, .int x3), (4, .ref (ad 1)), (5, .int ((16 * x3) + x2))] → k t_2 = some (c_head', c_tail') → WW p l e (rmq 2 44) s m args below meth c Q H locs 27 ls [.int t_2]) h ?_ ?_
  · intro t_2 H locs ls hP hD hS hl h
    refine lv_istore (lv' := [(6, .int t_2), (0, .ref (ad 2)), (1, .ref (ap 0)), (2, .int x2), (3, .int x3), (4, .ref (ad 1)), (5, .int ((16 * x3) + x2))]) hx hb dX5_readNumbers_27 hl (by decide) rfl (fun ls hl => ?_)
    refine lv_iconst (v := 1) hx hb dX5_readNumbers_29 (by decide) ?_
    refine lv_aload hx hb dX5_readNumbers_30 (lv_at hl 5 rfl) ?_
    refine lv_iconst (v := 1) hx hb dX5_readNumbers_32 (by decide) ?_
    refine r_iald hx hb hK hP 4 rfl dX5_readNumbers_33 h (fun y_5 h => ?_)
    refine va_mmax hx hb (S.2.2.1.trans hl.1.symm) S.2.2.2.1 (S.2.2.2.2 _ mm_X5_58) (S.2.2.2.2 _ ms_max) (S.2.2.2.2 _ ms_init) (S.2.2.2.2 _ mc_max) (Nat.le_of_ble_eq_true rfl) (Nat.le_of_ble_eq_true rfl) (Nat.zero_le _) (Nat.zero_le _) dX5_readNumbers_34 ?_
    refine lv_istore (lv' := [(7, .int (if 1 < y_5 then y_5 else 1)), (6, .int t_2), (0, .ref (ad 2)), (1, .ref (ap 0)), (2, .int x2), (3, .int x3), (4, .ref (ad 1)), (5, .int ((16 * x3) + x2))]) hx hb dX5_readNumbers_37 hl (by decide) rfl (fun ls hl => ?_)
    refine lv_lconst (v := 0) hx hb dX5_readNumbers_39 (by decide) ?_
    refine lv_lstore (lv' := [(8, .long 0), (7, .int (if 1 < y_5 then y_5 else 1)), (6, .int t_2), (0, .ref (ad 2)), (1, .ref (ap 0)), (2, .int x2), (3, .int x3), (4, .ref (ad 1)), (5, .int ((16 * x3) + x2))]) hx hb dX5_readNumbers_40 hl (by decide) rfl (fun ls hl => ?_)
    refine lv_lconst (v := 0) hx hb dX5_readNumbers_42 (by decide) ?_
    refine lv_lstore (lv' := [(10, .long 0), (8, .long 0), (7, .int (if 1 < y_5 then y_5 else 1)), (6, .int t_2), (0, .ref (ad 2)), (1, .ref (ap 0)), (2, .int x2), (3, .int x3), (4, .ref (ad 1)), (5, .int ((16 * x3) + x2))]) hx hb dX5_readNumbers_43 hl (by decide) rfl (fun ls hl => ?_)
    refine lv_iconst (v := 0) hx hb dX5_readNumbers_45 (by decide) ?_
    refine lv_istore (lv' := [(12, .int 0), (10, .long 0), (8, .long 0), (7, .int (if 1 < y_5 then y_5 else 1)), (6, .int t_2), (0, .ref (ad 2)), (1, .ref (ap 0)), (2, .int x2), (3, .int x3), (4, .ref (ad 1)), (5, .int ((16 * x3) + x2))]) hx hb dX5_readNumbers_46 hl (by decide) rfl (fun ls hl => ?_)
    refine lv_iload_n hx hb dX5_readNumbers_48 rfl (lv_at hl 8 rfl) ?_
    refine lv_istore (lv' := [(13, .int x3), (12, .int 0), (10, .long 0), (8, .long 0), (7, .int (if 1 < y_5 then y_5 else 1)), (6, .int t_2), (0, .ref (ad 2)), (1, .ref (ap 0)), (2, .int x2), (3, .int x3), (4, .ref (ad 1)), (5, .int ((16 * x3) + x2))]) hx hb dX5_readNumbers_49 hl (by decide) rfl (fun ls hl => ?_)
    refine jn_w (t := fun k => f_X5_readNumbers_L51 FU x2 x3 t_2 (if 1 < y_5 then y_5 else 1) c_greys c_columns c_rows c_side k FU 0 0 0 x3) (fun (k : Int64 → Int64 → Int32 → Int32 → Option ((Nat → Int64) × (Nat → Int64))) => ∀ (x8_6 : Int64) (x10_7 : Int64) (x12_8 : Int32) (x13_9 : Int32) (H : Heap) (locs : List Loc) (ls : Array Slot), VP G (sW ap ad la fa ra kc c_greys c_remembered c_columns c_rows c_settings c_reached c_order c_merged c_least c_greatest c_role c_head c_tail c_rank c_kindFrom c_kindTo c_side c_across c_down c_count c_flats c_crowded c_kinds c_first c_second c_pairs c_pairsWith c_voted c_ways c_shcount c_numberOfWay c_list c_fcount c_regions c_left c_open c_frows c_fshift c_fdx c_fdy c_fleastPlace c_fpairs c_foffset c_fplacesFirst c_fplaces) H → va_D A (sW ap ad la fa ra kc c_greys c_remembered c_columns c_rows c_settings c_reached c_order c_merged c_least c_greatest c_role c_head c_tail c_rank c_kindFrom c_kindTo c_side c_across c_down c_count c_flats c_crowded c_kinds c_first c_second c_pairs c_pairsWith c_voted c_ways c_shcount c_numberOfWay c_list c_fcount c_regions c_left c_open c_frows c_fshift c_fdx c_fdy c_fleastPlace c_fpairs c_foffset c_fplacesFirst c_fplaces) → va_S A s.heap H locs → lv_has ls 16 [(0, .ref (ad 2)), (5, .int ((16 * x3) + x2)), (8, .long x8_6), (10, .long x10_7)] → k x8_6 x10_7 x12_8 x13_9 = some (c_head', c_tail') → WW p l e (rmq 2 44) s m args below meth c Q H locs 139 ls []) h ?_ ?_
    · intro x8_6 x10_7 x12_8 x13_9 H locs ls hP hD hS hl h
      refine lv_aload_n hx hb dX5_readNumbers_139 rfl (lv_at hl 0 rfl) ?_
      refine r_get S gf_X5_27 hK hP 5 rfl rfl dX5_readNumbers_140 ?_
      refine lv_iload hx hb dX5_readNumbers_143 (lv_at hl 1 rfl) ?_
      refine lv_lload hx hb dX5_readNumbers_145 (lv_at hl 2 rfl) ?_
      refine r_last hx hb hK hP hD hS 11 rfl dX5_readNumbers_147 h (fun c_head_13 H locs hP hD hS h => ?_)
      have hP : VP G (sW ap ad la fa ra kc c_greys c_remembered c_columns c_rows c_settings c_reached c_order c_merged c_least c_greatest c_role c_head_13 c_tail c_rank c_kindFrom c_kindTo c_side c_across c_down c_count c_flats c_crowded c_kinds c_first c_second c_pairs c_pairsWith c_voted c_ways c_shcount c_numberOfWay c_list c_fcount c_regions c_left c_open c_frows c_fshift c_fdx c_fdy c_fleastPlace c_fpairs c_foffset c_fplacesFirst c_fplaces) H := hP
      have hD : va_D A (sW ap ad la fa ra kc c_greys c_remembered c_columns c_rows c_settings c_reached c_order c_merged c_least c_greatest c_role c_head_13 c_tail c_rank c_kindFrom c_kindTo c_side c_across c_down c_count c_flats c_crowded c_kinds c_first c_second c_pairs c_pairsWith c_voted c_ways c_shcount c_numberOfWay c_list c_fcount c_regions c_left c_open c_frows c_fshift c_fdx c_fdy c_fleastPlace c_fpairs c_foffset c_fplacesFirst c_fplaces) := hD
      refine lv_aload_n hx hb dX5_readNumbers_148 rfl (lv_at hl 0 rfl) ?_
      refine r_get S gf_X5_31 hK hP 5 rfl rfl dX5_readNumbers_149 ?_
      refine lv_iload hx hb dX5_readNumbers_152 (lv_at hl 1 rfl) ?_
      refine lv_lload hx hb dX5_readNumbers_154 (lv_at hl 3 rfl) ?_
      refine r_last hx hb hK hP hD hS 12 rfl dX5_readNumbers_156 h (fun c_tail_14 H locs hP hD hS h => ?_)
      have hP : VP G (sW ap ad la fa ra kc c_greys c_remembered c_columns c_rows c_settings c_reached c_order c_merged c_least c_greatest c_role c_head_13 c_tail_14 c_rank c_kindFrom c_kindTo c_side c_across c_down c_count c_flats c_crowded c_kinds c_first c_second c_pairs c_pairsWith c_voted c_ways c_shcount c_numberOfWay c_list c_fcount c_regions c_left c_open c_frows c_fshift c_fdx c_fdy c_fleastPlace c_fpairs c_foffset c_fplacesFirst c_fplaces) H := hP
      have hD : va_D A (sW ap ad la fa ra kc c_greys c_remembered c_columns c_rows c_settings c_reached c_order c_merged c_least c_greatest c_role c_head_13 c_tail_14 c_rank c_kindFrom c_kindTo c_side c_across c_down c_count c_flats c_crowded c_kinds c_first c_second c_pairs c_pairsWith c_voted c_ways c_shcount c_numberOfWay c_list c_fcount c_regions c_left c_open c_frows c_fshift c_fdx c_fdy c_fleastPlace c_fpairs c_foffset c_fplacesFirst c_fplaces) := hD
      cases h
      exact ret_v hx hb hr hQ hlocks hK hP hD hS dX5_readNumbers_157
    · intro k_10 K_11 h
      have L_12 : ∀ (n : Nat) (x8_6 : Int64) (x10_7 : Int64) (x12_8 : Int32) (x13_9 : Int32) (H : Heap) (locs : List Loc) (ls : Array Slot), VP G (sW ap ad la fa ra kc c_greys c_remembered c_columns c_rows c_settings c_reached c_order c_merged c_least c_greatest c_role c_head c_tail c_rank c_kindFrom c_kindTo c_side c_across c_down c_count c_flats c_crowded c_kinds c_first c_second c_pairs c_pairsWith c_voted c_ways c_shcount c_numberOfWay c_list c_fcount c_regions c_left c_open c_frows c_fshift c_fdx c_fdy c_fleastPlace c_fpairs c_foffset c_fplacesFirst c_fplaces) H → va_D A (sW ap ad la fa ra kc c_greys c_remembered c_columns c_rows c_settings c_reached c_order c_merged c_least c_greatest c_role c_head c_tail c_rank c_kindFrom c_kindTo c_side c_across c_down c_count c_flats c_crowded c_kinds c_first c_second c_pairs c_pairsWith c_voted c_ways c_shcount c_numberOfWay c_list c_fcount c_regions c_left c_open c_frows c_fshift c_fdx c_fdy c_fleastPlace c_fpairs c_foffset c_fplacesFirst c_fplaces) → va_S A s.heap H locs → lv_has ls 16 [(0, .ref (ad 2)), (1, .ref (ap 0)), (2, .int x2), (3, .int x3), (5, .int ((16 * x3) + x2)), (6, .int t_2), (7, .int (if 1 < y_5 then y_5 else 1)), (8, .long x8_6), (10, .long x10_7), (12, .int x12_8), (13, .int x13_9)] → f_X5_readNumbers_L51 FU x2 x3 t_2 (if 1 < y_5 then y_5 else 1) c_greys c_columns c_rows c_side k_10 n x8_6 x10_7 x12_8 x13_9 = some (c_head', c_tail') → WW p l e (rmq 2 44) s m args below meth c Q H locs 51 ls [] := by
        intro n
        induction n with
        | zero => intro x8_6 x10_7 x12_8 x13_9 H locs ls hP hD hS hl h; rw [f_X5_readNumbers_L51] at h; cases h
        | succ n ih =>
          intro x8_6 x10_7 x12_8 x13_9 H locs ls hP hD hS hl h
          rw [f_X5_readNumbers_L51] at h
          refine lv_iload hx hb dX5_readNumbers_51 (lv_at hl 10 rfl) ?_
          refine lv_iload_n hx hb dX5_readNumbers_53 rfl (lv_at hl 3 rfl) ?_
          refine lv_aload_n hx hb dX5_readNumbers_54 rfl (lv_at hl 0 rfl) ?_
          refine r_get S gf_X5_50 hK hP 5 rfl rfl dX5_readNumbers_55 ?_
          refine lv_iadd hx hb dX5_readNumbers_58 ?_
          refine lv_icmp_ge (tgt := 139) hx hb dX5_readNumbers_59 (by decide) (fun q_26 => ?_) (fun q_26 => ?_)
          · have h := it_t q_26 h
            exact K_11 x8_6 x10_7 x12_8 x13_9 _ _ _ hP hD hS (lv_sub hl [0, 4, 7, 8] rfl) h
          · have h := it_f q_26 h
            refine lv_iload_n hx hb dX5_readNumbers_62 rfl (lv_at hl 2 rfl) ?_
            refine lv_istore (lv' := [(14, .int x2), (0, .ref (ad 2)), (1, .ref (ap 0)), (2, .int x2), (3, .int x3), (5, .int ((16 * x3) + x2)), (6, .int t_2), (7, .int (if 1 < y_5 then y_5 else 1)), (8, .long x8_6), (10, .long x10_7), (12, .int x12_8), (13, .int x13_9)]) hx hb dX5_readNumbers_63 hl (by decide) rfl (fun ls hl => ?_)
            refine jn_w (t := fun k => f_X5_readNumbers_L65 FU x2 t_2 (if 1 < y_5 then y_5 else 1) x13_9 c_greys c_columns c_rows c_side k FU x8_6 x10_7 x12_8 x2) (fun (k : Int64 → Int64 → Int32 → Int32 → Option ((Nat → Int64) × (Nat → Int64))) => ∀ (x8_15 : Int64) (x10_16 : Int64) (x12_17 : Int32) (x14_18 : Int32) (H : Heap) (locs : List Loc) (ls : Array Slot), VP G (sW ap ad la fa ra kc c_greys c_remembered c_columns c_rows c_settings c_reached c_order c_merged c_least c_greatest c_role c_head c_tail c_rank c_kindFrom c_kindTo c_side c_across c_down c_count c_flats c_crowded c_kinds c_first c_second c_pairs c_pairsWith c_voted c_ways c_shcount c_numberOfWay c_list c_fcount c_regions c_left c_open c_frows c_fshift c_fdx c_fdy c_fleastPlace c_fpairs c_foffset c_fplacesFirst c_fplaces) H → va_D A (sW ap ad la fa ra kc c_greys c_remembered c_columns c_rows c_settings c_reached c_order c_merged c_least c_greatest c_role c_head c_tail c_rank c_kindFrom c_kindTo c_side c_across c_down c_count c_flats c_crowded c_kinds c_first c_second c_pairs c_pairsWith c_voted c_ways c_shcount c_numberOfWay c_list c_fcount c_regions c_left c_open c_frows c_fshift c_fdx c_fdy c_fleastPlace c_fpairs c_foffset c_fplacesFirst c_fplaces) → va_S A s.heap H locs → lv_has ls 16 [(0, .ref (ad 2)), (1, .ref (ap 0)), (2, .int x2), (3, .int x3), (5, .int ((16 * x3) + x2)), (6, .int t_2), (7, .int (if 1 < y_5 then y_5 else 1)), (8, .long x8_15), (10, .long x10_16), (12, .int x12_17), (13, .int x13_9)] → k x8_15 x10_16 x12_17 x14_18 = some (c_head', c_tail') → WW p l e (rmq 2 44) s m args below meth c Q H locs 133 ls []) h ?_ ?_
            · intro x8_15 x10_16 x12_17 x14_18 H locs ls hP hD hS hl h
              refine lv_iinc (v := (x13_9 + 1)) (lv' := [(13, .int (x13_9 + 1)), (0, .ref (ad 2)), (1, .ref (ap 0)), (2, .int x2), (3, .int x3), (5, .int ((16 * x3) + x2)), (6, .int t_2), (7, .int (if 1 < y_5 then y_5 else 1)), (8, .long x8_15), (10, .long x10_16), (12, .int x12_17)]) hx hb dX5_readNumbers_133 hl (k := 10) rfl rfl (by decide) rfl (fun ls hl => ?_)
              refine lv_goto (tgt := 51) hx hb dX5_readNumbers_136 (by decide) ?_
              exact ih x8_15 x10_16 x12_17 (x13_9 + 1) _ _ _ hP hD hS (lv_sub hl [1, 2, 3, 4, 5, 6, 7, 8, 9, 10, 0] rfl) h
            · intro k_19 K_20 h
              have L_21 : ∀ (n : Nat) (x8_15 : Int64) (x10_16 : Int64) (x12_17 : Int32) (x14_18 : Int32) (H : Heap) (locs : List Loc) (ls : Array Slot), VP G (sW ap ad la fa ra kc c_greys c_remembered c_columns c_rows c_settings c_reached c_order c_merged c_least c_greatest c_role c_head c_tail c_rank c_kindFrom c_kindTo c_side c_across c_down c_count c_flats c_crowded c_kinds c_first c_second c_pairs c_pairsWith c_voted c_ways c_shcount c_numberOfWay c_list c_fcount c_regions c_left c_open c_frows c_fshift c_fdx c_fdy c_fleastPlace c_fpairs c_foffset c_fplacesFirst c_fplaces) H → va_D A (sW ap ad la fa ra kc c_greys c_remembered c_columns c_rows c_settings c_reached c_order c_merged c_least c_greatest c_role c_head c_tail c_rank c_kindFrom c_kindTo c_side c_across c_down c_count c_flats c_crowded c_kinds c_first c_second c_pairs c_pairsWith c_voted c_ways c_shcount c_numberOfWay c_list c_fcount c_regions c_left c_open c_frows c_fshift c_fdx c_fdy c_fleastPlace c_fpairs c_foffset c_fplacesFirst c_fplaces) → va_S A s.heap H locs → lv_has ls 16 [(0, .ref (ad 2)), (1, .ref (ap 0)), (2, .int x2), (3, .int x3), (5, .int ((16 * x3) + x2)), (6, .int t_2), (7, .int (if 1 < y_5 then y_5 else 1)), (8, .long x8_15), (10, .long x10_16), (12, .int x12_17), (13, .int x13_9), (14, .int x14_18)] → f_X5_readNumbers_L65 FU x2 t_2 (if 1 < y_5 then y_5 else 1) x13_9 c_greys c_columns c_rows c_side k_19 n x8_15 x10_16 x12_17 x14_18 = some (c_head', c_tail') → WW p l e (rmq 2 44) s m args below meth c Q H locs 65 ls [] := by
                intro n
                induction n with
                | zero => intro x8_15 x10_16 x12_17 x14_18 H locs ls hP hD hS hl h; rw [f_X5_readNumbers_L65] at h; cases h
                | succ n ih =>
                  intro x8_15 x10_16 x12_17 x14_18 H locs ls hP hD hS hl h
                  rw [f_X5_readNumbers_L65] at h
                  refine lv_iload hx hb dX5_readNumbers_65 (lv_at hl 11 rfl) ?_
                  refine lv_iload_n hx hb dX5_readNumbers_67 rfl (lv_at hl 2 rfl) ?_
                  refine lv_aload_n hx hb dX5_readNumbers_68 rfl (lv_at hl 0 rfl) ?_
                  refine r_get S gf_X5_50 hK hP 5 rfl rfl dX5_readNumbers_69 ?_
                  refine lv_iadd hx hb dX5_readNumbers_72 ?_
                  refine lv_icmp_ge (tgt := 133) hx hb dX5_readNumbers_73 (by decide) (fun q_25 => ?_) (fun q_25 => ?_)
                  · have h := it_t q_25 h
                    exact K_20 x8_15 x10_16 x12_17 x14_18 _ _ _ hP hD hS (lv_sub hl [0, 1, 2, 3, 4, 5, 6, 7, 8, 9, 10] rfl) h
                  · have h := it_f q_25 h
                    refine lv_aload_n hx hb dX5_readNumbers_76 rfl (lv_at hl 1 rfl) ?_
                    refine lv_iload hx hb dX5_readNumbers_77 (lv_at hl 11 rfl) ?_
                    refine lv_iload hx hb dX5_readNumbers_79 (lv_at hl 10 rfl) ?_
                    obtain ⟨r_22, hq, h⟩ := bd1_e h
                    refine cp_Vi (rest := []) (ci := 2) [0, 1, 2] S hN cb_X2_greyOf ml_X5_88 ⟨Nat.le_of_ble_eq_true rfl, Nat.le_of_ble_eq_true rfl⟩ (c_X2_greyOf l G kc ap x14_18 x13_9 hq) hK hP hD hS hA rfl rfl rfl 0 rfl rfl rfl rfl rfl (Nat.le_of_ble_eq_true rfl) hl.1 dX5_readNumbers_81 (fun H locs hP hD hS => ?_)
                    have hP : VP G (sW ap ad la fa ra kc c_greys c_remembered c_columns c_rows c_settings c_reached c_order c_merged c_least c_greatest c_role c_head c_tail c_rank c_kindFrom c_kindTo c_side c_across c_down c_count c_flats c_crowded c_kinds c_first c_second c_pairs c_pairsWith c_voted c_ways c_shcount c_numberOfWay c_list c_fcount c_regions c_left c_open c_frows c_fshift c_fdx c_fdy c_fleastPlace c_fpairs c_foffset c_fplacesFirst c_fplaces) H := hP
                    have hD : va_D A (sW ap ad la fa ra kc c_greys c_remembered c_columns c_rows c_settings c_reached c_order c_merged c_least c_greatest c_role c_head c_tail c_rank c_kindFrom c_kindTo c_side c_across c_down c_count c_flats c_crowded c_kinds c_first c_second c_pairs c_pairsWith c_voted c_ways c_shcount c_numberOfWay c_list c_fcount c_regions c_left c_open c_frows c_fshift c_fdx c_fdy c_fleastPlace c_fpairs c_foffset c_fplacesFirst c_fplaces) := hD
                    refine lv_iload hx hb dX5_readNumbers_84 (lv_at hl 5 rfl) ?_
                    refine lv_isub hx hb dX5_readNumbers_86 ?_
                    refine lv_iload hx hb dX5_readNumbers_87 (lv_at hl 6 rfl) ?_
                    refine r_idiv hx hb dX5_readNumbers_89 h (fun z_23 h => ?_)
                    refine lv_istore (lv' := [(15, .int z_23), (0, .ref (ad 2)), (1, .ref (ap 0)), (2, .int x2), (3, .int x3), (5, .int ((16 * x3) + x2)), (6, .int t_2), (7, .int (if 1 < y_5 then y_5 else 1)), (8, .long x8_15), (10, .long x10_16), (12, .int x12_17), (13, .int x13_9), (14, .int x14_18)]) hx hb dX5_readNumbers_90 hl (by decide) rfl (fun ls hl => ?_)
                    refine lv_iload hx hb dX5_readNumbers_92 (lv_at hl 10 rfl) ?_
                    refine lv_bipush (v := 9) hx hb dX5_readNumbers_94 (by decide) ?_
                    refine lv_icmp_ge (tgt := 113) hx hb dX5_readNumbers_96 (by decide) (fun q_24 => ?_) (fun q_24 => ?_)
                    · have h := it_t q_24 h
                      refine lv_lload hx hb dX5_readNumbers_113 (lv_at hl 9 rfl) ?_
                      refine lv_bipush (v := 7) hx hb dX5_readNumbers_115 (by decide) ?_
                      refine lv_lshl hx hb dX5_readNumbers_117 rfl ?_
                      refine lv_iload hx hb dX5_readNumbers_118 (lv_at hl 0 rfl) ?_
                      refine lv_i2l hx hb dX5_readNumbers_120 rfl ?_
                      refine lv_lor hx hb dX5_readNumbers_121 ?_
                      refine lv_lstore (lv' := [(10, .long ((x10_16 <<< ((7 : Int32).toInt64 &&& 63)) ||| (z_23 : Int32).toInt64)), (15, .int z_23), (0, .ref (ad 2)), (1, .ref (ap 0)), (2, .int x2), (3, .int x3), (5, .int ((16 * x3) + x2)), (6, .int t_2), (7, .int (if 1 < y_5 then y_5 else 1)), (8, .long x8_15), (12, .int x12_17), (13, .int x13_9), (14, .int x14_18)]) hx hb dX5_readNumbers_122 hl (by decide) rfl (fun ls hl => ?_)
                      refine lv_iinc (v := (x12_17 + 1)) (lv' := [(12, .int (x12_17 + 1)), (10, .long ((x10_16 <<< ((7 : Int32).toInt64 &&& 63)) ||| (z_23 : Int32).toInt64)), (15, .int z_23), (0, .ref (ad 2)), (1, .ref (ap 0)), (2, .int x2), (3, .int x3), (5, .int ((16 * x3) + x2)), (6, .int t_2), (7, .int (if 1 < y_5 then y_5 else 1)), (8, .long x8_15), (13, .int x13_9), (14, .int x14_18)]) hx hb dX5_readNumbers_124 hl (k := 10) rfl rfl (by decide) rfl (fun ls hl => ?_)
                      refine lv_iinc (v := (x14_18 + 1)) (lv' := [(14, .int (x14_18 + 1)), (12, .int (x12_17 + 1)), (10, .long ((x10_16 <<< ((7 : Int32).toInt64 &&& 63)) ||| (z_23 : Int32).toInt64)), (15, .int z_23), (0, .ref (ad 2)), (1, .ref (ap 0)), (2, .int x2), (3, .int x3), (5, .int ((16 * x3) + x2)), (6, .int t_2), (7, .int (if 1 < y_5 then y_5 else 1)), (8, .long x8_15), (13, .int x13_9)]) hx hb dX5_readNumbers_127 hl (k := 12) rfl rfl (by decide) rfl (fun ls hl => ?_)
                      refine lv_goto (tgt := 65) hx hb dX5_readNumbers_130 (by decide) ?_
                      exact ih x8_15 ((x10_16 <<< ((7 : Int32).toInt64 &&& 63)) ||| (z_23 : Int32).toInt64) (x12_17 + 1) (x14_18 + 1) _ _ _ hP hD hS (lv_sub hl [4, 5, 6, 7, 8, 9, 10, 11, 2, 1, 12, 0] rfl) h
                    · have h := it_f q_24 h
                      refine lv_lload hx hb dX5_readNumbers_99 (lv_at hl 8 rfl) ?_
                      refine lv_bipush (v := 7) hx hb dX5_readNumbers_101 (by decide) ?_
                      refine lv_lshl hx hb dX5_readNumbers_103 rfl ?_
                      refine lv_iload hx hb dX5_readNumbers_104 (lv_at hl 0 rfl) ?_
                      refine lv_i2l hx hb dX5_readNumbers_106 rfl ?_
                      refine lv_lor hx hb dX5_readNumbers_107 ?_
                      refine lv_lstore (lv' := [(8, .long ((x8_15 <<< ((7 : Int32).toInt64 &&& 63)) ||| (z_23 : Int32).toInt64)), (15, .int z_23), (0, .ref (ad 2)), (1, .ref (ap 0)), (2, .int x2), (3, .int x3), (5, .int ((16 * x3) + x2)), (6, .int t_2), (7, .int (if 1 < y_5 then y_5 else 1)), (10, .long x10_16), (12, .int x12_17), (13, .int x13_9), (14, .int x14_18)]) hx hb dX5_readNumbers_108 hl (by decide) rfl (fun ls hl => ?_)
                      refine lv_goto (tgt := 124) hx hb dX5_readNumbers_110 (by decide) ?_
                      refine lv_iinc (v := (x12_17 + 1)) (lv' := [(12, .int (x12_17 + 1)), (8, .long ((x8_15 <<< ((7 : Int32).toInt64 &&& 63)) ||| (z_23 : Int32).toInt64)), (15, .int z_23), (0, .ref (ad 2)), (1, .ref (ap 0)), (2, .int x2), (3, .int x3), (5, .int ((16 * x3) + x2)), (6, .int t_2), (7, .int (if 1 < y_5 then y_5 else 1)), (10, .long x10_16), (13, .int x13_9), (14, .int x14_18)]) hx hb dX5_readNumbers_124 hl (k := 10) rfl rfl (by decide) rfl (fun ls hl => ?_)
                      refine lv_iinc (v := (x14_18 + 1)) (lv' := [(14, .int (x14_18 + 1)), (12, .int (x12_17 + 1)), (8, .long ((x8_15 <<< ((7 : Int32).toInt64 &&& 63)) ||| (z_23 : Int32).toInt64)), (15, .int z_23), (0, .ref (ad 2)), (1, .ref (ap 0)), (2, .int x2), (3, .int x3), (5, .int ((16 * x3) + x2)), (6, .int t_2), (7, .int (if 1 < y_5 then y_5 else 1)), (10, .long x10_16), (13, .int x13_9)]) hx hb dX5_readNumbers_127 hl (k := 12) rfl rfl (by decide) rfl (fun ls hl => ?_)
                      refine lv_goto (tgt := 65) hx hb dX5_readNumbers_130 (by decide) ?_
                      exact ih ((x8_15 <<< ((7 : Int32).toInt64 &&& 63)) ||| (z_23 : Int32).toInt64) x10_16 (x12_17 + 1) (x14_18 + 1) _ _ _ hP hD hS (lv_sub hl [4, 5, 6, 7, 8, 9, 10, 2, 11, 1, 12, 0] rfl) h
              exact L_21 FU x8_6 x10_7 x12_8 x2 _ _ _ hP hD hS (lv_sub hl [1, 2, 3, 4, 5, 6, 7, 8, 9, 10, 11, 0] rfl) h
      exact L_12 FU 0 0 0 x3 _ _ _ hP hD hS (lv_sub hl [6, 7, 8, 9, 11, 5, 4, 3, 2, 1, 0] rfl) h
  · intro j_3 J_4 h
    refine lv_icmp_ne (tgt := 26) hx hb dX5_readNumbers_13 (by decide) (fun q_28 => ?_) (fun q_28 => ?_)
    · have h := it_f q_28 h
      refine lv_iconst (v := 0) hx hb dX5_readNumbers_26 (by decide) ?_
      exact J_4 0 _ _ _ hP hD hS (lv_sub hl [1, 2, 3, 4, 5, 0] rfl) h
    · have h := it_t q_28 h
      refine lv_aload_n hx hb dX5_readNumbers_16 rfl (lv_at hl 1 rfl) ?_
      refine r_get S gf_X5_18 hK hP 5 rfl rfl dX5_readNumbers_17 ?_
      refine lv_iload hx hb dX5_readNumbers_20 (lv_at hl 0 rfl) ?_
      refine r_iald hx hb hK hP 8 rfl dX5_readNumbers_22 h (fun y_27 h => ?_)
      refine lv_goto (tgt := 27) hx hb dX5_readNumbers_23 (by decide) ?_
      exact J_4 y_27 _ _ _ hP hD hS (lv_sub hl [1, 2, 3, 4, 5, 0] rfl) h
set_option maxHeartbeats 1000000 in
set_option maxRecDepth 100000 in
theorem c_X5_isBefore (l : Launch) (G : va_G) (kc : Nat → ClassId) (ap ad la fa ra : Nat → Nat) {c_greys : (Nat → Int32)} {c_remembered : (Nat → Int32)} {c_columns : Int32} {c_rows : Int32} {c_settings : (Nat → Int32)} {c_reached : Int32} {c_order : (Nat → Int32)} {c_merged : (Nat → Int32)} {c_least : (Nat → Int32)} {c_greatest : (Nat → Int32)} {c_role : (Nat → Int32)} {c_head : (Nat → Int64)} {c_tail : (Nat → Int64)} {c_rank : (Nat → Int32)} {c_kindFrom : (Nat → Int32)} {c_kindTo : (Nat → Int32)} {c_side : Int32} {c_across : Int32} {c_down : Int32} {c_count : Int32} {c_flats : Int32} {c_crowded : Int32} {c_kinds : Int32} {c_first : (Nat → Int32)} {c_second : (Nat → Int32)} {c_pairs : Int32} {c_pairsWith : (Nat → Int32)} {c_voted : (Nat → Int32)} {c_ways : (Nat → Int32)} {c_shcount : Int32} {c_numberOfWay : (Nat → Int32)} {c_list : (Nat → Nat)} {c_fcount : Int32} {c_regions : (Nat → Int32)} {c_left : (Nat → Nat → Int32)} {c_open : (Nat → Int32)} {c_frows : (Nat → Nat → Int32)} {c_fshift : (Nat → Int32)} {c_fdx : (Nat → Int32)} {c_fdy : (Nat → Int32)} {c_fleastPlace : (Nat → Int32)} {c_fpairs : (Nat → Int32)} {c_foffset : (Nat → Int32)} {c_fplacesFirst : (Nat → Int32)} {c_fplaces : (Nat → Int32)} (x1 : Int32) (x2 : Int32) {r : Int32} {FU : Nat} (h : f_X5_isBefore FU c_head c_tail x1 x2 = some r) : CTi l G kc yX5_isBefore cX5_isBefore 3 (some .boolean) (rmq 0 0) [.ref (ad 2), .int x1, .int x2] (sW ap ad la fa ra kc c_greys c_remembered c_columns c_rows c_settings c_reached c_order c_merged c_least c_greatest c_role c_head c_tail c_rank c_kindFrom c_kindTo c_side c_across c_down c_count c_flats c_crowded c_kinds c_first c_second c_pairs c_pairsWith c_voted c_ways c_shcount c_numberOfWay c_list c_fcount c_regions c_left c_open c_frows c_fshift c_fdx c_fdy c_fleastPlace c_fpairs c_foffset c_fplacesFirst c_fplaces) (sW ap ad la fa ra kc c_greys c_remembered c_columns c_rows c_settings c_reached c_order c_merged c_least c_greatest c_role c_head c_tail c_rank c_kindFrom c_kindTo c_side c_across c_down c_count c_flats c_crowded c_kinds c_first c_second c_pairs c_pairsWith c_voted c_ways c_shcount c_numberOfWay c_list c_fcount c_regions c_left c_open c_frows c_fshift c_fdx c_fdy c_fleastPlace c_fpairs c_foffset c_fplacesFirst c_fplaces) r := by
  refine CTi.mk (by decide) (Nat.le_of_ble_eq_true rfl) ?_
  intro p e s m args below meth c A ls Q hQ S hr hlocks hN hA hK hl hP hD hS
  have hx := S.1
  have hb := S.2.1
  have hl : lv_has ls 3 [(0, .ref (ad 2)), (1, .int x1), (2, .int x2)] := hl
  unfold f_X5_isBefore at h
  refine lv_aload_n hx hb dX5_isBefore_0 rfl (lv_at hl 0 rfl) ?_
  refine r_get S gf_X5_27 hK hP 5 rfl rfl dX5_isBefore_1 ?_
  refine lv_iload_n hx hb dX5_isBefore_4 rfl (lv_at hl 1 rfl) ?_
  refine r_lald hx hb hK hP 11 rfl dX5_isBefore_5 h (fun y_1 h => ?_)
  refine lv_aload_n hx hb dX5_isBefore_6 rfl (lv_at hl 0 rfl) ?_
  refine r_get S gf_X5_27 hK hP 5 rfl rfl dX5_isBefore_7 ?_
  refine lv_iload_n hx hb dX5_isBefore_10 rfl (lv_at hl 2 rfl) ?_
  refine r_lald hx hb hK hP 11 rfl dX5_isBefore_11 h (fun y_2 h => ?_)
  refine W.lcmp hx hb dX5_isBefore_12 ?_
  refine lv_if_eq (tgt := 38) hx hb dX5_isBefore_13 (by decide) (fun q_9 => ?_) (fun q_9 => ?_)
  · have h := it_t q_9 h
    refine lv_aload_n hx hb dX5_isBefore_38 rfl (lv_at hl 0 rfl) ?_
    refine r_get S gf_X5_31 hK hP 5 rfl rfl dX5_isBefore_39 ?_
    refine lv_iload_n hx hb dX5_isBefore_42 rfl (lv_at hl 1 rfl) ?_
    refine r_lald hx hb hK hP 12 rfl dX5_isBefore_43 h (fun y_3 h => ?_)
    refine lv_aload_n hx hb dX5_isBefore_44 rfl (lv_at hl 0 rfl) ?_
    refine r_get S gf_X5_31 hK hP 5 rfl rfl dX5_isBefore_45 ?_
    refine lv_iload_n hx hb dX5_isBefore_48 rfl (lv_at hl 2 rfl) ?_
    refine r_lald hx hb hK hP 12 rfl dX5_isBefore_49 h (fun y_4 h => ?_)
    refine W.lcmp hx hb dX5_isBefore_50 ?_
    refine lv_if_ge (tgt := 58) hx hb dX5_isBefore_51 (by decide) (fun q_5 => ?_) (fun q_5 => ?_)
    · have h := it_t q_5 h
      refine lv_iconst (v := 0) hx hb dX5_isBefore_58 (by decide) ?_
      cases h
      exact ret_i hx hb hr rfl hQ hlocks hK hP hD hS dX5_isBefore_59
    · have h := it_f q_5 h
      refine lv_iconst (v := 1) hx hb dX5_isBefore_54 (by decide) ?_
      refine lv_goto (tgt := 59) hx hb dX5_isBefore_55 (by decide) ?_
      cases h
      exact ret_i hx hb hr rfl hQ hlocks hK hP hD hS dX5_isBefore_59
  · have h := it_f q_9 h
    refine lv_aload_n hx hb dX5_isBefore_16 rfl (lv_at hl 0 rfl) ?_
    refine r_get S gf_X5_27 hK hP 5 rfl rfl dX5_isBefore_17 ?_
    refine lv_iload_n hx hb dX5_isBefore_20 rfl (lv_at hl 1 rfl) ?_
    refine r_lald hx hb hK hP 11 rfl dX5_isBefore_21 h (fun y_6 h => ?_)
    refine lv_aload_n hx hb dX5_isBefore_22 rfl (lv_at hl 0 rfl) ?_
    refine r_get S gf_X5_27 hK hP 5 rfl rfl dX5_isBefore_23 ?_
    refine lv_iload_n hx hb dX5_isBefore_26 rfl (lv_at hl 2 rfl) ?_
    refine r_lald hx hb hK hP 11 rfl dX5_isBefore_27 h (fun y_7 h => ?_)
    refine W.lcmp hx hb dX5_isBefore_28 ?_
    refine lv_if_ge (tgt := 36) hx hb dX5_isBefore_29 (by decide) (fun q_8 => ?_) (fun q_8 => ?_)
    · have h := it_t q_8 h
      refine lv_iconst (v := 0) hx hb dX5_isBefore_36 (by decide) ?_
      cases h
      exact ret_i hx hb hr rfl hQ hlocks hK hP hD hS dX5_isBefore_37
    · have h := it_f q_8 h
      refine lv_iconst (v := 1) hx hb dX5_isBefore_32 (by decide) ?_
      refine lv_goto (tgt := 37) hx hb dX5_isBefore_33 (by decide) ?_
      cases h
      exact ret_i hx hb hr rfl hQ hlocks hK hP hD hS dX5_isBefore_37
set_option maxHeartbeats 1000000 in
set_option maxRecDepth 100000 in
theorem c_X5_merge (l : Launch) (G : va_G) (kc : Nat → ClassId) (ap ad la fa ra : Nat → Nat) {c_greys : (Nat → Int32)} {c_remembered : (Nat → Int32)} {c_columns : Int32} {c_rows : Int32} {c_settings : (Nat → Int32)} {c_reached : Int32} {c_order : (Nat → Int32)} {c_merged : (Nat → Int32)} {c_least : (Nat → Int32)} {c_greatest : (Nat → Int32)} {c_role : (Nat → Int32)} {c_head : (Nat → Int64)} {c_tail : (Nat → Int64)} {c_rank : (Nat → Int32)} {c_kindFrom : (Nat → Int32)} {c_kindTo : (Nat → Int32)} {c_side : Int32} {c_across : Int32} {c_down : Int32} {c_count : Int32} {c_flats : Int32} {c_crowded : Int32} {c_kinds : Int32} {c_first : (Nat → Int32)} {c_second : (Nat → Int32)} {c_pairs : Int32} {c_pairsWith : (Nat → Int32)} {c_voted : (Nat → Int32)} {c_ways : (Nat → Int32)} {c_shcount : Int32} {c_numberOfWay : (Nat → Int32)} {c_list : (Nat → Nat)} {c_fcount : Int32} {c_regions : (Nat → Int32)} {c_left : (Nat → Nat → Int32)} {c_open : (Nat → Int32)} {c_frows : (Nat → Nat → Int32)} {c_fshift : (Nat → Int32)} {c_fdx : (Nat → Int32)} {c_fdy : (Nat → Int32)} {c_fleastPlace : (Nat → Int32)} {c_fpairs : (Nat → Int32)} {c_foffset : (Nat → Int32)} {c_fplacesFirst : (Nat → Int32)} {c_fplaces : (Nat → Int32)} (x1 : Int32) (x2 : Int32) (x3 : Int32) {c_merged' : (Nat → Int32)} {FU : Nat} (h : f_X5_merge FU c_order c_merged c_head c_tail x1 x2 x3 = some c_merged') : CTv l G kc yX5_merge cX5_merge 8 none (rmq 1 22) [.ref (ad 2), .int x1, .int x2, .int x3] (sW ap ad la fa ra kc c_greys c_remembered c_columns c_rows c_settings c_reached c_order c_merged c_least c_greatest c_role c_head c_tail c_rank c_kindFrom c_kindTo c_side c_across c_down c_count c_flats c_crowded c_kinds c_first c_second c_pairs c_pairsWith c_voted c_ways c_shcount c_numberOfWay c_list c_fcount c_regions c_left c_open c_frows c_fshift c_fdx c_fdy c_fleastPlace c_fpairs c_foffset c_fplacesFirst c_fplaces) (sW ap ad la fa ra kc c_greys c_remembered c_columns c_rows c_settings c_reached c_order (c_merged') c_least c_greatest c_role c_head c_tail c_rank c_kindFrom c_kindTo c_side c_across c_down c_count c_flats c_crowded c_kinds c_first c_second c_pairs c_pairsWith c_voted c_ways c_shcount c_numberOfWay c_list c_fcount c_regions c_left c_open c_frows c_fshift c_fdx c_fdy c_fleastPlace c_fpairs c_foffset c_fplacesFirst c_fplaces) := by
  refine CTv.mk (by decide) (Nat.le_of_ble_eq_true rfl) ?_
  intro p e s m args below meth c A ls Q hQ S hr hlocks hN hA hK hl hP hD hS
  have hx := S.1
  have hb := S.2.1
  have hl : lv_has ls 8 [(0, .ref (ad 2)), (1, .int x1), (2, .int x2), (3, .int x3)] := hl
  unfold f_X5_merge at h
  refine lv_iload_n hx hb dX5_merge_0 rfl (lv_at hl 1 rfl) ?_
  refine lv_istore (lv' := [(4, .int x1), (0, .ref (ad 2)), (1, .int x1), (2, .int x2), (3, .int x3)]) hx hb dX5_merge_1 hl (by decide) rfl (fun ls hl => ?_)
  refine lv_iload_n hx hb dX5_merge_3 rfl (lv_at hl 3 rfl) ?_
  refine lv_istore (lv' := [(5, .int x2), (4, .int x1), (0, .ref (ad 2)), (1, .int x1), (2, .int x2), (3, .int x3)]) hx hb dX5_merge_4 hl (by decide) rfl (fun ls hl => ?_)
  refine lv_iload_n hx hb dX5_merge_6 rfl (lv_at hl 3 rfl) ?_
  refine lv_istore (lv' := [(6, .int x1), (5, .int x2), (4, .int x1), (0, .ref (ad 2)), (1, .int x1), (2, .int x2), (3, .int x3)]) hx hb dX5_merge_7 hl (by decide) rfl (fun ls hl => ?_)
  refine jn_w (t := fun k => f_X5_merge_L9 FU x2 x3 c_order c_head c_tail k FU x1 x2 x1 c_merged) (fun (k : Int32 → Int32 → Int32 → (Nat → Int32) → Option ((Nat → Int32))) => ∀ (x4_1 : Int32) (x5_2 : Int32) (x6_3 : Int32) (c_merged_4 : (Nat → Int32)) (H : Heap) (locs : List Loc) (ls : Array Slot), VP G (sW ap ad la fa ra kc c_greys c_remembered c_columns c_rows c_settings c_reached c_order c_merged_4 c_least c_greatest c_role c_head c_tail c_rank c_kindFrom c_kindTo c_side c_across c_down c_count c_flats c_crowded c_kinds c_first c_second c_pairs c_pairsWith c_voted c_ways c_shcount c_numberOfWay c_list c_fcount c_regions c_left c_open c_frows c_fshift c_fdx c_fdy c_fleastPlace c_fpairs c_foffset c_fplacesFirst c_fplaces) H → va_D A (sW ap ad la fa ra kc c_greys c_remembered c_columns c_rows c_settings c_reached c_order c_merged_4 c_least c_greatest c_role c_head c_tail c_rank c_kindFrom c_kindTo c_side c_across c_down c_count c_flats c_crowded c_kinds c_first c_second c_pairs c_pairsWith c_voted c_ways c_shcount c_numberOfWay c_list c_fcount c_regions c_left c_open c_frows c_fshift c_fdx c_fdy c_fleastPlace c_fpairs c_foffset c_fplacesFirst c_fplaces) → va_S A s.heap H locs → lv_has ls 8 [] → k x4_1 x5_2 x6_3 c_merged_4 = some c_merged' → WW p l e (rmq 1 22) s m args below meth c Q H locs 103 ls []) h ?_ ?_
  · intro x4_1 x5_2 x6_3 c_merged_4 H locs ls hP hD hS hl h
    cases h
    exact ret_v hx hb hr hQ hlocks hK hP hD hS dX5_merge_103
  · intro k_5 K_6 h
    have L_7 : ∀ (n : Nat) (x4_1 : Int32) (x5_2 : Int32) (x6_3 : Int32) (c_merged_4 : (Nat → Int32)) (H : Heap) (locs : List Loc) (ls : Array Slot), VP G (sW ap ad la fa ra kc c_greys c_remembered c_columns c_rows c_settings c_reached c_order c_merged_4 c_least c_greatest c_role c_head c_tail c_rank c_kindFrom c_kindTo c_side c_across c_down c_count c_flats c_crowded c_kinds c_first c_second c_pairs c_pairsWith c_voted c_ways c_shcount c_numberOfWay c_list c_fcount c_regions c_left c_open c_frows c_fshift c_fdx c_fdy c_fleastPlace c_fpairs c_foffset c_fplacesFirst c_fplaces) H → va_D A (sW ap ad la fa ra kc c_greys c_remembered c_columns c_rows c_settings c_reached c_order c_merged_4 c_least c_greatest c_role c_head c_tail c_rank c_kindFrom c_kindTo c_side c_across c_down c_count c_flats c_crowded c_kinds c_first c_second c_pairs c_pairsWith c_voted c_ways c_shcount c_numberOfWay c_list c_fcount c_regions c_left c_open c_frows c_fshift c_fdx c_fdy c_fleastPlace c_fpairs c_foffset c_fplacesFirst c_fplaces) → va_S A s.heap H locs → lv_has ls 8 [(0, .ref (ad 2)), (2, .int x2), (3, .int x3), (4, .int x4_1), (5, .int x5_2), (6, .int x6_3)] → f_X5_merge_L9 FU x2 x3 c_order c_head c_tail k_5 n x4_1 x5_2 x6_3 c_merged_4 = some c_merged' → WW p l e (rmq 1 22) s m args below meth c Q H locs 9 ls [] := by
      intro n
      induction n with
      | zero => intro x4_1 x5_2 x6_3 c_merged_4 H locs ls hP hD hS hl h; rw [f_X5_merge_L9] at h; cases h
      | succ n ih =>
        intro x4_1 x5_2 x6_3 c_merged_4 H locs ls hP hD hS hl h
        rw [f_X5_merge_L9] at h
        refine lv_iload hx hb dX5_merge_9 (lv_at hl 5 rfl) ?_
        refine lv_iload_n hx hb dX5_merge_11 rfl (lv_at hl 2 rfl) ?_
        refine lv_icmp_ge (tgt := 103) hx hb dX5_merge_12 (by decide) (fun q_22 => ?_) (fun q_22 => ?_)
        · have h := it_t q_22 h
          exact K_6 x4_1 x5_2 x6_3 c_merged_4 _ _ _ hP hD hS (lv_sub hl [] rfl) h
        · have h := it_f q_22 h
          refine lv_iload hx hb dX5_merge_15 (lv_at hl 3 rfl) ?_
          refine lv_iload_n hx hb dX5_merge_17 rfl (lv_at hl 1 rfl) ?_
          refine jn_w (fun (k : Int32 → Option ((Nat → Int32))) => ∀ (t_8 : Int32) (H : Heap) (locs : List Loc) (ls : Array Slot), VP G (sW ap ad la fa ra kc c_greys c_remembered c_columns c_rows c_settings c_reached c_order c_merged_4 c_least c_greatest c_role c_head c_tail c_rank c_kindFrom c_kindTo c_side c_across c_down c_count c_flats c_crowded c_kinds c_first c_second c_pairs c_pairsWith c_voted c_ways c_shcount c_numberOfWay c_list c_fcount c_regions c_left c_open c_frows c_fshift c_fdx c_fdy c_fleastPlace c_fpairs c_foffset c_fplacesFirst c_fplaces) H → va_D A (sW ap ad la fa ra kc c_greys c_remembered c_columns c_rows c_settings c_reached c_order c_merged_4 c_least c_greatest c_role c_head c_tail c_rank c_kindFrom c_kindTo c_side c_across c_down c_count c_flats c_crowded c_kinds c_first c_second c_pairs c_pairsWith c_voted c_ways c_shcount c_numberOfWay c_list c_fcount c_regions c_left c_open c_frows c_fshift c_fdx c_fdy c_fleastPlace c_fpairs c_foffset c_fplacesFirst c_fplaces) → va_S A s.heap H locs → lv_has ls 8 [(0, .ref (ad 2)), (2, .int x2), (3, .int x3), (4, .int x4_1), (5, .int x5_2), (6, .int x6_3)] → k t_8 = some c_merged' → WW p l e (rmq 1 22) s m args below meth c Q H locs 53 ls [.int t_8]) h ?_ ?_
          · intro t_8 H locs ls hP hD hS hl h
            refine lv_istore (lv' := [(7, .int t_8), (0, .ref (ad 2)), (2, .int x2), (3, .int x3), (4, .int x4_1), (5, .int x5_2), (6, .int x6_3)]) hx hb dX5_merge_53 hl (by decide) rfl (fun ls hl => ?_)
            refine lv_iload hx hb dX5_merge_55 (lv_at hl 0 rfl) ?_
            refine lv_if_eq (tgt := 80) hx hb dX5_merge_57 (by decide) (fun q_15 => ?_) (fun q_15 => ?_)
            · have h := it_t q_15 h
              refine lv_aload_n hx hb dX5_merge_80 rfl (lv_at hl 1 rfl) ?_
              refine r_get S gf_X5_15 hK hP 5 rfl rfl dX5_merge_81 ?_
              refine lv_iload hx hb dX5_merge_84 (lv_at hl 6 rfl) ?_
              refine lv_aload_n hx hb dX5_merge_86 rfl (lv_at hl 1 rfl) ?_
              refine r_get S gf_X5_9 hK hP 5 rfl rfl dX5_merge_87 ?_
              refine lv_iload hx hb dX5_merge_90 (lv_at hl 4 rfl) ?_
              refine r_iald hx hb hK hP 6 rfl dX5_merge_92 h (fun y_11 h => ?_)
              refine r_iast hx hb hK hP hD hS 7 rfl dX5_merge_93 h (fun c_merged_12 H locs hP hD hS h => ?_)
              have hP : VP G (sW ap ad la fa ra kc c_greys c_remembered c_columns c_rows c_settings c_reached c_order c_merged_12 c_least c_greatest c_role c_head c_tail c_rank c_kindFrom c_kindTo c_side c_across c_down c_count c_flats c_crowded c_kinds c_first c_second c_pairs c_pairsWith c_voted c_ways c_shcount c_numberOfWay c_list c_fcount c_regions c_left c_open c_frows c_fshift c_fdx c_fdy c_fleastPlace c_fpairs c_foffset c_fplacesFirst c_fplaces) H := hP
              have hD : va_D A (sW ap ad la fa ra kc c_greys c_remembered c_columns c_rows c_settings c_reached c_order c_merged_12 c_least c_greatest c_role c_head c_tail c_rank c_kindFrom c_kindTo c_side c_across c_down c_count c_flats c_crowded c_kinds c_first c_second c_pairs c_pairsWith c_voted c_ways c_shcount c_numberOfWay c_list c_fcount c_regions c_left c_open c_frows c_fshift c_fdx c_fdy c_fleastPlace c_fpairs c_foffset c_fplacesFirst c_fplaces) := hD
              refine lv_iinc (v := (x4_1 + 1)) (lv' := [(4, .int (x4_1 + 1)), (7, .int t_8), (0, .ref (ad 2)), (2, .int x2), (3, .int x3), (5, .int x5_2), (6, .int x6_3)]) hx hb dX5_merge_94 hl (k := 4) rfl rfl (by decide) rfl (fun ls hl => ?_)
              refine lv_iinc (v := (x6_3 + 1)) (lv' := [(6, .int (x6_3 + 1)), (4, .int (x4_1 + 1)), (7, .int t_8), (0, .ref (ad 2)), (2, .int x2), (3, .int x3), (5, .int x5_2)]) hx hb dX5_merge_97 hl (k := 6) rfl rfl (by decide) rfl (fun ls hl => ?_)
              refine lv_goto (tgt := 9) hx hb dX5_merge_100 (by decide) ?_
              exact ih (x4_1 + 1) x5_2 (x6_3 + 1) c_merged_12 _ _ _ hP hD hS (lv_sub hl [3, 4, 5, 1, 6, 0] rfl) h
            · have h := it_f q_15 h
              refine lv_aload_n hx hb dX5_merge_60 rfl (lv_at hl 1 rfl) ?_
              refine r_get S gf_X5_15 hK hP 5 rfl rfl dX5_merge_61 ?_
              refine lv_iload hx hb dX5_merge_64 (lv_at hl 6 rfl) ?_
              refine lv_aload_n hx hb dX5_merge_66 rfl (lv_at hl 1 rfl) ?_
              refine r_get S gf_X5_9 hK hP 5 rfl rfl dX5_merge_67 ?_
              refine lv_iload hx hb dX5_merge_70 (lv_at hl 5 rfl) ?_
              refine r_iald hx hb hK hP 6 rfl dX5_merge_72 h (fun y_13 h => ?_)
              refine r_iast hx hb hK hP hD hS 7 rfl dX5_merge_73 h (fun c_merged_14 H locs hP hD hS h => ?_)
              have hP : VP G (sW ap ad la fa ra kc c_greys c_remembered c_columns c_rows c_settings c_reached c_order c_merged_14 c_least c_greatest c_role c_head c_tail c_rank c_kindFrom c_kindTo c_side c_across c_down c_count c_flats c_crowded c_kinds c_first c_second c_pairs c_pairsWith c_voted c_ways c_shcount c_numberOfWay c_list c_fcount c_regions c_left c_open c_frows c_fshift c_fdx c_fdy c_fleastPlace c_fpairs c_foffset c_fplacesFirst c_fplaces) H := hP
              have hD : va_D A (sW ap ad la fa ra kc c_greys c_remembered c_columns c_rows c_settings c_reached c_order c_merged_14 c_least c_greatest c_role c_head c_tail c_rank c_kindFrom c_kindTo c_side c_across c_down c_count c_flats c_crowded c_kinds c_first c_second c_pairs c_pairsWith c_voted c_ways c_shcount c_numberOfWay c_list c_fcount c_regions c_left c_open c_frows c_fshift c_fdx c_fdy c_fleastPlace c_fpairs c_foffset c_fplacesFirst c_fplaces) := hD
              refine lv_iinc (v := (x5_2 + 1)) (lv' := [(5, .int (x5_2 + 1)), (7, .int t_8), (0, .ref (ad 2)), (2, .int x2), (3, .int x3), (4, .int x4_1), (6, .int x6_3)]) hx hb dX5_merge_74 hl (k := 5) rfl rfl (by decide) rfl (fun ls hl => ?_)
              refine lv_goto (tgt := 97) hx hb dX5_merge_77 (by decide) ?_
              refine lv_iinc (v := (x6_3 + 1)) (lv' := [(6, .int (x6_3 + 1)), (5, .int (x5_2 + 1)), (7, .int t_8), (0, .ref (ad 2)), (2, .int x2), (3, .int x3), (4, .int x4_1)]) hx hb dX5_merge_97 hl (k := 6) rfl rfl (by decide) rfl (fun ls hl => ?_)
              refine lv_goto (tgt := 9) hx hb dX5_merge_100 (by decide) ?_
              exact ih x4_1 (x5_2 + 1) (x6_3 + 1) c_merged_14 _ _ _ hP hD hS (lv_sub hl [3, 4, 5, 6, 1, 0] rfl) h
          · intro j_9 J_10 h
            refine lv_icmp_ge (tgt := 48) hx hb dX5_merge_18 (by decide) (fun q_21 => ?_) (fun q_21 => ?_)
            · have h := it_t q_21 h
              refine lv_iconst (v := 1) hx hb dX5_merge_48 (by decide) ?_
              refine lv_goto (tgt := 53) hx hb dX5_merge_49 (by decide) ?_
              exact J_10 1 _ _ _ hP hD hS (lv_sub hl [0, 1, 2, 3, 4, 5] rfl) h
            · have h := it_f q_21 h
              refine lv_iload hx hb dX5_merge_21 (lv_at hl 4 rfl) ?_
              refine lv_iload_n hx hb dX5_merge_23 rfl (lv_at hl 2 rfl) ?_
              refine lv_icmp_ge (tgt := 52) hx hb dX5_merge_24 (by decide) (fun q_20 => ?_) (fun q_20 => ?_)
              · have h := it_t q_20 h
                refine lv_iconst (v := 0) hx hb dX5_merge_52 (by decide) ?_
                exact J_10 0 _ _ _ hP hD hS (lv_sub hl [0, 1, 2, 3, 4, 5] rfl) h
              · have h := it_f q_20 h
                refine lv_aload_n hx hb dX5_merge_27 rfl (lv_at hl 0 rfl) ?_
                refine lv_aload_n hx hb dX5_merge_28 rfl (lv_at hl 0 rfl) ?_
                refine r_get S gf_X5_9 hK hP 5 rfl rfl dX5_merge_29 ?_
                refine lv_iload hx hb dX5_merge_32 (lv_at hl 4 rfl) ?_
                refine r_iald hx hb hK hP 6 rfl dX5_merge_34 h (fun y_16 h => ?_)
                refine lv_aload_n hx hb dX5_merge_35 rfl (lv_at hl 0 rfl) ?_
                refine r_get S gf_X5_9 hK hP 5 rfl rfl dX5_merge_36 ?_
                refine lv_iload hx hb dX5_merge_39 (lv_at hl 3 rfl) ?_
                refine r_iald hx hb hK hP 6 rfl dX5_merge_41 h (fun y_17 h => ?_)
                obtain ⟨r_18, hq, h⟩ := bd1_e h
                refine cs_Vi (rest := []) (ci := 4) S hN cb_X5_isBefore ml_X5_107 ⟨Nat.le_of_ble_eq_true rfl, Nat.le_of_ble_eq_true rfl⟩ (c_X5_isBefore l G kc ap ad la fa ra y_16 y_17  hq) hK hP hD hS hA 5 rfl rfl rfl rfl rfl (Nat.le_of_ble_eq_true rfl) hl.1 dX5_merge_42 (fun H locs hP hD hS => ?_)
                refine lv_if_eq (tgt := 52) hx hb dX5_merge_45 (by decide) (fun q_19 => ?_) (fun q_19 => ?_)
                · have h := it_t q_19 h
                  refine lv_iconst (v := 0) hx hb dX5_merge_52 (by decide) ?_
                  exact J_10 0 _ _ _ hP hD hS (lv_sub hl [0, 1, 2, 3, 4, 5] rfl) h
                · have h := it_f q_19 h
                  refine lv_iconst (v := 1) hx hb dX5_merge_48 (by decide) ?_
                  refine lv_goto (tgt := 53) hx hb dX5_merge_49 (by decide) ?_
                  exact J_10 1 _ _ _ hP hD hS (lv_sub hl [0, 1, 2, 3, 4, 5] rfl) h
    exact L_7 FU x1 x2 x1 c_merged _ _ _ hP hD hS (lv_sub hl [3, 5, 6, 2, 1, 0] rfl) h
