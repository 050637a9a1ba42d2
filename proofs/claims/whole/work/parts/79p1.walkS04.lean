set_option maxHeartbeats 1000000 in
set_option maxRecDepth 100000 in
theorem c_X5_sort (l : Launch) (G : va_G) (kc : Nat → ClassId) (ap ad la fa ra : Nat → Nat) {c_greys : (Nat → Int32)} {c_remembered : (Nat → Int32)} {c_columns : Int32} {c_rows : Int32} {c_settings : (Nat → Int32)} {c_reached : Int32} {c_order : (Nat → Int32)} {c_merged : (Nat → Int32)} {c_least : (Nat → Int32)} {c_greatest : (Nat → Int32)} {c_role : (Nat → Int32)} {c_head : (Nat → Int64)} {c_tail : (Nat → Int64)} {c_rank : (Nat → Int32)} {c_kindFrom : (Nat → Int32)} {c_kindTo : (Nat → Int32)} {c_side : Int32} {c_across : Int32} {c_down : Int32} {c_count : Int32} {c_flats : Int32} {c_crowded : Int32} {c_kinds : Int32} {c_first : (Nat → Int32)} {c_second : (Nat → Int32)} {c_pairs : Int32} {c_pairsWith : (Nat → Int32)} {c_voted : (Nat → Int32)} {c_ways : (Nat → Int32)} {c_shcount : Int32} {c_numberOfWay : (Nat → Int32)} {c_list : (Nat → Nat)} {c_fcount : Int32} {c_regions : (Nat → Int32)} {c_left : (Nat → Nat → Int32)} {c_open : (Nat → Int32)} {c_frows : (Nat → Nat → Int32)} {c_fshift : (Nat → Int32)} {c_fdx : (Nat → Int32)} {c_fdy : (Nat → Int32)} {c_fleastPlace : (Nat → Int32)} {c_fpairs : (Nat → Int32)} {c_foffset : (Nat → Int32)} {c_fplacesFirst : (Nat → Int32)} {c_fplaces : (Nat → Int32)}  {c_order' : (Nat → Int32)} {c_merged' : (Nat → Int32)} {FU : Nat} (h : f_X5_sort FU c_order c_merged c_head c_tail c_count = some (c_order', c_merged')) : CTv l G kc yX5_sort cX5_sort 3 none (rmq 2 49) [.ref (ad 2)] (sW ap ad la fa ra kc c_greys c_remembered c_columns c_rows c_settings c_reached c_order c_merged c_least c_greatest c_role c_head c_tail c_rank c_kindFrom c_kindTo c_side c_across c_down c_count c_flats c_crowded c_kinds c_first c_second c_pairs c_pairsWith c_voted c_ways c_shcount c_numberOfWay c_list c_fcount c_regions c_left c_open c_frows c_fshift c_fdx c_fdy c_fleastPlace c_fpairs c_foffset c_fplacesFirst c_fplaces) (sW ap ad la fa ra kc c_greys c_remembered c_columns c_rows c_settings c_reached (c_order') (c_merged') c_least c_greatest c_role c_head c_tail c_rank c_kindFrom c_kindTo c_side c_across c_down c_count c_flats c_crowded c_kinds c_first c_second c_pairs c_pairsWith c_voted c_ways c_shcount c_numberOfWay c_list c_fcount c_regions c_left c_open c_frows c_fshift c_fdx c_fdy c_fleastPlace c_fpairs c_foffset c_fplacesFirst c_fplaces) := by
  refine CTv.mk (by decide) (Nat.le_of_ble_eq_true rfl) ?_
  intro p e s m args below meth c A ls Q hQ S hr hlocks hN hA hK hl hP hD hS
  have hx := S.1
  have hb := S.2.1
  have hl : lv_has ls 3 [(0, .ref (ad 2))] := hl
  unfold f_X5_sort at h
  refine lv_iconst (v := 1) hx hb dX5_sort_0 (by decide) ?_
  refine lv_istore_n (lv' := [(1, .int 1), (0, .ref (ad 2))]) hx hb dX5_sort_1 rfl hl (by decide) rfl (fun ls hl => ?_)
  refine jn_w (t := fun k => f_X5_sort_L2 FU c_head c_tail c_count k FU 1 c_order c_merged) (fun (k : Int32 → (Nat → Int32) → (Nat → Int32) → Option ((Nat → Int32) × (Nat → Int32))) => ∀ (x1_1 : Int32) (c_order_2 : (Nat → Int32)) (c_merged_3 : (Nat → Int32)) (H : Heap) (locs : List Loc) (ls : Array Slot), VP G (sW ap ad la fa ra kc c_greys c_remembered c_columns c_rows c_settings c_reached c_order_2 c_merged_3 c_least c_greatest c_role c_head c_tail c_rank c_kindFrom c_kindTo c_side c_across c_down c_count c_flats c_crowded c_kinds c_first c_second c_pairs c_pairsWith c_voted c_ways c_shcount c_numberOfWay c_list c_fcount c_regions c_left c_open c_frows c_fshift c_fdx c_fdy c_fleastPlace c_fpairs c_foffset c_fplacesFirst c_fplaces) H → va_D A (sW ap ad la fa ra kc c_greys c_remembered c_columns c_rows c_settings c_reached c_order_2 c_merged_3 c_least c_greatest c_role c_head c_tail c_rank c_kindFrom c_kindTo c_side c_across c_down c_count c_flats c_crowded c_kinds c_first c_second c_pairs c_pairsWith c_voted c_ways c_shcount c_numberOfWay c_list c_fcount c_regions c_left c_open c_frows c_fshift c_fdx c_fdy c_fleastPlace c_fpairs c_foffset c_fplacesFirst c_fplaces) → va_S A s.heap H locs → lv_has ls 3 [] → k x1_1 c_order_2 c_merged_3 = some (c_order', c_merged') → WW p l e (rmq 2 49) s m args below meth c Q H locs 80 ls []) h ?_ ?_
  · intro x1_1 c_order_2 c_merged_3 H locs ls hP hD hS hl h
    cases h
    exact ret_v hx hb hr hQ hlocks hK hP hD hS dX5_sort_80
  · intro k_4 K_5 h
    have L_6 : ∀ (n : Nat) (x1_1 : Int32) (c_order_2 : (Nat → Int32)) (c_merged_3 : (Nat → Int32)) (H : Heap) (locs : List Loc) (ls : Array Slot), VP G (sW ap ad la fa ra kc c_greys c_remembered c_columns c_rows c_settings c_reached c_order_2 c_merged_3 c_least c_greatest c_role c_head c_tail c_rank c_kindFrom c_kindTo c_side c_across c_down c_count c_flats c_crowded c_kinds c_first c_second c_pairs c_pairsWith c_voted c_ways c_shcount c_numberOfWay c_list c_fcount c_regions c_left c_open c_frows c_fshift c_fdx c_fdy c_fleastPlace c_fpairs c_foffset c_fplacesFirst c_fplaces) H → va_D A (sW ap ad la fa ra kc c_greys c_remembered c_columns c_rows c_settings c_reached c_order_2 c_merged_3 c_least c_greatest c_role c_head c_tail c_rank c_kindFrom c_kindTo c_side c_across c_down c_count c_flats c_crowded c_kinds c_first c_second c_pairs c_pairsWith c_voted c_ways c_shcount c_numberOfWay c_list c_fcount c_regions c_left c_open c_frows c_fshift c_fdx c_fdy c_fleastPlace c_fpairs c_foffset c_fplacesFirst c_fplaces) → va_S A s.heap H locs → lv_has ls 3 [(0, .ref (ad 2)), (1, .int x1_1)] → f_X5_sort_L2 FU c_head c_tail c_count k_4 n x1_1 c_order_2 c_merged_3 = some (c_order', c_merged') → WW p l e (rmq 2 49) s m args below meth c Q H locs 2 ls [] := by
      intro n
      induction n with
      | zero => intro x1_1 c_order_2 c_merged_3 H locs ls hP hD hS hl h; rw [f_X5_sort_L2] at h; cases h
      | succ n ih =>
        intro x1_1 c_order_2 c_merged_3 H locs ls hP hD hS hl h
        rw [f_X5_sort_L2] at h
        refine lv_iload_n hx hb dX5_sort_2 rfl (lv_at hl 1 rfl) ?_
        refine lv_aload_n hx hb dX5_sort_3 rfl (lv_at hl 0 rfl) ?_
        refine r_get S gf_X5_67 hK hP 5 rfl rfl dX5_sort_4 ?_
        refine lv_icmp_ge (tgt := 80) hx hb dX5_sort_7 (by decide) (fun q_15 => ?_) (fun q_15 => ?_)
        · have h := it_t q_15 h
          exact K_5 x1_1 c_order_2 c_merged_3 _ _ _ hP hD hS (lv_sub hl [] rfl) h
        · have h := it_f q_15 h
          refine lv_iconst (v := 0) hx hb dX5_sort_10 (by decide) ?_
          refine lv_istore_n (lv' := [(2, .int 0), (0, .ref (ad 2)), (1, .int x1_1)]) hx hb dX5_sort_11 rfl hl (by decide) rfl (fun ls hl => ?_)
          refine jn_w (t := fun k => f_X5_sort_L12 FU x1_1 c_order_2 c_head c_tail c_count k FU 0 c_merged_3) (fun (k : Int32 → (Nat → Int32) → Option ((Nat → Int32) × (Nat → Int32))) => ∀ (x2_7 : Int32) (c_merged_8 : (Nat → Int32)) (H : Heap) (locs : List Loc) (ls : Array Slot), VP G (sW ap ad la fa ra kc c_greys c_remembered c_columns c_rows c_settings c_reached c_order_2 c_merged_8 c_least c_greatest c_role c_head c_tail c_rank c_kindFrom c_kindTo c_side c_across c_down c_count c_flats c_crowded c_kinds c_first c_second c_pairs c_pairsWith c_voted c_ways c_shcount c_numberOfWay c_list c_fcount c_regions c_left c_open c_frows c_fshift c_fdx c_fdy c_fleastPlace c_fpairs c_foffset c_fplacesFirst c_fplaces) H → va_D A (sW ap ad la fa ra kc c_greys c_remembered c_columns c_rows c_settings c_reached c_order_2 c_merged_8 c_least c_greatest c_role c_head c_tail c_rank c_kindFrom c_kindTo c_side c_across c_down c_count c_flats c_crowded c_kinds c_first c_second c_pairs c_pairsWith c_voted c_ways c_shcount c_numberOfWay c_list c_fcount c_regions c_left c_open c_frows c_fshift c_fdx c_fdy c_fleastPlace c_fpairs c_foffset c_fplacesFirst c_fplaces) → va_S A s.heap H locs → lv_has ls 3 [(0, .ref (ad 2)), (1, .int x1_1)] → k x2_7 c_merged_8 = some (c_order', c_merged') → WW p l e (rmq 2 49) s m args below meth c Q H locs 56 ls []) h ?_ ?_
          · intro x2_7 c_merged_8 H locs ls hP hD hS hl h
            refine lv_aload_n hx hb dX5_sort_56 rfl (lv_at hl 0 rfl) ?_
            refine r_get S gf_X5_15 hK hP 5 rfl rfl dX5_sort_57 ?_
            refine lv_iconst (v := 0) hx hb dX5_sort_60 (by decide) ?_
            refine lv_aload_n hx hb dX5_sort_61 rfl (lv_at hl 0 rfl) ?_
            refine r_get S gf_X5_9 hK hP 5 rfl rfl dX5_sort_62 ?_
            refine lv_iconst (v := 0) hx hb dX5_sort_65 (by decide) ?_
            refine lv_aload_n hx hb dX5_sort_66 rfl (lv_at hl 0 rfl) ?_
            refine r_get S gf_X5_67 hK hP 5 rfl rfl dX5_sort_67 ?_
            refine r_copy (rest := []) S hl.1 cp_X5_101 hK hP hD hS 7 6 rfl rfl (Nat.le_of_ble_eq_true rfl) (Nat.le_of_ble_eq_true rfl) dX5_sort_70 h (fun c_order_12 H locs hP hD hS h => ?_)
            have hP : VP G (sW ap ad la fa ra kc c_greys c_remembered c_columns c_rows c_settings c_reached c_order_12 c_merged_8 c_least c_greatest c_role c_head c_tail c_rank c_kindFrom c_kindTo c_side c_across c_down c_count c_flats c_crowded c_kinds c_first c_second c_pairs c_pairsWith c_voted c_ways c_shcount c_numberOfWay c_list c_fcount c_regions c_left c_open c_frows c_fshift c_fdx c_fdy c_fleastPlace c_fpairs c_foffset c_fplacesFirst c_fplaces) H := hP
            have hD : va_D A (sW ap ad la fa ra kc c_greys c_remembered c_columns c_rows c_settings c_reached c_order_12 c_merged_8 c_least c_greatest c_role c_head c_tail c_rank c_kindFrom c_kindTo c_side c_across c_down c_count c_flats c_crowded c_kinds c_first c_second c_pairs c_pairsWith c_voted c_ways c_shcount c_numberOfWay c_list c_fcount c_regions c_left c_open c_frows c_fshift c_fdx c_fdy c_fleastPlace c_fpairs c_foffset c_fplacesFirst c_fplaces) := hD
            refine lv_iload_n hx hb dX5_sort_73 rfl (lv_at hl 1 rfl) ?_
            refine lv_iconst (v := 2) hx hb dX5_sort_74 (by decide) ?_
            refine lv_imul hx hb dX5_sort_75 ?_
            refine lv_istore_n (lv' := [(1, .int (x1_1 * 2)), (0, .ref (ad 2))]) hx hb dX5_sort_76 rfl hl (by decide) rfl (fun ls hl => ?_)
            refine lv_goto (tgt := 2) hx hb dX5_sort_77 (by decide) ?_
            exact ih (x1_1 * 2) c_order_12 c_merged_8 _ _ _ hP hD hS (lv_sub hl [1, 0] rfl) h
          · intro k_9 K_10 h
            have L_11 : ∀ (n : Nat) (x2_7 : Int32) (c_merged_8 : (Nat → Int32)) (H : Heap) (locs : List Loc) (ls : Array Slot), VP G (sW ap ad la fa ra kc c_greys c_remembered c_columns c_rows c_settings c_reached c_order_2 c_merged_8 c_least c_greatest c_role c_head c_tail c_rank c_kindFrom c_kindTo c_side c_across c_down c_count c_flats c_crowded c_kinds c_first c_second c_pairs c_pairsWith c_voted c_ways c_shcount c_numberOfWay c_list c_fcount c_regions c_left c_open c_frows c_fshift c_fdx c_fdy c_fleastPlace c_fpairs c_foffset c_fplacesFirst c_fplaces) H → va_D A (sW ap ad la fa ra kc c_greys c_remembered c_columns c_rows c_settings c_reached c_order_2 c_merged_8 c_least c_greatest c_role c_head c_tail c_rank c_kindFrom c_kindTo c_side c_across c_down c_count c_flats c_crowded c_kinds c_first c_second c_pairs c_pairsWith c_voted c_ways c_shcount c_numberOfWay c_list c_fcount c_regions c_left c_open c_frows c_fshift c_fdx c_fdy c_fleastPlace c_fpairs c_foffset c_fplacesFirst c_fplaces) → va_S A s.heap H locs → lv_has ls 3 [(0, .ref (ad 2)), (1, .int x1_1), (2, .int x2_7)] → f_X5_sort_L12 FU x1_1 c_order_2 c_head c_tail c_count k_9 n x2_7 c_merged_8 = some (c_order', c_merged') → WW p l e (rmq 2 49) s m args below meth c Q H locs 12 ls [] := by
              intro n
              induction n with
              | zero => intro x2_7 c_merged_8 H locs ls hP hD hS hl h; rw [f_X5_sort_L12] at h; cases h
              | succ n ih =>
                intro x2_7 c_merged_8 H locs ls hP hD hS hl h
                rw [f_X5_sort_L12] at h
                refine lv_iload_n hx hb dX5_sort_12 rfl (lv_at hl 2 rfl) ?_
                refine lv_aload_n hx hb dX5_sort_13 rfl (lv_at hl 0 rfl) ?_
                refine r_get S gf_X5_67 hK hP 5 rfl rfl dX5_sort_14 ?_
                refine lv_icmp_ge (tgt := 56) hx hb dX5_sort_17 (by decide) (fun q_14 => ?_) (fun q_14 => ?_)
                · have h := it_t q_14 h
                  exact K_10 x2_7 c_merged_8 _ _ _ hP hD hS (lv_sub hl [0, 1] rfl) h
                · have h := it_f q_14 h
                  refine lv_aload_n hx hb dX5_sort_20 rfl (lv_at hl 0 rfl) ?_
                  refine lv_iload_n hx hb dX5_sort_21 rfl (lv_at hl 2 rfl) ?_
                  refine lv_iload_n hx hb dX5_sort_22 rfl (lv_at hl 2 rfl) ?_
                  refine lv_iload_n hx hb dX5_sort_23 rfl (lv_at hl 1 rfl) ?_
                  refine lv_iadd hx hb dX5_sort_24 ?_
                  refine lv_aload_n hx hb dX5_sort_25 rfl (lv_at hl 0 rfl) ?_
                  refine r_get S gf_X5_67 hK hP 5 rfl rfl dX5_sort_26 ?_
                  refine va_mmin hx hb (S.2.2.1.trans hl.1.symm) S.2.2.2.1 (S.2.2.2.2 _ mm_X5_91) (S.2.2.2.2 _ ms_min) (S.2.2.2.2 _ ms_init) (S.2.2.2.2 _ mc_min) (Nat.le_of_ble_eq_true rfl) (Nat.le_of_ble_eq_true rfl) (Nat.zero_le _) (Nat.zero_le _) dX5_sort_29 ?_
                  refine lv_iload_n hx hb dX5_sort_32 rfl (lv_at hl 2 rfl) ?_
                  refine lv_iconst (v := 2) hx hb dX5_sort_33 (by decide) ?_
                  refine lv_iload_n hx hb dX5_sort_34 rfl (lv_at hl 1 rfl) ?_
                  refine lv_imul hx hb dX5_sort_35 ?_
                  refine lv_iadd hx hb dX5_sort_36 ?_
                  refine lv_aload_n hx hb dX5_sort_37 rfl (lv_at hl 0 rfl) ?_
                  refine r_get S gf_X5_67 hK hP 5 rfl rfl dX5_sort_38 ?_
                  refine va_mmin hx hb (S.2.2.1.trans hl.1.symm) S.2.2.2.1 (S.2.2.2.2 _ mm_X5_91) (S.2.2.2.2 _ ms_min) (S.2.2.2.2 _ ms_init) (S.2.2.2.2 _ mc_min) (Nat.le_of_ble_eq_true rfl) (Nat.le_of_ble_eq_true rfl) (Nat.zero_le _) (Nat.zero_le _) dX5_sort_41 ?_
                  obtain ⟨c_merged_13, hq, h⟩ := bd1_e h
                  refine cs_Vv (rest := []) (ci := 4) S hN cb_X5_merge ml_X5_97 ⟨Nat.le_of_ble_eq_true rfl, Nat.le_of_ble_eq_true rfl⟩ (c_X5_merge l G kc ap ad la fa ra x2_7 (if c_count < (x2_7 + x1_1) then c_count else (x2_7 + x1_1)) (if c_count < (x2_7 + (2 * x1_1)) then c_count else (x2_7 + (2 * x1_1)))  hq) hK hP hD hS hA 5 rfl rfl rfl rfl rfl (Nat.le_of_ble_eq_true rfl) hl.1 dX5_sort_44 (fun H locs hP hD hS => ?_)
                  refine lv_iload_n hx hb dX5_sort_47 rfl (lv_at hl 2 rfl) ?_
                  refine lv_iconst (v := 2) hx hb dX5_sort_48 (by decide) ?_
                  refine lv_iload_n hx hb dX5_sort_49 rfl (lv_at hl 1 rfl) ?_
                  refine lv_imul hx hb dX5_sort_50 ?_
                  refine lv_iadd hx hb dX5_sort_51 ?_
                  refine lv_istore_n (lv' := [(2, .int (x2_7 + (2 * x1_1))), (0, .ref (ad 2)), (1, .int x1_1)]) hx hb dX5_sort_52 rfl hl (by decide) rfl (fun ls hl => ?_)
                  refine lv_goto (tgt := 12) hx hb dX5_sort_53 (by decide) ?_
                  exact ih (x2_7 + (2 * x1_1)) c_merged_13 _ _ _ hP hD hS (lv_sub hl [1, 2, 0] rfl) h
            exact L_11 FU 0 c_merged_3 _ _ _ hP hD hS (lv_sub hl [1, 2, 0] rfl) h
    exact L_6 FU 1 c_order c_merged _ _ _ hP hD hS (lv_sub hl [1, 0] rfl) h
set_option maxHeartbeats 1000000 in
set_option maxRecDepth 100000 in
theorem c_X5_areAlike (l : Launch) (G : va_G) (kc : Nat → ClassId) (ap ad la fa ra : Nat → Nat) {c_greys : (Nat → Int32)} {c_remembered : (Nat → Int32)} {c_columns : Int32} {c_rows : Int32} {c_settings : (Nat → Int32)} {c_reached : Int32} {c_order : (Nat → Int32)} {c_merged : (Nat → Int32)} {c_least : (Nat → Int32)} {c_greatest : (Nat → Int32)} {c_role : (Nat → Int32)} {c_head : (Nat → Int64)} {c_tail : (Nat → Int64)} {c_rank : (Nat → Int32)} {c_kindFrom : (Nat → Int32)} {c_kindTo : (Nat → Int32)} {c_side : Int32} {c_across : Int32} {c_down : Int32} {c_count : Int32} {c_flats : Int32} {c_crowded : Int32} {c_kinds : Int32} {c_first : (Nat → Int32)} {c_second : (Nat → Int32)} {c_pairs : Int32} {c_pairsWith : (Nat → Int32)} {c_voted : (Nat → Int32)} {c_ways : (Nat → Int32)} {c_shcount : Int32} {c_numberOfWay : (Nat → Int32)} {c_list : (Nat → Nat)} {c_fcount : Int32} {c_regions : (Nat → Int32)} {c_left : (Nat → Nat → Int32)} {c_open : (Nat → Int32)} {c_frows : (Nat → Nat → Int32)} {c_fshift : (Nat → Int32)} {c_fdx : (Nat → Int32)} {c_fdy : (Nat → Int32)} {c_fleastPlace : (Nat → Int32)} {c_fpairs : (Nat → Int32)} {c_foffset : (Nat → Int32)} {c_fplacesFirst : (Nat → Int32)} {c_fplaces : (Nat → Int32)} (x1 : Int32) (x2 : Int32) {r : Int32} {FU : Nat} (h : f_X5_areAlike FU c_head c_tail x1 x2 = some r) : CTi l G kc yX5_areAlike cX5_areAlike 3 (some .boolean) (rmq 0 0) [.ref (ad 2), .int x1, .int x2] (sW ap ad la fa ra kc c_greys c_remembered c_columns c_rows c_settings c_reached c_order c_merged c_least c_greatest c_role c_head c_tail c_rank c_kindFrom c_kindTo c_side c_across c_down c_count c_flats c_crowded c_kinds c_first c_second c_pairs c_pairsWith c_voted c_ways c_shcount c_numberOfWay c_list c_fcount c_regions c_left c_open c_frows c_fshift c_fdx c_fdy c_fleastPlace c_fpairs c_foffset c_fplacesFirst c_fplaces) (sW ap ad la fa ra kc c_greys c_remembered c_columns c_rows c_settings c_reached c_order c_merged c_least c_greatest c_role c_head c_tail c_rank c_kindFrom c_kindTo c_side c_across c_down c_count c_flats c_crowded c_kinds c_first c_second c_pairs c_pairsWith c_voted c_ways c_shcount c_numberOfWay c_list c_fcount c_regions c_left c_open c_frows c_fshift c_fdx c_fdy c_fleastPlace c_fpairs c_foffset c_fplacesFirst c_fplaces) r := by
  refine CTi.mk (by decide) (Nat.le_of_ble_eq_true rfl) ?_
  intro p e s m args below meth c A ls Q hQ S hr hlocks hN hA hK hl hP hD hS
  have hx := S.1
  have hb := S.2.1
  have hl : lv_has ls 3 [(0, .ref (ad 2)), (1, .int x1), (2, .int x2)] := hl
  unfold f_X5_areAlike at h
  refine lv_aload_n hx hb dX5_areAlike_0 rfl (lv_at hl 0 rfl) ?_
  refine r_get S gf_X5_27 hK hP 5 rfl rfl dX5_areAlike_1 ?_
  refine lv_iload_n hx hb dX5_areAlike_4 rfl (lv_at hl 1 rfl) ?_
  refine r_lald hx hb hK hP 11 rfl dX5_areAlike_5 h (fun y_1 h => ?_)
  refine lv_aload_n hx hb dX5_areAlike_6 rfl (lv_at hl 0 rfl) ?_
  refine r_get S gf_X5_27 hK hP 5 rfl rfl dX5_areAlike_7 ?_
  refine lv_iload_n hx hb dX5_areAlike_10 rfl (lv_at hl 2 rfl) ?_
  refine r_lald hx hb hK hP 11 rfl dX5_areAlike_11 h (fun y_2 h => ?_)
  refine W.lcmp hx hb dX5_areAlike_12 ?_
  refine lv_if_ne (tgt := 36) hx hb dX5_areAlike_13 (by decide) (fun q_6 => ?_) (fun q_6 => ?_)
  · have h := it_f q_6 h
    refine lv_iconst (v := 0) hx hb dX5_areAlike_36 (by decide) ?_
    cases h
    exact ret_i hx hb hr rfl hQ hlocks hK hP hD hS dX5_areAlike_37
  · have h := it_t q_6 h
    refine lv_aload_n hx hb dX5_areAlike_16 rfl (lv_at hl 0 rfl) ?_
    refine r_get S gf_X5_31 hK hP 5 rfl rfl dX5_areAlike_17 ?_
    refine lv_iload_n hx hb dX5_areAlike_20 rfl (lv_at hl 1 rfl) ?_
    refine r_lald hx hb hK hP 12 rfl dX5_areAlike_21 h (fun y_3 h => ?_)
    refine lv_aload_n hx hb dX5_areAlike_22 rfl (lv_at hl 0 rfl) ?_
    refine r_get S gf_X5_31 hK hP 5 rfl rfl dX5_areAlike_23 ?_
    refine lv_iload_n hx hb dX5_areAlike_26 rfl (lv_at hl 2 rfl) ?_
    refine r_lald hx hb hK hP 12 rfl dX5_areAlike_27 h (fun y_4 h => ?_)
    refine W.lcmp hx hb dX5_areAlike_28 ?_
    refine lv_if_ne (tgt := 36) hx hb dX5_areAlike_29 (by decide) (fun q_5 => ?_) (fun q_5 => ?_)
    · have h := it_f q_5 h
      refine lv_iconst (v := 0) hx hb dX5_areAlike_36 (by decide) ?_
      cases h
      exact ret_i hx hb hr rfl hQ hlocks hK hP hD hS dX5_areAlike_37
    · have h := it_t q_5 h
      refine lv_iconst (v := 1) hx hb dX5_areAlike_32 (by decide) ?_
      refine lv_goto (tgt := 37) hx hb dX5_areAlike_33 (by decide) ?_
      cases h
      exact ret_i hx hb hr rfl hQ hlocks hK hP hD hS dX5_areAlike_37
set_option maxHeartbeats 1000000 in
set_option maxRecDepth 100000 in
theorem c_X5_noteKind (l : Launch) (G : va_G) (kc : Nat → ClassId) (ap ad la fa ra : Nat → Nat) {c_greys : (Nat → Int32)} {c_remembered : (Nat → Int32)} {c_columns : Int32} {c_rows : Int32} {c_settings : (Nat → Int32)} {c_reached : Int32} {c_order : (Nat → Int32)} {c_merged : (Nat → Int32)} {c_least : (Nat → Int32)} {c_greatest : (Nat → Int32)} {c_role : (Nat → Int32)} {c_head : (Nat → Int64)} {c_tail : (Nat → Int64)} {c_rank : (Nat → Int32)} {c_kindFrom : (Nat → Int32)} {c_kindTo : (Nat → Int32)} {c_side : Int32} {c_across : Int32} {c_down : Int32} {c_count : Int32} {c_flats : Int32} {c_crowded : Int32} {c_kinds : Int32} {c_first : (Nat → Int32)} {c_second : (Nat → Int32)} {c_pairs : Int32} {c_pairsWith : (Nat → Int32)} {c_voted : (Nat → Int32)} {c_ways : (Nat → Int32)} {c_shcount : Int32} {c_numberOfWay : (Nat → Int32)} {c_list : (Nat → Nat)} {c_fcount : Int32} {c_regions : (Nat → Int32)} {c_left : (Nat → Nat → Int32)} {c_open : (Nat → Int32)} {c_frows : (Nat → Nat → Int32)} {c_fshift : (Nat → Int32)} {c_fdx : (Nat → Int32)} {c_fdy : (Nat → Int32)} {c_fleastPlace : (Nat → Int32)} {c_fpairs : (Nat → Int32)} {c_foffset : (Nat → Int32)} {c_fplacesFirst : (Nat → Int32)} {c_fplaces : (Nat → Int32)} (x1 : Int32) (x2 : Int32) (x3 : Int32) {c_role' : (Nat → Int32)} {c_rank' : (Nat → Int32)} {c_kindFrom' : (Nat → Int32)} {c_kindTo' : (Nat → Int32)} {c_crowded' : Int32} {FU : Nat} (h : f_X5_noteKind FU c_order c_role c_rank c_kindFrom c_kindTo c_crowded x1 x2 x3 = some (c_role', c_rank', c_kindFrom', c_kindTo', c_crowded')) : CTv l G kc yX5_noteKind cX5_noteKind 7 none (rmq 0 0) [.ref (ad 2), .int x1, .int x2, .int x3] (sW ap ad la fa ra kc c_greys c_remembered c_columns c_rows c_settings c_reached c_order c_merged c_least c_greatest c_role c_head c_tail c_rank c_kindFrom c_kindTo c_side c_across c_down c_count c_flats c_crowded c_kinds c_first c_second c_pairs c_pairsWith c_voted c_ways c_shcount c_numberOfWay c_list c_fcount c_regions c_left c_open c_frows c_fshift c_fdx c_fdy c_fleastPlace c_fpairs c_foffset c_fplacesFirst c_fplaces) (sW ap ad la fa ra kc c_greys c_remembered c_columns c_rows c_settings c_reached c_order c_merged c_least c_greatest (c_role') c_head c_tail (c_rank') (c_kindFrom') (c_kindTo') c_side c_across c_down c_count c_flats (c_crowded') c_kinds c_first c_second c_pairs c_pairsWith c_voted c_ways c_shcount c_numberOfWay c_list c_fcount c_regions c_left c_open c_frows c_fshift c_fdx c_fdy c_fleastPlace c_fpairs c_foffset c_fplacesFirst c_fplaces) := by
  refine CTv.mk (by decide) (Nat.le_of_ble_eq_true rfl) ?_
  intro p e s m args below meth c A ls Q hQ S hr hlocks hN hA hK hl hP hD hS
  have hx := S.1
  have hb := S.2.1
  have hl : lv_has ls 7 [(0, .ref (ad 2)), (1, .int x1), (2, .int x2), (3, .int x3)] := hl
  unfold f_X5_noteKind at h
  refine lv_iconst (v := 0) hx hb dX5_noteKind_0 (by decide) ?_
  refine lv_istore (lv' := [(4, .int 0), (0, .ref (ad 2)), (1, .int x1), (2, .int x2), (3, .int x3)]) hx hb dX5_noteKind_1 hl (by decide) rfl (fun ls hl => ?_)
  refine lv_iload_n hx hb dX5_noteKind_3 rfl (lv_at hl 2 rfl) ?_
  refine lv_istore (lv' := [(5, .int x1), (4, .int 0), (0, .ref (ad 2)), (1, .int x1), (2, .int x2), (3, .int x3)]) hx hb dX5_noteKind_4 hl (by decide) rfl (fun ls hl => ?_)
  refine jn_w (t := fun k => f_X5_noteKind_L6 FU x1 x2 c_order c_role k FU 0 x1 c_rank c_kindFrom c_kindTo) (fun (k : Int32 → Int32 → (Nat → Int32) → (Nat → Int32) → (Nat → Int32) → Option ((Nat → Int32) × (Nat → Int32) × (Nat → Int32) × (Nat → Int32) × Int32)) => ∀ (x4_1 : Int32) (x5_2 : Int32) (c_rank_3 : (Nat → Int32)) (c_kindFrom_4 : (Nat → Int32)) (c_kindTo_5 : (Nat → Int32)) (H : Heap) (locs : List Loc) (ls : Array Slot), VP G (sW ap ad la fa ra kc c_greys c_remembered c_columns c_rows c_settings c_reached c_order c_merged c_least c_greatest c_role c_head c_tail c_rank_3 c_kindFrom_4 c_kindTo_5 c_side c_across c_down c_count c_flats c_crowded c_kinds c_first c_second c_pairs c_pairsWith c_voted c_ways c_shcount c_numberOfWay c_list c_fcount c_regions c_left c_open c_frows c_fshift c_fdx c_fdy c_fleastPlace c_fpairs c_foffset c_fplacesFirst c_fplaces) H → va_D A (sW ap ad la fa ra kc c_greys c_remembered c_columns c_rows c_settings c_reached c_order c_merged c_least c_greatest c_role c_head c_tail c_rank_3 c_kindFrom_4 c_kindTo_5 c_side c_across c_down c_count c_flats c_crowded c_kinds c_first c_second c_pairs c_pairsWith c_voted c_ways c_shcount c_numberOfWay c_list c_fcount c_regions c_left c_open c_frows c_fshift c_fdx c_fdy c_fleastPlace c_fpairs c_foffset c_fplacesFirst c_fplaces) → va_S A s.heap H locs → lv_has ls 7 [(0, .ref (ad 2)), (1, .int x1), (2, .int x2), (3, .int x3), (4, .int x4_1)] → k x4_1 x5_2 c_rank_3 c_kindFrom_4 c_kindTo_5 = some (c_role', c_rank', c_kindFrom', c_kindTo', c_crowded') → WW p l e (rmq 0 0) s m args below meth c Q H locs 73 ls []) h ?_ ?_
  · intro x4_1 x5_2 c_rank_3 c_kindFrom_4 c_kindTo_5 H locs ls hP hD hS hl h
    refine lv_iload hx hb dX5_noteKind_73 (lv_at hl 4 rfl) ?_
    refine lv_iload_n hx hb dX5_noteKind_75 rfl (lv_at hl 3 rfl) ?_
    refine lv_icmp_gt (tgt := 80) hx hb dX5_noteKind_76 (by decide) (fun q_20 => ?_) (fun q_20 => ?_)
    · have h := it_t q_20 h
      refine lv_iload_n hx hb dX5_noteKind_80 rfl (lv_at hl 1 rfl) ?_
      refine lv_istore (lv' := [(5, .int x1), (0, .ref (ad 2)), (1, .int x1), (2, .int x2), (3, .int x3), (4, .int x4_1)]) hx hb dX5_noteKind_81 hl (by decide) rfl (fun ls hl => ?_)
      refine jn_w (t := fun k => f_X5_noteKind_L83 FU x2 c_order k FU x1 c_role) (fun (k : Int32 → (Nat → Int32) → Option ((Nat → Int32) × (Nat → Int32) × (Nat → Int32) × (Nat → Int32) × Int32)) => ∀ (x5_9 : Int32) (c_role_10 : (Nat → Int32)) (H : Heap) (locs : List Loc) (ls : Array Slot), VP G (sW ap ad la fa ra kc c_greys c_remembered c_columns c_rows c_settings c_reached c_order c_merged c_least c_greatest c_role_10 c_head c_tail c_rank_3 c_kindFrom_4 c_kindTo_5 c_side c_across c_down c_count c_flats c_crowded c_kinds c_first c_second c_pairs c_pairsWith c_voted c_ways c_shcount c_numberOfWay c_list c_fcount c_regions c_left c_open c_frows c_fshift c_fdx c_fdy c_fleastPlace c_fpairs c_foffset c_fplacesFirst c_fplaces) H → va_D A (sW ap ad la fa ra kc c_greys c_remembered c_columns c_rows c_settings c_reached c_order c_merged c_least c_greatest c_role_10 c_head c_tail c_rank_3 c_kindFrom_4 c_kindTo_5 c_side c_across c_down c_count c_flats c_crowded c_kinds c_first c_second c_pairs c_pairsWith c_voted c_ways c_shcount c_numberOfWay c_list c_fcount c_regions c_left c_open c_frows c_fshift c_fdx c_fdy c_fleastPlace c_fpairs c_foffset c_fplacesFirst c_fplaces) → va_S A s.heap H locs → lv_has ls 7 [(0, .ref (ad 2)), (4, .int x4_1)] → k x5_9 c_role_10 = some (c_role', c_rank', c_kindFrom', c_kindTo', c_crowded') → WW p l e (rmq 0 0) s m args below meth c Q H locs 124 ls []) h ?_ ?_
      · intro x5_9 c_role_10 H locs ls hP hD hS hl h
        refine lv_aload_n hx hb dX5_noteKind_124 rfl (lv_at hl 0 rfl) ?_
        refine lv_dup hx hb dX5_noteKind_125 rfl ?_
        refine r_get S gf_X5_114 hK hP 5 rfl rfl dX5_noteKind_126 ?_
        refine lv_iload hx hb dX5_noteKind_129 (lv_at hl 1 rfl) ?_
        refine lv_iadd hx hb dX5_noteKind_131 ?_
        refine r_put S pf_X5_114 hK hP hD hS 5 rfl (Nat.le_of_ble_eq_true rfl) dX5_noteKind_132 (fun H locs hP hD hS => ?_)
        have hP : VP G (sW ap ad la fa ra kc c_greys c_remembered c_columns c_rows c_settings c_reached c_order c_merged c_least c_greatest c_role_10 c_head c_tail c_rank_3 c_kindFrom_4 c_kindTo_5 c_side c_across c_down c_count c_flats (c_crowded + x4_1) c_kinds c_first c_second c_pairs c_pairsWith c_voted c_ways c_shcount c_numberOfWay c_list c_fcount c_regions c_left c_open c_frows c_fshift c_fdx c_fdy c_fleastPlace c_fpairs c_foffset c_fplacesFirst c_fplaces) H := hP
        have hD : va_D A (sW ap ad la fa ra kc c_greys c_remembered c_columns c_rows c_settings c_reached c_order c_merged c_least c_greatest c_role_10 c_head c_tail c_rank_3 c_kindFrom_4 c_kindTo_5 c_side c_across c_down c_count c_flats (c_crowded + x4_1) c_kinds c_first c_second c_pairs c_pairsWith c_voted c_ways c_shcount c_numberOfWay c_list c_fcount c_regions c_left c_open c_frows c_fshift c_fdx c_fdy c_fleastPlace c_fpairs c_foffset c_fplacesFirst c_fplaces) := hD
        cases h
        exact ret_v hx hb hr hQ hlocks hK hP hD hS dX5_noteKind_135
      · intro k_11 K_12 h
        have L_13 : ∀ (n : Nat) (x5_9 : Int32) (c_role_10 : (Nat → Int32)) (H : Heap) (locs : List Loc) (ls : Array Slot), VP G (sW ap ad la fa ra kc c_greys c_remembered c_columns c_rows c_settings c_reached c_order c_merged c_least c_greatest c_role_10 c_head c_tail c_rank_3 c_kindFrom_4 c_kindTo_5 c_side c_across c_down c_count c_flats c_crowded c_kinds c_first c_second c_pairs c_pairsWith c_voted c_ways c_shcount c_numberOfWay c_list c_fcount c_regions c_left c_open c_frows c_fshift c_fdx c_fdy c_fleastPlace c_fpairs c_foffset c_fplacesFirst c_fplaces) H → va_D A (sW ap ad la fa ra kc c_greys c_remembered c_columns c_rows c_settings c_reached c_order c_merged c_least c_greatest c_role_10 c_head c_tail c_rank_3 c_kindFrom_4 c_kindTo_5 c_side c_across c_down c_count c_flats c_crowded c_kinds c_first c_second c_pairs c_pairsWith c_voted c_ways c_shcount c_numberOfWay c_list c_fcount c_regions c_left c_open c_frows c_fshift c_fdx c_fdy c_fleastPlace c_fpairs c_foffset c_fplacesFirst c_fplaces) → va_S A s.heap H locs → lv_has ls 7 [(0, .ref (ad 2)), (2, .int x2), (4, .int x4_1), (5, .int x5_9)] → f_X5_noteKind_L83 FU x2 c_order k_11 n x5_9 c_role_10 = some (c_role', c_rank', c_kindFrom', c_kindTo', c_crowded') → WW p l e (rmq 0 0) s m args below meth c Q H locs 83 ls [] := by
          intro n
          induction n with
          | zero => intro x5_9 c_role_10 H locs ls hP hD hS hl h; rw [f_X5_noteKind_L83] at h; cases h
          | succ n ih =>
            intro x5_9 c_role_10 H locs ls hP hD hS hl h
            rw [f_X5_noteKind_L83] at h
            refine lv_iload hx hb dX5_noteKind_83 (lv_at hl 3 rfl) ?_
            refine lv_iload_n hx hb dX5_noteKind_85 rfl (lv_at hl 1 rfl) ?_
            refine lv_icmp_ge (tgt := 124) hx hb dX5_noteKind_86 (by decide) (fun q_19 => ?_) (fun q_19 => ?_)
            · have h := it_t q_19 h
              exact K_12 x5_9 c_role_10 _ _ _ hP hD hS (lv_sub hl [0, 2] rfl) h
            · have h := it_f q_19 h
              refine lv_aload_n hx hb dX5_noteKind_89 rfl (lv_at hl 0 rfl) ?_
              refine r_get S gf_X5_24 hK hP 5 rfl rfl dX5_noteKind_90 ?_
              refine lv_aload_n hx hb dX5_noteKind_93 rfl (lv_at hl 0 rfl) ?_
              refine r_get S gf_X5_9 hK hP 5 rfl rfl dX5_noteKind_94 ?_
              refine lv_iload hx hb dX5_noteKind_97 (lv_at hl 3 rfl) ?_
              refine r_iald hx hb hK hP 6 rfl dX5_noteKind_99 h (fun y_14 h => ?_)
              refine r_iald hx hb hK hP 10 rfl dX5_noteKind_100 h (fun y_15 h => ?_)
              refine lv_iconst (v := 1) hx hb dX5_noteKind_101 (by decide) ?_
              refine lv_icmp_eq (tgt := 118) hx hb dX5_noteKind_102 (by decide) (fun q_18 => ?_) (fun q_18 => ?_)
              · have h := it_t q_18 h
                refine lv_iinc (v := (x5_9 + 1)) (lv' := [(5, .int (x5_9 + 1)), (0, .ref (ad 2)), (2, .int x2), (4, .int x4_1)]) hx hb dX5_noteKind_118 hl (k := 3) rfl rfl (by decide) rfl (fun ls hl => ?_)
                refine lv_goto (tgt := 83) hx hb dX5_noteKind_121 (by decide) ?_
                exact ih (x5_9 + 1) c_role_10 _ _ _ hP hD hS (lv_sub hl [1, 2, 3, 0] rfl) h
              · have h := it_f q_18 h
                refine lv_aload_n hx hb dX5_noteKind_105 rfl (lv_at hl 0 rfl) ?_
                refine r_get S gf_X5_24 hK hP 5 rfl rfl dX5_noteKind_106 ?_
                refine lv_aload_n hx hb dX5_noteKind_109 rfl (lv_at hl 0 rfl) ?_
                refine r_get S gf_X5_9 hK hP 5 rfl rfl dX5_noteKind_110 ?_
                refine lv_iload hx hb dX5_noteKind_113 (lv_at hl 3 rfl) ?_
                refine r_iald hx hb hK hP 6 rfl dX5_noteKind_115 h (fun y_16 h => ?_)
                refine lv_iconst (v := 2) hx hb dX5_noteKind_116 (by decide) ?_
                refine r_iast hx hb hK hP hD hS 10 rfl dX5_noteKind_117 h (fun c_role_17 H locs hP hD hS h => ?_)
                have hP : VP G (sW ap ad la fa ra kc c_greys c_remembered c_columns c_rows c_settings c_reached c_order c_merged c_least c_greatest c_role_17 c_head c_tail c_rank_3 c_kindFrom_4 c_kindTo_5 c_side c_across c_down c_count c_flats c_crowded c_kinds c_first c_second c_pairs c_pairsWith c_voted c_ways c_shcount c_numberOfWay c_list c_fcount c_regions c_left c_open c_frows c_fshift c_fdx c_fdy c_fleastPlace c_fpairs c_foffset c_fplacesFirst c_fplaces) H := hP
                have hD : va_D A (sW ap ad la fa ra kc c_greys c_remembered c_columns c_rows c_settings c_reached c_order c_merged c_least c_greatest c_role_17 c_head c_tail c_rank_3 c_kindFrom_4 c_kindTo_5 c_side c_across c_down c_count c_flats c_crowded c_kinds c_first c_second c_pairs c_pairsWith c_voted c_ways c_shcount c_numberOfWay c_list c_fcount c_regions c_left c_open c_frows c_fshift c_fdx c_fdy c_fleastPlace c_fpairs c_foffset c_fplacesFirst c_fplaces) := hD
                refine lv_iinc (v := (x5_9 + 1)) (lv' := [(5, .int (x5_9 + 1)), (0, .ref (ad 2)), (2, .int x2), (4, .int x4_1)]) hx hb dX5_noteKind_118 hl (k := 3) rfl rfl (by decide) rfl (fun ls hl => ?_)
                refine lv_goto (tgt := 83) hx hb dX5_noteKind_121 (by decide) ?_
                exact ih (x5_9 + 1) c_role_17 _ _ _ hP hD hS (lv_sub hl [1, 2, 3, 0] rfl) h
        exact L_13 FU x1 c_role _ _ _ hP hD hS (lv_sub hl [1, 3, 5, 0] rfl) h
    · have h := it_f q_20 h
      cases h
      exact ret_v hx hb hr hQ hlocks hK hP hD hS dX5_noteKind_79
  · intro k_6 K_7 h
    have L_8 : ∀ (n : Nat) (x4_1 : Int32) (x5_2 : Int32) (c_rank_3 : (Nat → Int32)) (c_kindFrom_4 : (Nat → Int32)) (c_kindTo_5 : (Nat → Int32)) (H : Heap) (locs : List Loc) (ls : Array Slot), VP G (sW ap ad la fa ra kc c_greys c_remembered c_columns c_rows c_settings c_reached c_order c_merged c_least c_greatest c_role c_head c_tail c_rank_3 c_kindFrom_4 c_kindTo_5 c_side c_across c_down c_count c_flats c_crowded c_kinds c_first c_second c_pairs c_pairsWith c_voted c_ways c_shcount c_numberOfWay c_list c_fcount c_regions c_left c_open c_frows c_fshift c_fdx c_fdy c_fleastPlace c_fpairs c_foffset c_fplacesFirst c_fplaces) H → va_D A (sW ap ad la fa ra kc c_greys c_remembered c_columns c_rows c_settings c_reached c_order c_merged c_least c_greatest c_role c_head c_tail c_rank_3 c_kindFrom_4 c_kindTo_5 c_side c_across c_down c_count c_flats c_crowded c_kinds c_first c_second c_pairs c_pairsWith c_voted c_ways c_shcount c_numberOfWay c_list c_fcount c_regions c_left c_open c_frows c_fshift c_fdx c_fdy c_fleastPlace c_fpairs c_foffset c_fplacesFirst c_fplaces) → va_S A s.heap H locs → lv_has ls 7 [(0, .ref (ad 2)), (1, .int x1), (2, .int x2), (3, .int x3), (4, .int x4_1), (5, .int x5_2)] → f_X5_noteKind_L6 FU x1 x2 c_order c_role k_6 n x4_1 x5_2 c_rank_3 c_kindFrom_4 c_kindTo_5 = some (c_role', c_rank', c_kindFrom', c_kindTo', c_crowded') → WW p l e (rmq 0 0) s m args below meth c Q H locs 6 ls [] := by
      intro n
      induction n with
      | zero => intro x4_1 x5_2 c_rank_3 c_kindFrom_4 c_kindTo_5 H locs ls hP hD hS hl h; rw [f_X5_noteKind_L6] at h; cases h
      | succ n ih =>
        intro x4_1 x5_2 c_rank_3 c_kindFrom_4 c_kindTo_5 H locs ls hP hD hS hl h
        rw [f_X5_noteKind_L6] at h
        refine lv_iload hx hb dX5_noteKind_6 (lv_at hl 5 rfl) ?_
        refine lv_iload_n hx hb dX5_noteKind_8 rfl (lv_at hl 2 rfl) ?_
        refine lv_icmp_ge (tgt := 73) hx hb dX5_noteKind_9 (by decide) (fun q_30 => ?_) (fun q_30 => ?_)
        · have h := it_t q_30 h
          exact K_7 x4_1 x5_2 c_rank_3 c_kindFrom_4 c_kindTo_5 _ _ _ hP hD hS (lv_sub hl [0, 1, 2, 3, 4] rfl) h
        · have h := it_f q_30 h
          refine lv_aload_n hx hb dX5_noteKind_12 rfl (lv_at hl 0 rfl) ?_
          refine r_get S gf_X5_9 hK hP 5 rfl rfl dX5_noteKind_13 ?_
          refine lv_iload hx hb dX5_noteKind_16 (lv_at hl 5 rfl) ?_
          refine r_iald hx hb hK hP 6 rfl dX5_noteKind_18 h (fun y_21 h => ?_)
          refine lv_istore (lv' := [(6, .int y_21), (0, .ref (ad 2)), (1, .int x1), (2, .int x2), (3, .int x3), (4, .int x4_1), (5, .int x5_2)]) hx hb dX5_noteKind_19 hl (by decide) rfl (fun ls hl => ?_)
          refine lv_aload_n hx hb dX5_noteKind_21 rfl (lv_at hl 1 rfl) ?_
          refine r_get S gf_X5_34 hK hP 5 rfl rfl dX5_noteKind_22 ?_
          refine lv_iload hx hb dX5_noteKind_25 (lv_at hl 0 rfl) ?_
          refine lv_iload hx hb dX5_noteKind_27 (lv_at hl 6 rfl) ?_
          refine r_iast hx hb hK hP hD hS 13 rfl dX5_noteKind_29 h (fun c_rank_22 H locs hP hD hS h => ?_)
          have hP : VP G (sW ap ad la fa ra kc c_greys c_remembered c_columns c_rows c_settings c_reached c_order c_merged c_least c_greatest c_role c_head c_tail c_rank_22 c_kindFrom_4 c_kindTo_5 c_side c_across c_down c_count c_flats c_crowded c_kinds c_first c_second c_pairs c_pairsWith c_voted c_ways c_shcount c_numberOfWay c_list c_fcount c_regions c_left c_open c_frows c_fshift c_fdx c_fdy c_fleastPlace c_fpairs c_foffset c_fplacesFirst c_fplaces) H := hP
          have hD : va_D A (sW ap ad la fa ra kc c_greys c_remembered c_columns c_rows c_settings c_reached c_order c_merged c_least c_greatest c_role c_head c_tail c_rank_22 c_kindFrom_4 c_kindTo_5 c_side c_across c_down c_count c_flats c_crowded c_kinds c_first c_second c_pairs c_pairsWith c_voted c_ways c_shcount c_numberOfWay c_list c_fcount c_regions c_left c_open c_frows c_fshift c_fdx c_fdy c_fleastPlace c_fpairs c_foffset c_fplacesFirst c_fplaces) := hD
          refine lv_aload_n hx hb dX5_noteKind_30 rfl (lv_at hl 1 rfl) ?_
          refine r_get S gf_X5_37 hK hP 5 rfl rfl dX5_noteKind_31 ?_
          refine lv_iload hx hb dX5_noteKind_34 (lv_at hl 0 rfl) ?_
          refine lv_iload_n hx hb dX5_noteKind_36 rfl (lv_at hl 2 rfl) ?_
          refine r_iast hx hb hK hP hD hS 14 rfl dX5_noteKind_37 h (fun c_kindFrom_23 H locs hP hD hS h => ?_)
          have hP : VP G (sW ap ad la fa ra kc c_greys c_remembered c_columns c_rows c_settings c_reached c_order c_merged c_least c_greatest c_role c_head c_tail c_rank_22 c_kindFrom_23 c_kindTo_5 c_side c_across c_down c_count c_flats c_crowded c_kinds c_first c_second c_pairs c_pairsWith c_voted c_ways c_shcount c_numberOfWay c_list c_fcount c_regions c_left c_open c_frows c_fshift c_fdx c_fdy c_fleastPlace c_fpairs c_foffset c_fplacesFirst c_fplaces) H := hP
          have hD : va_D A (sW ap ad la fa ra kc c_greys c_remembered c_columns c_rows c_settings c_reached c_order c_merged c_least c_greatest c_role c_head c_tail c_rank_22 c_kindFrom_23 c_kindTo_5 c_side c_across c_down c_count c_flats c_crowded c_kinds c_first c_second c_pairs c_pairsWith c_voted c_ways c_shcount c_numberOfWay c_list c_fcount c_regions c_left c_open c_frows c_fshift c_fdx c_fdy c_fleastPlace c_fpairs c_foffset c_fplacesFirst c_fplaces) := hD
          refine lv_aload_n hx hb dX5_noteKind_38 rfl (lv_at hl 1 rfl) ?_
          refine r_get S gf_X5_40 hK hP 5 rfl rfl dX5_noteKind_39 ?_
          refine lv_iload hx hb dX5_noteKind_42 (lv_at hl 0 rfl) ?_
          refine lv_iload_n hx hb dX5_noteKind_44 rfl (lv_at hl 3 rfl) ?_
          refine r_iast hx hb hK hP hD hS 15 rfl dX5_noteKind_45 h (fun c_kindTo_24 H locs hP hD hS h => ?_)
          have hP : VP G (sW ap ad la fa ra kc c_greys c_remembered c_columns c_rows c_settings c_reached c_order c_merged c_least c_greatest c_role c_head c_tail c_rank_22 c_kindFrom_23 c_kindTo_24 c_side c_across c_down c_count c_flats c_crowded c_kinds c_first c_second c_pairs c_pairsWith c_voted c_ways c_shcount c_numberOfWay c_list c_fcount c_regions c_left c_open c_frows c_fshift c_fdx c_fdy c_fleastPlace c_fpairs c_foffset c_fplacesFirst c_fplaces) H := hP
          have hD : va_D A (sW ap ad la fa ra kc c_greys c_remembered c_columns c_rows c_settings c_reached c_order c_merged c_least c_greatest c_role c_head c_tail c_rank_22 c_kindFrom_23 c_kindTo_24 c_side c_across c_down c_count c_flats c_crowded c_kinds c_first c_second c_pairs c_pairsWith c_voted c_ways c_shcount c_numberOfWay c_list c_fcount c_regions c_left c_open c_frows c_fshift c_fdx c_fdy c_fleastPlace c_fpairs c_foffset c_fplacesFirst c_fplaces) := hD
          refine lv_iload hx hb dX5_noteKind_46 (lv_at hl 5 rfl) ?_
          refine lv_aload_n hx hb dX5_noteKind_48 rfl (lv_at hl 1 rfl) ?_
          refine r_get S gf_X5_24 hK hP 5 rfl rfl dX5_noteKind_49 ?_
          refine lv_iload hx hb dX5_noteKind_52 (lv_at hl 0 rfl) ?_
          refine r_iald hx hb hK hP 10 rfl dX5_noteKind_54 h (fun y_25 h => ?_)
          refine lv_iconst (v := 1) hx hb dX5_noteKind_55 (by decide) ?_
          refine jn_w (fun (k : Int32 → Option ((Nat → Int32) × (Nat → Int32) × (Nat → Int32) × (Nat → Int32) × Int32)) => ∀ (t_26 : Int32) (H : Heap) (locs : List Loc) (ls : Array Slot), VP G (sW ap ad la fa ra kc c_greys c_remembered c_columns c_rows c_settings c_reached c_order c_merged c_least c_greatest c_role c_head c_tail c_rank_22 c_kindFrom_23 c_kindTo_24 c_side c_across c_down c_count c_flats c_crowded c_kinds c_first c_second c_pairs c_pairsWith c_voted c_ways c_shcount c_numberOfWay c_list c_fcount c_regions c_left c_open c_frows c_fshift c_fdx c_fdy c_fleastPlace c_fpairs c_foffset c_fplacesFirst c_fplaces) H → va_D A (sW ap ad la fa ra kc c_greys c_remembered c_columns c_rows c_settings c_reached c_order c_merged c_least c_greatest c_role c_head c_tail c_rank_22 c_kindFrom_23 c_kindTo_24 c_side c_across c_down c_count c_flats c_crowded c_kinds c_first c_second c_pairs c_pairsWith c_voted c_ways c_shcount c_numberOfWay c_list c_fcount c_regions c_left c_open c_frows c_fshift c_fdx c_fdy c_fleastPlace c_fpairs c_foffset c_fplacesFirst c_fplaces) → va_S A s.heap H locs → lv_has ls 7 [(0, .ref (ad 2)), (1, .int x1), (2, .int x2), (3, .int x3), (5, .int x5_2)] → k t_26 = some (c_role', c_rank', c_kindFrom', c_kindTo', c_crowded') → WW p l e (rmq 0 0) s m args below meth c Q H locs 64 ls [.int t_26, .int x4_1]) h ?_ ?_
          · intro t_26 H locs ls hP hD hS hl h
            refine lv_iadd hx hb dX5_noteKind_64 ?_
            refine lv_istore (lv' := [(4, .int (x4_1 + t_26)), (0, .ref (ad 2)), (1, .int x1), (2, .int x2), (3, .int x3), (5, .int x5_2)]) hx hb dX5_noteKind_65 hl (by decide) rfl (fun ls hl => ?_)
            refine lv_iinc (v := (x5_2 + 1)) (lv' := [(5, .int (x5_2 + 1)), (4, .int (x4_1 + t_26)), (0, .ref (ad 2)), (1, .int x1), (2, .int x2), (3, .int x3)]) hx hb dX5_noteKind_67 hl (k := 5) rfl rfl (by decide) rfl (fun ls hl => ?_)
            refine lv_goto (tgt := 6) hx hb dX5_noteKind_70 (by decide) ?_
            exact ih (x4_1 + t_26) (x5_2 + 1) c_rank_22 c_kindFrom_23 c_kindTo_24 _ _ _ hP hD hS (lv_sub hl [2, 3, 4, 5, 1, 0] rfl) h
          · intro j_27 J_28 h
            refine lv_icmp_ne (tgt := 63) hx hb dX5_noteKind_56 (by decide) (fun q_29 => ?_) (fun q_29 => ?_)
            · have h := it_f q_29 h
              refine lv_iconst (v := 1) hx hb dX5_noteKind_63 (by decide) ?_
              exact J_28 1 _ _ _ hP hD hS (lv_sub hl [1, 2, 3, 4, 6] rfl) h
            · have h := it_t q_29 h
              refine lv_iconst (v := 0) hx hb dX5_noteKind_59 (by decide) ?_
              refine lv_goto (tgt := 64) hx hb dX5_noteKind_60 (by decide) ?_
              exact J_28 0 _ _ _ hP hD hS (lv_sub hl [1, 2, 3, 4, 6] rfl) h
    exact L_8 FU 0 x1 c_rank c_kindFrom c_kindTo _ _ _ hP hD hS (lv_sub hl [2, 3, 4, 5, 1, 0] rfl) h
set_option maxHeartbeats 1000000 in
set_option maxRecDepth 100000 in
theorem c_X5_splitKinds (l : Launch) (G : va_G) (kc : Nat → ClassId) (ap ad la fa ra : Nat → Nat) {c_greys : (Nat → Int32)} {c_remembered : (Nat → Int32)} {c_columns : Int32} {c_rows : Int32} {c_settings : (Nat → Int32)} {c_reached : Int32} {c_order : (Nat → Int32)} {c_merged : (Nat → Int32)} {c_least : (Nat → Int32)} {c_greatest : (Nat → Int32)} {c_role : (Nat → Int32)} {c_head : (Nat → Int64)} {c_tail : (Nat → Int64)} {c_rank : (Nat → Int32)} {c_kindFrom : (Nat → Int32)} {c_kindTo : (Nat → Int32)} {c_side : Int32} {c_across : Int32} {c_down : Int32} {c_count : Int32} {c_flats : Int32} {c_crowded : Int32} {c_kinds : Int32} {c_first : (Nat → Int32)} {c_second : (Nat → Int32)} {c_pairs : Int32} {c_pairsWith : (Nat → Int32)} {c_voted : (Nat → Int32)} {c_ways : (Nat → Int32)} {c_shcount : Int32} {c_numberOfWay : (Nat → Int32)} {c_list : (Nat → Nat)} {c_fcount : Int32} {c_regions : (Nat → Int32)} {c_left : (Nat → Nat → Int32)} {c_open : (Nat → Int32)} {c_frows : (Nat → Nat → Int32)} {c_fshift : (Nat → Int32)} {c_fdx : (Nat → Int32)} {c_fdy : (Nat → Int32)} {c_fleastPlace : (Nat → Int32)} {c_fpairs : (Nat → Int32)} {c_foffset : (Nat → Int32)} {c_fplacesFirst : (Nat → Int32)} {c_fplaces : (Nat → Int32)} (x1 : Int32) {c_role' : (Nat → Int32)} {c_rank' : (Nat → Int32)} {c_kindFrom' : (Nat → Int32)} {c_kindTo' : (Nat → Int32)} {c_crowded' : Int32} {c_kinds' : Int32} {FU : Nat} (h : f_X5_splitKinds FU c_order c_role c_head c_tail c_rank c_kindFrom c_kindTo c_count c_crowded c_kinds x1 = some (c_role', c_rank', c_kindFrom', c_kindTo', c_crowded', c_kinds')) : CTv l G kc yX5_splitKinds cX5_splitKinds 4 none (rmq 1 26) [.ref (ad 2), .int x1] (sW ap ad la fa ra kc c_greys c_remembered c_columns c_rows c_settings c_reached c_order c_merged c_least c_greatest c_role c_head c_tail c_rank c_kindFrom c_kindTo c_side c_across c_down c_count c_flats c_crowded c_kinds c_first c_second c_pairs c_pairsWith c_voted c_ways c_shcount c_numberOfWay c_list c_fcount c_regions c_left c_open c_frows c_fshift c_fdx c_fdy c_fleastPlace c_fpairs c_foffset c_fplacesFirst c_fplaces) (sW ap ad la fa ra kc c_greys c_remembered c_columns c_rows c_settings c_reached c_order c_merged c_least c_greatest (c_role') c_head c_tail (c_rank') (c_kindFrom') (c_kindTo') c_side c_across c_down c_count c_flats (c_crowded') (c_kinds') c_first c_second c_pairs c_pairsWith c_voted c_ways c_shcount c_numberOfWay c_list c_fcount c_regions c_left c_open c_frows c_fshift c_fdx c_fdy c_fleastPlace c_fpairs c_foffset c_fplacesFirst c_fplaces) := by
  refine CTv.mk (by decide) (Nat.le_of_ble_eq_true rfl) ?_
  intro p e s m args below meth c A ls Q hQ S hr hlocks hN hA hK hl hP hD hS
  have hx := S.1
  have hb := S.2.1
  have hl : lv_has ls 4 [(0, .ref (ad 2)), (1, .int x1)] := hl
  unfold f_X5_splitKinds at h
  refine lv_aload_n hx hb dX5_splitKinds_0 rfl (lv_at hl 0 rfl) ?_
  refine lv_iconst (v := 0) hx hb dX5_splitKinds_1 (by decide) ?_
  refine r_put S pf_X5_111 hK hP hD hS 5 rfl (Nat.le_of_ble_eq_true rfl) dX5_splitKinds_2 (fun H locs hP hD hS => ?_)
  have hP : VP G (sW ap ad la fa ra kc c_greys c_remembered c_columns c_rows c_settings c_reached c_order c_merged c_least c_greatest c_role c_head c_tail c_rank c_kindFrom c_kindTo c_side c_across c_down c_count c_flats c_crowded 0 c_first c_second c_pairs c_pairsWith c_voted c_ways c_shcount c_numberOfWay c_list c_fcount c_regions c_left c_open c_frows c_fshift c_fdx c_fdy c_fleastPlace c_fpairs c_foffset c_fplacesFirst c_fplaces) H := hP
  have hD : va_D A (sW ap ad la fa ra kc c_greys c_remembered c_columns c_rows c_settings c_reached c_order c_merged c_least c_greatest c_role c_head c_tail c_rank c_kindFrom c_kindTo c_side c_across c_down c_count c_flats c_crowded 0 c_first c_second c_pairs c_pairsWith c_voted c_ways c_shcount c_numberOfWay c_list c_fcount c_regions c_left c_open c_frows c_fshift c_fdx c_fdy c_fleastPlace c_fpairs c_foffset c_fplacesFirst c_fplaces) := hD
  refine lv_aload_n hx hb dX5_splitKinds_5 rfl (lv_at hl 0 rfl) ?_
  refine lv_iconst (v := 0) hx hb dX5_splitKinds_6 (by decide) ?_
  refine r_put S pf_X5_114 hK hP hD hS 5 rfl (Nat.le_of_ble_eq_true rfl) dX5_splitKinds_7 (fun H locs hP hD hS => ?_)
  have hP : VP G (sW ap ad la fa ra kc c_greys c_remembered c_columns c_rows c_settings c_reached c_order c_merged c_least c_greatest c_role c_head c_tail c_rank c_kindFrom c_kindTo c_side c_across c_down c_count c_flats 0 0 c_first c_second c_pairs c_pairsWith c_voted c_ways c_shcount c_numberOfWay c_list c_fcount c_regions c_left c_open c_frows c_fshift c_fdx c_fdy c_fleastPlace c_fpairs c_foffset c_fplacesFirst c_fplaces) H := hP
  have hD : va_D A (sW ap ad la fa ra kc c_greys c_remembered c_columns c_rows c_settings c_reached c_order c_merged c_least c_greatest c_role c_head c_tail c_rank c_kindFrom c_kindTo c_side c_across c_down c_count c_flats 0 0 c_first c_second c_pairs c_pairsWith c_voted c_ways c_shcount c_numberOfWay c_list c_fcount c_regions c_left c_open c_frows c_fshift c_fdx c_fdy c_fleastPlace c_fpairs c_foffset c_fplacesFirst c_fplaces) := hD
  refine lv_iconst (v := 0) hx hb dX5_splitKinds_10 (by decide) ?_
  refine lv_istore_n (lv' := [(2, .int 0), (0, .ref (ad 2)), (1, .int x1)]) hx hb dX5_splitKinds_11 rfl hl (by decide) rfl (fun ls hl => ?_)
  refine lv_iconst (v := 1) hx hb dX5_splitKinds_12 (by decide) ?_
  refine lv_istore_n (lv' := [(3, .int 1), (2, .int 0), (0, .ref (ad 2)), (1, .int x1)]) hx hb dX5_splitKinds_13 rfl hl (by decide) rfl (fun ls hl => ?_)
  refine jn_w (t := fun k => f_X5_splitKinds_L14 FU x1 c_order c_head c_tail c_count k FU 0 1 c_role c_rank c_kindFrom c_kindTo 0 0) (fun (k : Int32 → Int32 → (Nat → Int32) → (Nat → Int32) → (Nat → Int32) → (Nat → Int32) → Int32 → Int32 → Option ((Nat → Int32) × (Nat → Int32) × (Nat → Int32) × (Nat → Int32) × Int32 × Int32)) => ∀ (x2_1 : Int32) (x3_2 : Int32) (c_role_3 : (Nat → Int32)) (c_rank_4 : (Nat → Int32)) (c_kindFrom_5 : (Nat → Int32)) (c_kindTo_6 : (Nat → Int32)) (c_crowded_7 : Int32) (c_kinds_8 : Int32) (H : Heap) (locs : List Loc) (ls : Array Slot), VP G (sW ap ad la fa ra kc c_greys c_remembered c_columns c_rows c_settings c_reached c_order c_merged c_least c_greatest c_role_3 c_head c_tail c_rank_4 c_kindFrom_5 c_kindTo_6 c_side c_across c_down c_count c_flats c_crowded_7 c_kinds_8 c_first c_second c_pairs c_pairsWith c_voted c_ways c_shcount c_numberOfWay c_list c_fcount c_regions c_left c_open c_frows c_fshift c_fdx c_fdy c_fleastPlace c_fpairs c_foffset c_fplacesFirst c_fplaces) H → va_D A (sW ap ad la fa ra kc c_greys c_remembered c_columns c_rows c_settings c_reached c_order c_merged c_least c_greatest c_role_3 c_head c_tail c_rank_4 c_kindFrom_5 c_kindTo_6 c_side c_across c_down c_count c_flats c_crowded_7 c_kinds_8 c_first c_second c_pairs c_pairsWith c_voted c_ways c_shcount c_numberOfWay c_list c_fcount c_regions c_left c_open c_frows c_fshift c_fdx c_fdy c_fleastPlace c_fpairs c_foffset c_fplacesFirst c_fplaces) → va_S A s.heap H locs → lv_has ls 4 [] → k x2_1 x3_2 c_role_3 c_rank_4 c_kindFrom_5 c_kindTo_6 c_crowded_7 c_kinds_8 = some (c_role', c_rank', c_kindFrom', c_kindTo', c_crowded', c_kinds') → WW p l e (rmq 1 26) s m args below meth c Q H locs 74 ls []) h ?_ ?_
  · intro x2_1 x3_2 c_role_3 c_rank_4 c_kindFrom_5 c_kindTo_6 c_crowded_7 c_kinds_8 H locs ls hP hD hS hl h
    cases h
    exact ret_v hx hb hr hQ hlocks hK hP hD hS dX5_splitKinds_74
  · intro k_9 K_10 h
    have L_11 : ∀ (n : Nat) (x2_1 : Int32) (x3_2 : Int32) (c_role_3 : (Nat → Int32)) (c_rank_4 : (Nat → Int32)) (c_kindFrom_5 : (Nat → Int32)) (c_kindTo_6 : (Nat → Int32)) (c_crowded_7 : Int32) (c_kinds_8 : Int32) (H : Heap) (locs : List Loc) (ls : Array Slot), VP G (sW ap ad la fa ra kc c_greys c_remembered c_columns c_rows c_settings c_reached c_order c_merged c_least c_greatest c_role_3 c_head c_tail c_rank_4 c_kindFrom_5 c_kindTo_6 c_side c_across c_down c_count c_flats c_crowded_7 c_kinds_8 c_first c_second c_pairs c_pairsWith c_voted c_ways c_shcount c_numberOfWay c_list c_fcount c_regions c_left c_open c_frows c_fshift c_fdx c_fdy c_fleastPlace c_fpairs c_foffset c_fplacesFirst c_fplaces) H → va_D A (sW ap ad la fa ra kc c_greys c_remembered c_columns c_rows c_settings c_reached c_order c_merged c_least c_greatest c_role_3 c_head c_tail c_rank_4 c_kindFrom_5 c_kindTo_6 c_side c_across c_down c_count c_flats c_crowded_7 c_kinds_8 c_first c_second c_pairs c_pairsWith c_voted c_ways c_shcount c_numberOfWay c_list c_fcount c_regions c_left c_open c_frows c_fshift c_fdx c_fdy c_fleastPlace c_fpairs c_foffset c_fplacesFirst c_fplaces) → va_S A s.heap H locs → lv_has ls 4 [(0, .ref (ad 2)), (1, .int x1), (2, .int x2_1), (3, .int x3_2)] → f_X5_splitKinds_L14 FU x1 c_order c_head c_tail c_count k_9 n x2_1 x3_2 c_role_3 c_rank_4 c_kindFrom_5 c_kindTo_6 c_crowded_7 c_kinds_8 = some (c_role', c_rank', c_kindFrom', c_kindTo', c_crowded', c_kinds') → WW p l e (rmq 1 26) s m args below meth c Q H locs 14 ls [] := by
      intro n
      induction n with
      | zero => intro x2_1 x3_2 c_role_3 c_rank_4 c_kindFrom_5 c_kindTo_6 c_crowded_7 c_kinds_8 H locs ls hP hD hS hl h; rw [f_X5_splitKinds_L14] at h; cases h
      | succ n ih =>
        intro x2_1 x3_2 c_role_3 c_rank_4 c_kindFrom_5 c_kindTo_6 c_crowded_7 c_kinds_8 H locs ls hP hD hS hl h
        rw [f_X5_splitKinds_L14] at h
        refine lv_iload_n hx hb dX5_splitKinds_14 rfl (lv_at hl 3 rfl) ?_
        refine lv_aload_n hx hb dX5_splitKinds_15 rfl (lv_at hl 0 rfl) ?_
        refine r_get S gf_X5_67 hK hP 5 rfl rfl dX5_splitKinds_16 ?_
        refine lv_icmp_gt (tgt := 74) hx hb dX5_splitKinds_19 (by decide) (fun q_25 => ?_) (fun q_25 => ?_)
        · have h := it_t q_25 h
          exact K_10 x2_1 x3_2 c_role_3 c_rank_4 c_kindFrom_5 c_kindTo_6 c_crowded_7 c_kinds_8 _ _ _ hP hD hS (lv_sub hl [] rfl) h
        · have h := it_f q_25 h
          refine lv_iload_n hx hb dX5_splitKinds_22 rfl (lv_at hl 3 rfl) ?_
          refine lv_aload_n hx hb dX5_splitKinds_23 rfl (lv_at hl 0 rfl) ?_
          refine r_get S gf_X5_67 hK hP 5 rfl rfl dX5_splitKinds_24 ?_
          refine jn_w (fun (k : Int32 → Option ((Nat → Int32) × (Nat → Int32) × (Nat → Int32) × (Nat → Int32) × Int32 × Int32)) => ∀ (x3_12 : Int32) (H : Heap) (locs : List Loc) (ls : Array Slot), VP G (sW ap ad la fa ra kc c_greys c_remembered c_columns c_rows c_settings c_reached c_order c_merged c_least c_greatest c_role_3 c_head c_tail c_rank_4 c_kindFrom_5 c_kindTo_6 c_side c_across c_down c_count c_flats c_crowded_7 c_kinds_8 c_first c_second c_pairs c_pairsWith c_voted c_ways c_shcount c_numberOfWay c_list c_fcount c_regions c_left c_open c_frows c_fshift c_fdx c_fdy c_fleastPlace c_fpairs c_foffset c_fplacesFirst c_fplaces) H → va_D A (sW ap ad la fa ra kc c_greys c_remembered c_columns c_rows c_settings c_reached c_order c_merged c_least c_greatest c_role_3 c_head c_tail c_rank_4 c_kindFrom_5 c_kindTo_6 c_side c_across c_down c_count c_flats c_crowded_7 c_kinds_8 c_first c_second c_pairs c_pairsWith c_voted c_ways c_shcount c_numberOfWay c_list c_fcount c_regions c_left c_open c_frows c_fshift c_fdx c_fdy c_fleastPlace c_fpairs c_foffset c_fplacesFirst c_fplaces) → va_S A s.heap H locs → lv_has ls 4 [(0, .ref (ad 2)), (1, .int x1), (2, .int x2_1), (3, .int x3_12)] → k x3_12 = some (c_role', c_rank', c_kindFrom', c_kindTo', c_crowded', c_kinds') → WW p l e (rmq 1 26) s m args below meth c Q H locs 49 ls []) h ?_ ?_
          · intro x3_12 H locs ls hP hD hS hl h
            refine lv_aload_n hx hb dX5_splitKinds_49 rfl (lv_at hl 0 rfl) ?_
            refine lv_iload_n hx hb dX5_splitKinds_50 rfl (lv_at hl 2 rfl) ?_
            refine lv_iload_n hx hb dX5_splitKinds_51 rfl (lv_at hl 3 rfl) ?_
            refine lv_iload_n hx hb dX5_splitKinds_52 rfl (lv_at hl 1 rfl) ?_
            obtain ⟨c_role_15, c_rank_16, c_kindFrom_17, c_kindTo_18, c_crowded_19, hq, h⟩ := bd5_e h
            refine cs_Vv (rest := []) (ci := 4) S hN cb_X5_noteKind ml_X5_120 ⟨Nat.le_of_ble_eq_true rfl, Nat.le_of_ble_eq_true rfl⟩ (c_X5_noteKind l G kc ap ad la fa ra x2_1 x3_12 x1  hq) hK hP hD hS hA 5 rfl rfl rfl rfl rfl (Nat.le_of_ble_eq_true rfl) hl.1 dX5_splitKinds_53 (fun H locs hP hD hS => ?_)
            refine lv_aload_n hx hb dX5_splitKinds_56 rfl (lv_at hl 0 rfl) ?_
            refine lv_dup hx hb dX5_splitKinds_57 rfl ?_
            refine r_get S gf_X5_111 hK hP 5 rfl rfl dX5_splitKinds_58 ?_
            refine lv_iconst (v := 1) hx hb dX5_splitKinds_61 (by decide) ?_
            refine lv_iadd hx hb dX5_splitKinds_62 ?_
            refine r_put S pf_X5_111 hK hP hD hS 5 rfl (Nat.le_of_ble_eq_true rfl) dX5_splitKinds_63 (fun H locs hP hD hS => ?_)
            have hP : VP G (sW ap ad la fa ra kc c_greys c_remembered c_columns c_rows c_settings c_reached c_order c_merged c_least c_greatest c_role_15 c_head c_tail c_rank_16 c_kindFrom_17 c_kindTo_18 c_side c_across c_down c_count c_flats c_crowded_19 (c_kinds_8 + 1) c_first c_second c_pairs c_pairsWith c_voted c_ways c_shcount c_numberOfWay c_list c_fcount c_regions c_left c_open c_frows c_fshift c_fdx c_fdy c_fleastPlace c_fpairs c_foffset c_fplacesFirst c_fplaces) H := hP
            have hD : va_D A (sW ap ad la fa ra kc c_greys c_remembered c_columns c_rows c_settings c_reached c_order c_merged c_least c_greatest c_role_15 c_head c_tail c_rank_16 c_kindFrom_17 c_kindTo_18 c_side c_across c_down c_count c_flats c_crowded_19 (c_kinds_8 + 1) c_first c_second c_pairs c_pairsWith c_voted c_ways c_shcount c_numberOfWay c_list c_fcount c_regions c_left c_open c_frows c_fshift c_fdx c_fdy c_fleastPlace c_fpairs c_foffset c_fplacesFirst c_fplaces) := hD
            refine lv_iload_n hx hb dX5_splitKinds_66 rfl (lv_at hl 3 rfl) ?_
            refine lv_istore_n (lv' := [(2, .int x3_12), (0, .ref (ad 2)), (1, .int x1), (3, .int x3_12)]) hx hb dX5_splitKinds_67 rfl hl (by decide) rfl (fun ls hl => ?_)
            refine lv_iinc (v := (x3_12 + 1)) (lv' := [(3, .int (x3_12 + 1)), (2, .int x3_12), (0, .ref (ad 2)), (1, .int x1)]) hx hb dX5_splitKinds_68 hl (k := 3) rfl rfl (by decide) rfl (fun ls hl => ?_)
            refine lv_goto (tgt := 14) hx hb dX5_splitKinds_71 (by decide) ?_
            exact ih x3_12 (x3_12 + 1) c_role_15 c_rank_16 c_kindFrom_17 c_kindTo_18 c_crowded_19 (c_kinds_8 + 1) _ _ _ hP hD hS (lv_sub hl [2, 3, 1, 0] rfl) h
          · intro j_13 J_14 h
            refine lv_icmp_eq (tgt := 49) hx hb dX5_splitKinds_27 (by decide) (fun q_24 => ?_) (fun q_24 => ?_)
            · have h := it_t q_24 h
              exact J_14 x3_2 _ _ _ hP hD hS (lv_sub hl [0, 1, 2, 3] rfl) h
            · have h := it_f q_24 h
              refine lv_aload_n hx hb dX5_splitKinds_30 rfl (lv_at hl 0 rfl) ?_
              refine lv_aload_n hx hb dX5_splitKinds_31 rfl (lv_at hl 0 rfl) ?_
              refine r_get S gf_X5_9 hK hP 5 rfl rfl dX5_splitKinds_32 ?_
              refine lv_iload_n hx hb dX5_splitKinds_35 rfl (lv_at hl 2 rfl) ?_
              refine r_iald hx hb hK hP 6 rfl dX5_splitKinds_36 h (fun y_20 h => ?_)
              refine lv_aload_n hx hb dX5_splitKinds_37 rfl (lv_at hl 0 rfl) ?_
              refine r_get S gf_X5_9 hK hP 5 rfl rfl dX5_splitKinds_38 ?_
              refine lv_iload_n hx hb dX5_splitKinds_41 rfl (lv_at hl 3 rfl) ?_
              refine r_iald hx hb hK hP 6 rfl dX5_splitKinds_42 h (fun y_21 h => ?_)
              obtain ⟨r_22, hq, h⟩ := bd1_e h
              refine cs_Vi (rest := []) (ci := 4) S hN cb_X5_areAlike ml_X5_117 ⟨Nat.le_of_ble_eq_true rfl, Nat.le_of_ble_eq_true rfl⟩ (c_X5_areAlike l G kc ap ad la fa ra y_20 y_21  hq) hK hP hD hS hA 5 rfl rfl rfl rfl rfl (Nat.le_of_ble_eq_true rfl) hl.1 dX5_splitKinds_43 (fun H locs hP hD hS => ?_)
              refine lv_if_ne (tgt := 68) hx hb dX5_splitKinds_46 (by decide) (fun q_23 => ?_) (fun q_23 => ?_)
              · have h := it_f q_23 h
                refine lv_iinc (v := (x3_2 + 1)) (lv' := [(3, .int (x3_2 + 1)), (0, .ref (ad 2)), (1, .int x1), (2, .int x2_1)]) hx hb dX5_splitKinds_68 hl (k := 3) rfl rfl (by decide) rfl (fun ls hl => ?_)
                refine lv_goto (tgt := 14) hx hb dX5_splitKinds_71 (by decide) ?_
                exact ih x2_1 (x3_2 + 1) c_role_3 c_rank_4 c_kindFrom_5 c_kindTo_6 c_crowded_7 c_kinds_8 _ _ _ hP hD hS (lv_sub hl [1, 2, 3, 0] rfl) h
              · have h := it_t q_23 h
                exact J_14 x3_2 _ _ _ hP hD hS (lv_sub hl [0, 1, 2, 3] rfl) h
    exact L_11 FU 0 1 c_role c_rank c_kindFrom c_kindTo 0 0 _ _ _ hP hD hS (lv_sub hl [2, 3, 1, 0] rfl) h
set_option maxHeartbeats 1000000 in
set_option maxRecDepth 100000 in
theorem c_X5_read (l : Launch) (G : va_G) (kc : Nat → ClassId) (ap ad la fa ra : Nat → Nat) {c_greys : (Nat → Int32)} {c_remembered : (Nat → Int32)} {c_columns : Int32} {c_rows : Int32} {c_settings : (Nat → Int32)} {c_reached : Int32} {c_order : (Nat → Int32)} {c_merged : (Nat → Int32)} {c_least : (Nat → Int32)} {c_greatest : (Nat → Int32)} {c_role : (Nat → Int32)} {c_head : (Nat → Int64)} {c_tail : (Nat → Int64)} {c_rank : (Nat → Int32)} {c_kindFrom : (Nat → Int32)} {c_kindTo : (Nat → Int32)} {c_side : Int32} {c_across : Int32} {c_down : Int32} {c_count : Int32} {c_flats : Int32} {c_crowded : Int32} {c_kinds : Int32} {c_first : (Nat → Int32)} {c_second : (Nat → Int32)} {c_pairs : Int32} {c_pairsWith : (Nat → Int32)} {c_voted : (Nat → Int32)} {c_ways : (Nat → Int32)} {c_shcount : Int32} {c_numberOfWay : (Nat → Int32)} {c_list : (Nat → Nat)} {c_fcount : Int32} {c_regions : (Nat → Int32)} {c_left : (Nat → Nat → Int32)} {c_open : (Nat → Int32)} {c_frows : (Nat → Nat → Int32)} {c_fshift : (Nat → Int32)} {c_fdx : (Nat → Int32)} {c_fdy : (Nat → Int32)} {c_fleastPlace : (Nat → Int32)} {c_fpairs : (Nat → Int32)} {c_foffset : (Nat → Int32)} {c_fplacesFirst : (Nat → Int32)} {c_fplaces : (Nat → Int32)}  {c_order' : (Nat → Int32)} {c_merged' : (Nat → Int32)} {c_least' : (Nat → Int32)} {c_greatest' : (Nat → Int32)} {c_role' : (Nat → Int32)} {c_head' : (Nat → Int64)} {c_tail' : (Nat → Int64)} {c_rank' : (Nat → Int32)} {c_kindFrom' : (Nat → Int32)} {c_kindTo' : (Nat → Int32)} {c_side' : Int32} {c_across' : Int32} {c_down' : Int32} {c_count' : Int32} {c_flats' : Int32} {c_crowded' : Int32} {c_kinds' : Int32} {FU : Nat} (h : f_X5_read FU c_greys c_columns c_rows c_settings c_order c_merged c_least c_greatest c_role c_head c_tail c_rank c_kindFrom c_kindTo c_side c_across c_down c_count c_flats c_crowded c_kinds = some (c_order', c_merged', c_least', c_greatest', c_role', c_head', c_tail', c_rank', c_kindFrom', c_kindTo', c_side', c_across', c_down', c_count', c_flats', c_crowded', c_kinds')) : CTv l G kc yX5_read cX5_read 5 none (rmq 3 79) [.ref (ad 2), .ref (ap 0), .ref (ad 1)] (sW ap ad la fa ra kc c_greys c_remembered c_columns c_rows c_settings c_reached c_order c_merged c_least c_greatest c_role c_head c_tail c_rank c_kindFrom c_kindTo c_side c_across c_down c_count c_flats c_crowded c_kinds c_first c_second c_pairs c_pairsWith c_voted c_ways c_shcount c_numberOfWay c_list c_fcount c_regions c_left c_open c_frows c_fshift c_fdx c_fdy c_fleastPlace c_fpairs c_foffset c_fplacesFirst c_fplaces) (sW ap ad la fa ra kc c_greys c_remembered c_columns c_rows c_settings c_reached (c_order') (c_merged') (c_least') (c_greatest') (c_role') (c_head') (c_tail') (c_rank') (c_kindFrom') (c_kindTo') (c_side') (c_across') (c_down') (c_count') (c_flats') (c_crowded') (c_kinds') c_first c_second c_pairs c_pairsWith c_voted c_ways c_shcount c_numberOfWay c_list c_fcount c_regions c_left c_open c_frows c_fshift c_fdx c_fdy c_fleastPlace c_fpairs c_foffset c_fplacesFirst c_fplaces) := by
  refine CTv.mk (by decide) (Nat.le_of_ble_eq_true rfl) ?_
  intro p e s m args below meth c A ls Q hQ S hr hlocks hN hA hK hl hP hD hS
  have hx := S.1
  have hb := S.2.1
  have hl : lv_has ls 5 [(0, .ref (ad 2)), (1, .ref (ap 0)), (2, .ref (ad 1))] := hl
  unfold f_X5_read at h
  refine lv_aload_n hx hb dX5_read_0 rfl (lv_at hl 0 rfl) ?_
  refine lv_aload_n hx hb dX5_read_1 rfl (lv_at hl 2 rfl) ?_
  refine lv_iconst (v := 0) hx hb dX5_read_2 (by decide) ?_
  refine r_iald hx hb hK hP 4 rfl dX5_read_3 h (fun y_1 h => ?_)
  refine r_put S pf_X5_50 hK hP hD hS 5 rfl (Nat.le_of_ble_eq_true rfl) dX5_read_4 (fun H locs hP hD hS => ?_)
  have hP : VP G (sW ap ad la fa ra kc c_greys c_remembered c_columns c_rows c_settings c_reached c_order c_merged c_least c_greatest c_role c_head c_tail c_rank c_kindFrom c_kindTo y_1 c_across c_down c_count c_flats c_crowded c_kinds c_first c_second c_pairs c_pairsWith c_voted c_ways c_shcount c_numberOfWay c_list c_fcount c_regions c_left c_open c_frows c_fshift c_fdx c_fdy c_fleastPlace c_fpairs c_foffset c_fplacesFirst c_fplaces) H := hP
  have hD : va_D A (sW ap ad la fa ra kc c_greys c_remembered c_columns c_rows c_settings c_reached c_order c_merged c_least c_greatest c_role c_head c_tail c_rank c_kindFrom c_kindTo y_1 c_across c_down c_count c_flats c_crowded c_kinds c_first c_second c_pairs c_pairsWith c_voted c_ways c_shcount c_numberOfWay c_list c_fcount c_regions c_left c_open c_frows c_fshift c_fdx c_fdy c_fleastPlace c_fpairs c_foffset c_fplacesFirst c_fplaces) := hD
  refine lv_aload_n hx hb dX5_read_7 rfl (lv_at hl 0 rfl) ?_
  refine lv_iconst (v := 0) hx hb dX5_read_8 (by decide) ?_
  refine lv_aload_n hx hb dX5_read_9 rfl (lv_at hl 1 rfl) ?_
  refine r_get S gf_X5_53 hK hP 0 rfl rfl dX5_read_10 ?_
  refine lv_aload_n hx hb dX5_read_13 rfl (lv_at hl 0 rfl) ?_
  refine r_get S gf_X5_50 hK hP 5 rfl rfl dX5_read_14 ?_
  refine lv_isub hx hb dX5_read_17 ?_
  refine lv_iconst (v := 1) hx hb dX5_read_18 (by decide) ?_
  refine lv_iadd hx hb dX5_read_19 ?_
  refine va_mmax hx hb (S.2.2.1.trans hl.1.symm) S.2.2.2.1 (S.2.2.2.2 _ mm_X5_58) (S.2.2.2.2 _ ms_max) (S.2.2.2.2 _ ms_init) (S.2.2.2.2 _ mc_max) (Nat.le_of_ble_eq_true rfl) (Nat.le_of_ble_eq_true rfl) (Nat.zero_le _) (Nat.zero_le _) dX5_read_20 ?_
  refine r_put S pf_X5_43 hK hP hD hS 5 rfl (Nat.le_of_ble_eq_true rfl) dX5_read_23 (fun H locs hP hD hS => ?_)
  have hP : VP G (sW ap ad la fa ra kc c_greys c_remembered c_columns c_rows c_settings c_reached c_order c_merged c_least c_greatest c_role c_head c_tail c_rank c_kindFrom c_kindTo y_1 (if 0 < ((c_columns - y_1) + 1) then ((c_columns - y_1) + 1) else 0) c_down c_count c_flats c_crowded c_kinds c_first c_second c_pairs c_pairsWith c_voted c_ways c_shcount c_numberOfWay c_list c_fcount c_regions c_left c_open c_frows c_fshift c_fdx c_fdy c_fleastPlace c_fpairs c_foffset c_fplacesFirst c_fplaces) H := hP
  have hD : va_D A (sW ap ad la fa ra kc c_greys c_remembered c_columns c_rows c_settings c_reached c_order c_merged c_least c_greatest c_role c_head c_tail c_rank c_kindFrom c_kindTo y_1 (if 0 < ((c_columns - y_1) + 1) then ((c_columns - y_1) + 1) else 0) c_down c_count c_flats c_crowded c_kinds c_first c_second c_pairs c_pairsWith c_voted c_ways c_shcount c_numberOfWay c_list c_fcount c_regions c_left c_open c_frows c_fshift c_fdx c_fdy c_fleastPlace c_fpairs c_foffset c_fplacesFirst c_fplaces) := hD
  refine lv_aload_n hx hb dX5_read_26 rfl (lv_at hl 0 rfl) ?_
  refine lv_iconst (v := 0) hx hb dX5_read_27 (by decide) ?_
  refine lv_aload_n hx hb dX5_read_28 rfl (lv_at hl 1 rfl) ?_
  refine r_get S gf_X5_64 hK hP 0 rfl rfl dX5_read_29 ?_
  refine lv_aload_n hx hb dX5_read_32 rfl (lv_at hl 0 rfl) ?_
  refine r_get S gf_X5_50 hK hP 5 rfl rfl dX5_read_33 ?_
  refine lv_isub hx hb dX5_read_36 ?_
  refine lv_iconst (v := 1) hx hb dX5_read_37 (by decide) ?_
  refine lv_iadd hx hb dX5_read_38 ?_
  refine va_mmax hx hb (S.2.2.1.trans hl.1.symm) S.2.2.2.1 (S.2.2.2.2 _ mm_X5_58) (S.2.2.2.2 _ ms_max) (S.2.2.2.2 _ ms_init) (S.2.2.2.2 _ mc_max) (Nat.le_of_ble_eq_true rfl) (Nat.le_of_ble_eq_true rfl) (Nat.zero_le _) (Nat.zero_le _) dX5_read_39 ?_
  refine r_put S pf_X5_47 hK hP hD hS 5 rfl (Nat.le_of_ble_eq_true rfl) dX5_read_42 (fun H locs hP hD hS => ?_)
  have hP : VP G (sW ap ad la fa ra kc c_greys c_remembered c_columns c_rows c_settings c_reached c_order c_merged c_least c_greatest c_role c_head c_tail c_rank c_kindFrom c_kindTo y_1 (if 0 < ((c_columns - y_1) + 1) then ((c_columns - y_1) + 1) else 0) (if 0 < ((c_rows - y_1) + 1) then ((c_rows - y_1) + 1) else 0) c_count c_flats c_crowded c_kinds c_first c_second c_pairs c_pairsWith c_voted c_ways c_shcount c_numberOfWay c_list c_fcount c_regions c_left c_open c_frows c_fshift c_fdx c_fdy c_fleastPlace c_fpairs c_foffset c_fplacesFirst c_fplaces) H := hP
  have hD : va_D A (sW ap ad la fa ra kc c_greys c_remembered c_columns c_rows c_settings c_reached c_order c_merged c_least c_greatest c_role c_head c_tail c_rank c_kindFrom c_kindTo y_1 (if 0 < ((c_columns - y_1) + 1) then ((c_columns - y_1) + 1) else 0) (if 0 < ((c_rows - y_1) + 1) then ((c_rows - y_1) + 1) else 0) c_count c_flats c_crowded c_kinds c_first c_second c_pairs c_pairsWith c_voted c_ways c_shcount c_numberOfWay c_list c_fcount c_regions c_left c_open c_frows c_fshift c_fdx c_fdy c_fleastPlace c_fpairs c_foffset c_fplacesFirst c_fplaces) := hD
  refine lv_aload_n hx hb dX5_read_45 rfl (lv_at hl 0 rfl) ?_
  refine lv_iconst (v := 0) hx hb dX5_read_46 (by decide) ?_
  refine r_put S pf_X5_67 hK hP hD hS 5 rfl (Nat.le_of_ble_eq_true rfl) dX5_read_47 (fun H locs hP hD hS => ?_)
  have hP : VP G (sW ap ad la fa ra kc c_greys c_remembered c_columns c_rows c_settings c_reached c_order c_merged c_least c_greatest c_role c_head c_tail c_rank c_kindFrom c_kindTo y_1 (if 0 < ((c_columns - y_1) + 1) then ((c_columns - y_1) + 1) else 0) (if 0 < ((c_rows - y_1) + 1) then ((c_rows - y_1) + 1) else 0) 0 c_flats c_crowded c_kinds c_first c_second c_pairs c_pairsWith c_voted c_ways c_shcount c_numberOfWay c_list c_fcount c_regions c_left c_open c_frows c_fshift c_fdx c_fdy c_fleastPlace c_fpairs c_foffset c_fplacesFirst c_fplaces) H := hP
  have hD : va_D A (sW ap ad la fa ra kc c_greys c_remembered c_columns c_rows c_settings c_reached c_order c_merged c_least c_greatest c_role c_head c_tail c_rank c_kindFrom c_kindTo y_1 (if 0 < ((c_columns - y_1) + 1) then ((c_columns - y_1) + 1) else 0) (if 0 < ((c_rows - y_1) + 1) then ((c_rows - y_1) + 1) else 0) 0 c_flats c_crowded c_kinds c_first c_second c_pairs c_pairsWith c_voted c_ways c_shcount c_numberOfWay c_list c_fcount c_regions c_left c_open c_frows c_fshift c_fdx c_fdy c_fleastPlace c_fpairs c_foffset c_fplacesFirst c_fplaces) := hD
  refine lv_aload_n hx hb dX5_read_50 rfl (lv_at hl 0 rfl) ?_
  refine lv_iconst (v := 0) hx hb dX5_read_51 (by decide) ?_
  refine r_put S pf_X5_70 hK hP hD hS 5 rfl (Nat.le_of_ble_eq_true rfl) dX5_read_52 (fun H locs hP hD hS => ?_)
  have hP : VP G (sW ap ad la fa ra kc c_greys c_remembered c_columns c_rows c_settings c_reached c_order c_merged c_least c_greatest c_role c_head c_tail c_rank c_kindFrom c_kindTo y_1 (if 0 < ((c_columns - y_1) + 1) then ((c_columns - y_1) + 1) else 0) (if 0 < ((c_rows - y_1) + 1) then ((c_rows - y_1) + 1) else 0) 0 0 c_crowded c_kinds c_first c_second c_pairs c_pairsWith c_voted c_ways c_shcount c_numberOfWay c_list c_fcount c_regions c_left c_open c_frows c_fshift c_fdx c_fdy c_fleastPlace c_fpairs c_foffset c_fplacesFirst c_fplaces) H := hP
  have hD : va_D A (sW ap ad la fa ra kc c_greys c_remembered c_columns c_rows c_settings c_reached c_order c_merged c_least c_greatest c_role c_head c_tail c_rank c_kindFrom c_kindTo y_1 (if 0 < ((c_columns - y_1) + 1) then ((c_columns - y_1) + 1) else 0) (if 0 < ((c_rows - y_1) + 1) then ((c_rows - y_1) + 1) else 0) 0 0 c_crowded c_kinds c_first c_second c_pairs c_pairsWith c_voted c_ways c_shcount c_numberOfWay c_list c_fcount c_regions c_left c_open c_frows c_fshift c_fdx c_fdy c_fleastPlace c_fpairs c_foffset c_fplacesFirst c_fplaces) := hD
  refine lv_iconst (v := 0) hx hb dX5_read_55 (by decide) ?_
  refine lv_istore_n (lv' := [(3, .int 0), (0, .ref (ad 2)), (1, .ref (ap 0)), (2, .ref (ad 1))]) hx hb dX5_read_56 rfl hl (by decide) rfl (fun ls hl => ?_)
  refine jn_w (t := fun k => f_X5_read_L57 FU c_greys c_columns c_rows c_settings y_1 (if 0 < ((c_columns - y_1) + 1) then ((c_columns - y_1) + 1) else 0) (if 0 < ((c_rows - y_1) + 1) then ((c_rows - y_1) + 1) else 0) k FU 0 c_order c_least c_greatest c_role c_head c_tail 0 0) (fun (k : Int32 → (Nat → Int32) → (Nat → Int32) → (Nat → Int32) → (Nat → Int32) → (Nat → Int64) → (Nat → Int64) → Int32 → Int32 → Option ((Nat → Int32) × (Nat → Int32) × (Nat → Int32) × (Nat → Int32) × (Nat → Int32) × (Nat → Int64) × (Nat → Int64) × (Nat → Int32) × (Nat → Int32) × (Nat → Int32) × Int32 × Int32 × Int32 × Int32 × Int32 × Int32 × Int32)) => ∀ (x3_2 : Int32) (c_order_3 : (Nat → Int32)) (c_least_4 : (Nat → Int32)) (c_greatest_5 : (Nat → Int32)) (c_role_6 : (Nat → Int32)) (c_head_7 : (Nat → Int64)) (c_tail_8 : (Nat → Int64)) (c_count_9 : Int32) (c_flats_10 : Int32) (H : Heap) (locs : List Loc) (ls : Array Slot), VP G (sW ap ad la fa ra kc c_greys c_remembered c_columns c_rows c_settings c_reached c_order_3 c_merged c_least_4 c_greatest_5 c_role_6 c_head_7 c_tail_8 c_rank c_kindFrom c_kindTo y_1 (if 0 < ((c_columns - y_1) + 1) then ((c_columns - y_1) + 1) else 0) (if 0 < ((c_rows - y_1) + 1) then ((c_rows - y_1) + 1) else 0) c_count_9 c_flats_10 c_crowded c_kinds c_first c_second c_pairs c_pairsWith c_voted c_ways c_shcount c_numberOfWay c_list c_fcount c_regions c_left c_open c_frows c_fshift c_fdx c_fdy c_fleastPlace c_fpairs c_foffset c_fplacesFirst c_fplaces) H → va_D A (sW ap ad la fa ra kc c_greys c_remembered c_columns c_rows c_settings c_reached c_order_3 c_merged c_least_4 c_greatest_5 c_role_6 c_head_7 c_tail_8 c_rank c_kindFrom c_kindTo y_1 (if 0 < ((c_columns - y_1) + 1) then ((c_columns - y_1) + 1) else 0) (if 0 < ((c_rows - y_1) + 1) then ((c_rows - y_1) + 1) else 0) c_count_9 c_flats_10 c_crowded c_kinds c_first c_second c_pairs c_pairsWith c_voted c_ways c_shcount c_numberOfWay c_list c_fcount c_regions c_left c_open c_frows c_fshift c_fdx c_fdy c_fleastPlace c_fpairs c_foffset c_fplacesFirst c_fplaces) → va_S A s.heap H locs → lv_has ls 5 [(0, .ref (ad 2)), (2, .ref (ad 1))] → k x3_2 c_order_3 c_least_4 c_greatest_5 c_role_6 c_head_7 c_tail_8 c_count_9 c_flats_10 = some (c_order', c_merged', c_least', c_greatest', c_role', c_head', c_tail', c_rank', c_kindFrom', c_kindTo', c_side', c_across', c_down', c_count', c_flats', c_crowded', c_kinds') → WW p l e (rmq 3 79) s m args below meth c Q H locs 135 ls []) h ?_ ?_
  · intro x3_2 c_order_3 c_least_4 c_greatest_5 c_role_6 c_head_7 c_tail_8 c_count_9 c_flats_10 H locs ls hP hD hS hl h
    refine lv_aload_n hx hb dX5_read_135 rfl (lv_at hl 0 rfl) ?_
    obtain ⟨c_order_14, c_merged_15, hq, h⟩ := bd2_e h
    refine cs_Vv (rest := []) (ci := 4) S hN cb_X5_sort ml_X5_81 ⟨Nat.le_of_ble_eq_true rfl, Nat.le_of_ble_eq_true rfl⟩ (c_X5_sort l G kc ap ad la fa ra   hq) hK hP hD hS hA 5 rfl rfl rfl rfl rfl (Nat.le_of_ble_eq_true rfl) hl.1 dX5_read_136 (fun H locs hP hD hS => ?_)
    refine lv_aload_n hx hb dX5_read_139 rfl (lv_at hl 0 rfl) ?_
    refine lv_aload_n hx hb dX5_read_140 rfl (lv_at hl 1 rfl) ?_
    refine lv_iconst (v := 5) hx hb dX5_read_141 (by decide) ?_
    refine r_iald hx hb hK hP 4 rfl dX5_read_142 h (fun y_16 h => ?_)
    obtain ⟨c_role_17, c_rank_18, c_kindFrom_19, c_kindTo_20, c_crowded_21, c_kinds_22, hq, h⟩ := bd6_e h
    refine cs_Vv (rest := []) (ci := 4) S hN cb_X5_splitKinds ml_X5_84 ⟨Nat.le_of_ble_eq_true rfl, Nat.le_of_ble_eq_true rfl⟩ (c_X5_splitKinds l G kc ap ad la fa ra y_16  hq) hK hP hD hS hA 5 rfl rfl rfl rfl rfl (Nat.le_of_ble_eq_true rfl) hl.1 dX5_read_143 (fun H locs hP hD hS => ?_)
    cases h
    exact ret_v hx hb hr hQ hlocks hK hP hD hS dX5_read_146
  · intro k_11 K_12 h
    have L_13 : ∀ (n : Nat) (x3_2 : Int32) (c_order_3 : (Nat → Int32)) (c_least_4 : (Nat → Int32)) (c_greatest_5 : (Nat → Int32)) (c_role_6 : (Nat → Int32)) (c_head_7 : (Nat → Int64)) (c_tail_8 : (Nat → Int64)) (c_count_9 : Int32) (c_flats_10 : Int32) (H : Heap) (locs : List Loc) (ls : Array Slot), VP G (sW ap ad la fa ra kc c_greys c_remembered c_columns c_rows c_settings c_reached c_order_3 c_merged c_least_4 c_greatest_5 c_role_6 c_head_7 c_tail_8 c_rank c_kindFrom c_kindTo y_1 (if 0 < ((c_columns - y_1) + 1) then ((c_columns - y_1) + 1) else 0) (if 0 < ((c_rows - y_1) + 1) then ((c_rows - y_1) + 1) else 0) c_count_9 c_flats_10 c_crowded c_kinds c_first c_second c_pairs c_pairsWith c_voted c_ways c_shcount c_numberOfWay c_list c_fcount c_regions c_left c_open c_frows c_fshift c_fdx c_fdy c_fleastPlace c_fpairs c_foffset c_fplacesFirst c_fplaces) H → va_D A (sW ap ad la fa ra kc c_greys c_remembered c_columns c_rows c_settings c_reached c_order_3 c_merged c_least_4 c_greatest_5 c_role_6 c_head_7 c_tail_8 c_rank c_kindFrom c_kindTo y_1 (if 0 < ((c_columns - y_1) + 1) then ((c_columns - y_1) + 1) else 0) (if 0 < ((c_rows - y_1) + 1) then ((c_rows - y_1) + 1) else 0) c_count_9 c_flats_10 c_crowded c_kinds c_first c_second c_pairs c_pairsWith c_voted c_ways c_shcount c_numberOfWay c_list c_fcount c_regions c_left c_open c_frows c_fshift c_fdx c_fdy c_fleastPlace c_fpairs c_foffset c_fplacesFirst c_fplaces) → va_S A s.heap H locs → lv_has ls 5 [(0, .ref (ad 2)), (1, .ref (ap 0)), (2, .ref (ad 1)), (3, .int x3_2)] → f_X5_read_L57 FU c_greys c_columns c_rows c_settings y_1 (if 0 < ((c_columns - y_1) + 1) then ((c_columns - y_1) + 1) else 0) (if 0 < ((c_rows - y_1) + 1) then ((c_rows - y_1) + 1) else 0) k_11 n x3_2 c_order_3 c_least_4 c_greatest_5 c_role_6 c_head_7 c_tail_8 c_count_9 c_flats_10 = some (c_order', c_merged', c_least', c_greatest', c_role', c_head', c_tail', c_rank', c_kindFrom', c_kindTo', c_side', c_across', c_down', c_count', c_flats', c_crowded', c_kinds') → WW p l e (rmq 3 79) s m args below meth c Q H locs 57 ls [] := by
      intro n
      induction n with
      | zero => intro x3_2 c_order_3 c_least_4 c_greatest_5 c_role_6 c_head_7 c_tail_8 c_count_9 c_flats_10 H locs ls hP hD hS hl h; rw [f_X5_read_L57] at h; cases h
      | succ n ih =>
        intro x3_2 c_order_3 c_least_4 c_greatest_5 c_role_6 c_head_7 c_tail_8 c_count_9 c_flats_10 H locs ls hP hD hS hl h
        rw [f_X5_read_L57] at h
        refine lv_iload_n hx hb dX5_read_57 rfl (lv_at hl 3 rfl) ?_
        refine lv_aload_n hx hb dX5_read_58 rfl (lv_at hl 0 rfl) ?_
        refine r_get S gf_X5_47 hK hP 5 rfl rfl dX5_read_59 ?_
        refine lv_icmp_ge (tgt := 135) hx hb dX5_read_62 (by decide) (fun q_44 => ?_) (fun q_44 => ?_)
        · have h := it_t q_44 h
          exact K_12 x3_2 c_order_3 c_least_4 c_greatest_5 c_role_6 c_head_7 c_tail_8 c_count_9 c_flats_10 _ _ _ hP hD hS (lv_sub hl [0, 2] rfl) h
        · have h := it_f q_44 h
          refine lv_iconst (v := 0) hx hb dX5_read_65 (by decide) ?_
          refine lv_istore (lv' := [(4, .int 0), (0, .ref (ad 2)), (1, .ref (ap 0)), (2, .ref (ad 1)), (3, .int x3_2)]) hx hb dX5_read_66 hl (by decide) rfl (fun ls hl => ?_)
          refine jn_w (t := fun k => f_X5_read_L68 FU x3_2 c_greys c_columns c_rows c_settings y_1 (if 0 < ((c_columns - y_1) + 1) then ((c_columns - y_1) + 1) else 0) k FU 0 c_order_3 c_least_4 c_greatest_5 c_role_6 c_head_7 c_tail_8 c_count_9 c_flats_10) (fun (k : Int32 → (Nat → Int32) → (Nat → Int32) → (Nat → Int32) → (Nat → Int32) → (Nat → Int64) → (Nat → Int64) → Int32 → Int32 → Option ((Nat → Int32) × (Nat → Int32) × (Nat → Int32) × (Nat → Int32) × (Nat → Int32) × (Nat → Int64) × (Nat → Int64) × (Nat → Int32) × (Nat → Int32) × (Nat → Int32) × Int32 × Int32 × Int32 × Int32 × Int32 × Int32 × Int32)) => ∀ (x4_23 : Int32) (c_order_24 : (Nat → Int32)) (c_least_25 : (Nat → Int32)) (c_greatest_26 : (Nat → Int32)) (c_role_27 : (Nat → Int32)) (c_head_28 : (Nat → Int64)) (c_tail_29 : (Nat → Int64)) (c_count_30 : Int32) (c_flats_31 : Int32) (H : Heap) (locs : List Loc) (ls : Array Slot), VP G (sW ap ad la fa ra kc c_greys c_remembered c_columns c_rows c_settings c_reached c_order_24 c_merged c_least_25 c_greatest_26 c_role_27 c_head_28 c_tail_29 c_rank c_kindFrom c_kindTo y_1 (if 0 < ((c_columns - y_1) + 1) then ((c_columns - y_1) + 1) else 0) (if 0 < ((c_rows - y_1) + 1) then ((c_rows - y_1) + 1) else 0) c_count_30 c_flats_31 c_crowded c_kinds c_first c_second c_pairs c_pairsWith c_voted c_ways c_shcount c_numberOfWay c_list c_fcount c_regions c_left c_open c_frows c_fshift c_fdx c_fdy c_fleastPlace c_fpairs c_foffset c_fplacesFirst c_fplaces) H → va_D A (sW ap ad la fa ra kc c_greys c_remembered c_columns c_rows c_settings c_reached c_order_24 c_merged c_least_25 c_greatest_26 c_role_27 c_head_28 c_tail_29 c_rank c_kindFrom c_kindTo y_1 (if 0 < ((c_columns - y_1) + 1) then ((c_columns - y_1) + 1) else 0) (if 0 < ((c_rows - y_1) + 1) then ((c_rows - y_1) + 1) else 0) c_count_30 c_flats_31 c_crowded c_kinds c_first c_second c_pairs c_pairsWith c_voted c_ways c_shcount c_numberOfWay c_list c_fcount c_regions c_left c_open c_frows c_fshift c_fdx c_fdy c_fleastPlace c_fpairs c_foffset c_fplacesFirst c_fplaces) → va_S A s.heap H locs → lv_has ls 5 [(0, .ref (ad 2)), (1, .ref (ap 0)), (2, .ref (ad 1)), (3, .int x3_2)] → k x4_23 c_order_24 c_least_25 c_greatest_26 c_role_27 c_head_28 c_tail_29 c_count_30 c_flats_31 = some (c_order', c_merged', c_least', c_greatest', c_role', c_head', c_tail', c_rank', c_kindFrom', c_kindTo', c_side', c_across', c_down', c_count', c_flats', c_crowded', c_kinds') → WW p l e (rmq 3 79) s m args below meth c Q H locs 129 ls []) h ?_ ?_
          · intro x4_23 c_order_24 c_least_25 c_greatest_26 c_role_27 c_head_28 c_tail_29 c_count_30 c_flats_31 H locs ls hP hD hS hl h
            refine lv_iinc (v := (x3_2 + 1)) (lv' := [(3, .int (x3_2 + 1)), (0, .ref (ad 2)), (1, .ref (ap 0)), (2, .ref (ad 1))]) hx hb dX5_read_129 hl (k := 3) rfl rfl (by decide) rfl (fun ls hl => ?_)
            refine lv_goto (tgt := 57) hx hb dX5_read_132 (by decide) ?_
            exact ih (x3_2 + 1) c_order_24 c_least_25 c_greatest_26 c_role_27 c_head_28 c_tail_29 c_count_30 c_flats_31 _ _ _ hP hD hS (lv_sub hl [1, 2, 3, 0] rfl) h
          · intro k_32 K_33 h
            have L_34 : ∀ (n : Nat) (x4_23 : Int32) (c_order_24 : (Nat → Int32)) (c_least_25 : (Nat → Int32)) (c_greatest_26 : (Nat → Int32)) (c_role_27 : (Nat → Int32)) (c_head_28 : (Nat → Int64)) (c_tail_29 : (Nat → Int64)) (c_count_30 : Int32) (c_flats_31 : Int32) (H : Heap) (locs : List Loc) (ls : Array Slot), VP G (sW ap ad la fa ra kc c_greys c_remembered c_columns c_rows c_settings c_reached c_order_24 c_merged c_least_25 c_greatest_26 c_role_27 c_head_28 c_tail_29 c_rank c_kindFrom c_kindTo y_1 (if 0 < ((c_columns - y_1) + 1) then ((c_columns - y_1) + 1) else 0) (if 0 < ((c_rows - y_1) + 1) then ((c_rows - y_1) + 1) else 0) c_count_30 c_flats_31 c_crowded c_kinds c_first c_second c_pairs c_pairsWith c_voted c_ways c_shcount c_numberOfWay c_list c_fcount c_regions c_left c_open c_frows c_fshift c_fdx c_fdy c_fleastPlace c_fpairs c_foffset c_fplacesFirst c_fplaces) H → va_D A (sW ap ad la fa ra kc c_greys c_remembered c_columns c_rows c_settings c_reached c_order_24 c_merged c_least_25 c_greatest_26 c_role_27 c_head_28 c_tail_29 c_rank c_kindFrom c_kindTo y_1 (if 0 < ((c_columns - y_1) + 1) then ((c_columns - y_1) + 1) else 0) (if 0 < ((c_rows - y_1) + 1) then ((c_rows - y_1) + 1) else 0) c_count_30 c_flats_31 c_crowded c_kinds c_first c_second c_pairs c_pairsWith c_voted c_ways c_shcount c_numberOfWay c_list c_fcount c_regions c_left c_open c_frows c_fshift c_fdx c_fdy c_fleastPlace c_fpairs c_foffset c_fplacesFirst c_fplaces) → va_S A s.heap H locs → lv_has ls 5 [(0, .ref (ad 2)), (1, .ref (ap 0)), (2, .ref (ad 1)), (3, .int x3_2), (4, .int x4_23)] → f_X5_read_L68 FU x3_2 c_greys c_columns c_rows c_settings y_1 (if 0 < ((c_columns - y_1) + 1) then ((c_columns - y_1) + 1) else 0) k_32 n x4_23 c_order_24 c_least_25 c_greatest_26 c_role_27 c_head_28 c_tail_29 c_count_30 c_flats_31 = some (c_order', c_merged', c_least', c_greatest', c_role', c_head', c_tail', c_rank', c_kindFrom', c_kindTo', c_side', c_across', c_down', c_count', c_flats', c_crowded', c_kinds') → WW p l e (rmq 3 79) s m args below meth c Q H locs 68 ls [] := by
              intro n
              induction n with
              | zero => intro x4_23 c_order_24 c_least_25 c_greatest_26 c_role_27 c_head_28 c_tail_29 c_count_30 c_flats_31 H locs ls hP hD hS hl h; rw [f_X5_read_L68] at h; cases h
              | succ n ih =>
                intro x4_23 c_order_24 c_least_25 c_greatest_26 c_role_27 c_head_28 c_tail_29 c_count_30 c_flats_31 H locs ls hP hD hS hl h
                rw [f_X5_read_L68] at h
                refine lv_iload hx hb dX5_read_68 (lv_at hl 4 rfl) ?_
                refine lv_aload_n hx hb dX5_read_70 rfl (lv_at hl 0 rfl) ?_
                refine r_get S gf_X5_43 hK hP 5 rfl rfl dX5_read_71 ?_
                refine lv_icmp_ge (tgt := 129) hx hb dX5_read_74 (by decide) (fun q_43 => ?_) (fun q_43 => ?_)
                · have h := it_t q_43 h
                  exact K_33 x4_23 c_order_24 c_least_25 c_greatest_26 c_role_27 c_head_28 c_tail_29 c_count_30 c_flats_31 _ _ _ hP hD hS (lv_sub hl [0, 1, 2, 3] rfl) h
                · have h := it_f q_43 h
                  refine lv_aload_n hx hb dX5_read_77 rfl (lv_at hl 0 rfl) ?_
                  refine lv_aload_n hx hb dX5_read_78 rfl (lv_at hl 1 rfl) ?_
                  refine lv_iload hx hb dX5_read_79 (lv_at hl 4 rfl) ?_
                  refine lv_iload_n hx hb dX5_read_81 rfl (lv_at hl 3 rfl) ?_
                  refine lv_aload_n hx hb dX5_read_82 rfl (lv_at hl 2 rfl) ?_
                  refine lv_iconst (v := 3) hx hb dX5_read_83 (by decide) ?_
                  refine r_iald hx hb hK hP 4 rfl dX5_read_84 h (fun y_35 h => ?_)
                  obtain ⟨c_least_36, c_greatest_37, c_role_38, c_flats_39, hq, h⟩ := bd4_e h
                  refine cs_Vv (rest := []) (ci := 4) S hN cb_X5_measure ml_X5_73 ⟨Nat.le_of_ble_eq_true rfl, Nat.le_of_ble_eq_true rfl⟩ (c_X5_measure l G kc ap ad la fa ra x4_23 x3_2 y_35  hq) hK hP hD hS hA 5 rfl rfl rfl rfl rfl (Nat.le_of_ble_eq_true rfl) hl.1 dX5_read_85 (fun H locs hP hD hS => ?_)
                  refine lv_aload_n hx hb dX5_read_88 rfl (lv_at hl 0 rfl) ?_
                  refine lv_aload_n hx hb dX5_read_89 rfl (lv_at hl 1 rfl) ?_
                  refine lv_iload hx hb dX5_read_90 (lv_at hl 4 rfl) ?_
                  refine lv_iload_n hx hb dX5_read_92 rfl (lv_at hl 3 rfl) ?_
                  refine lv_aload_n hx hb dX5_read_93 rfl (lv_at hl 2 rfl) ?_
                  obtain ⟨c_head_40, c_tail_41, hq, h⟩ := bd2_e h
                  refine cs_Vv (rest := []) (ci := 4) S hN cb_X5_readNumbers ml_X5_77 ⟨Nat.le_of_ble_eq_true rfl, Nat.le_of_ble_eq_true rfl⟩ (c_X5_readNumbers l G kc ap ad la fa ra x4_23 x3_2  hq) hK hP hD hS hA 5 rfl rfl rfl rfl rfl (Nat.le_of_ble_eq_true rfl) hl.1 dX5_read_94 (fun H locs hP hD hS => ?_)
                  refine lv_aload_n hx hb dX5_read_97 rfl (lv_at hl 0 rfl) ?_
                  refine r_get S gf_X5_9 hK hP 5 rfl rfl dX5_read_98 ?_
                  refine lv_aload_n hx hb dX5_read_101 rfl (lv_at hl 0 rfl) ?_
                  refine r_get S gf_X5_67 hK hP 5 rfl rfl dX5_read_102 ?_
                  refine lv_bipush (v := 16) hx hb dX5_read_105 (by decide) ?_
                  refine lv_iload_n hx hb dX5_read_107 rfl (lv_at hl 3 rfl) ?_
                  refine lv_imul hx hb dX5_read_108 ?_
                  refine lv_iload hx hb dX5_read_109 (lv_at hl 4 rfl) ?_
                  refine lv_iadd hx hb dX5_read_111 ?_
                  refine r_iast hx hb hK hP hD hS 6 rfl dX5_read_112 h (fun c_order_42 H locs hP hD hS h => ?_)
                  have hP : VP G (sW ap ad la fa ra kc c_greys c_remembered c_columns c_rows c_settings c_reached c_order_42 c_merged c_least_36 c_greatest_37 c_role_38 c_head_40 c_tail_41 c_rank c_kindFrom c_kindTo y_1 (if 0 < ((c_columns - y_1) + 1) then ((c_columns - y_1) + 1) else 0) (if 0 < ((c_rows - y_1) + 1) then ((c_rows - y_1) + 1) else 0) c_count_30 c_flats_39 c_crowded c_kinds c_first c_second c_pairs c_pairsWith c_voted c_ways c_shcount c_numberOfWay c_list c_fcount c_regions c_left c_open c_frows c_fshift c_fdx c_fdy c_fleastPlace c_fpairs c_foffset c_fplacesFirst c_fplaces) H := hP
                  have hD : va_D A (sW ap ad la fa ra kc c_greys c_remembered c_columns c_rows c_settings c_reached c_order_42 c_merged c_least_36 c_greatest_37 c_role_38 c_head_40 c_tail_41 c_rank c_kindFrom c_kindTo y_1 (if 0 < ((c_columns - y_1) + 1) then ((c_columns - y_1) + 1) else 0) (if 0 < ((c_rows - y_1) + 1) then ((c_rows - y_1) + 1) else 0) c_count_30 c_flats_39 c_crowded c_kinds c_first c_second c_pairs c_pairsWith c_voted c_ways c_shcount c_numberOfWay c_list c_fcount c_regions c_left c_open c_frows c_fshift c_fdx c_fdy c_fleastPlace c_fpairs c_foffset c_fplacesFirst c_fplaces) := hD
                  refine lv_aload_n hx hb dX5_read_113 rfl (lv_at hl 0 rfl) ?_
                  refine lv_dup hx hb dX5_read_114 rfl ?_
                  refine r_get S gf_X5_67 hK hP 5 rfl rfl dX5_read_115 ?_
                  refine lv_iconst (v := 1) hx hb dX5_read_118 (by decide) ?_
                  refine lv_iadd hx hb dX5_read_119 ?_
                  refine r_put S pf_X5_67 hK hP hD hS 5 rfl (Nat.le_of_ble_eq_true rfl) dX5_read_120 (fun H locs hP hD hS => ?_)
                  have hP : VP G (sW ap ad la fa ra kc c_greys c_remembered c_columns c_rows c_settings c_reached c_order_42 c_merged c_least_36 c_greatest_37 c_role_38 c_head_40 c_tail_41 c_rank c_kindFrom c_kindTo y_1 (if 0 < ((c_columns - y_1) + 1) then ((c_columns - y_1) + 1) else 0) (if 0 < ((c_rows - y_1) + 1) then ((c_rows - y_1) + 1) else 0) (c_count_30 + 1) c_flats_39 c_crowded c_kinds c_first c_second c_pairs c_pairsWith c_voted c_ways c_shcount c_numberOfWay c_list c_fcount c_regions c_left c_open c_frows c_fshift c_fdx c_fdy c_fleastPlace c_fpairs c_foffset c_fplacesFirst c_fplaces) H := hP
                  have hD : va_D A (sW ap ad la fa ra kc c_greys c_remembered c_columns c_rows c_settings c_reached c_order_42 c_merged c_least_36 c_greatest_37 c_role_38 c_head_40 c_tail_41 c_rank c_kindFrom c_kindTo y_1 (if 0 < ((c_columns - y_1) + 1) then ((c_columns - y_1) + 1) else 0) (if 0 < ((c_rows - y_1) + 1) then ((c_rows - y_1) + 1) else 0) (c_count_30 + 1) c_flats_39 c_crowded c_kinds c_first c_second c_pairs c_pairsWith c_voted c_ways c_shcount c_numberOfWay c_list c_fcount c_regions c_left c_open c_frows c_fshift c_fdx c_fdy c_fleastPlace c_fpairs c_foffset c_fplacesFirst c_fplaces) := hD
                  refine lv_iinc (v := (x4_23 + 1)) (lv' := [(4, .int (x4_23 + 1)), (0, .ref (ad 2)), (1, .ref (ap 0)), (2, .ref (ad 1)), (3, .int x3_2)]) hx hb dX5_read_123 hl (k := 4) rfl rfl (by decide) rfl (fun ls hl => ?_)
                  refine lv_goto (tgt := 68) hx hb dX5_read_126 (by decide) ?_
                  exact ih (x4_23 + 1) c_order_42 c_least_36 c_greatest_37 c_role_38 c_head_40 c_tail_41 (c_count_30 + 1) c_flats_39 _ _ _ hP hD hS (lv_sub hl [1, 2, 3, 4, 0] rfl) h
            exact L_34 FU 0 c_order_3 c_least_4 c_greatest_5 c_role_6 c_head_7 c_tail_8 c_count_9 c_flats_10 _ _ _ hP hD hS (lv_sub hl [1, 2, 3, 4, 0] rfl) h
    exact L_13 FU 0 c_order c_least c_greatest c_role c_head c_tail 0 0 _ _ _ hP hD hS (lv_sub hl [1, 2, 3, 0] rfl) h
set_option maxHeartbeats 1000000 in
set_option maxRecDepth 100000 in
theorem c_X5_numberOf (l : Launch) (G : va_G) (kc : Nat → ClassId) (ap ad la fa ra : Nat → Nat) {c_greys : (Nat → Int32)} {c_remembered : (Nat → Int32)} {c_columns : Int32} {c_rows : Int32} {c_settings : (Nat → Int32)} {c_reached : Int32} {c_order : (Nat → Int32)} {c_merged : (Nat → Int32)} {c_least : (Nat → Int32)} {c_greatest : (Nat → Int32)} {c_role : (Nat → Int32)} {c_head : (Nat → Int64)} {c_tail : (Nat → Int64)} {c_rank : (Nat → Int32)} {c_kindFrom : (Nat → Int32)} {c_kindTo : (Nat → Int32)} {c_side : Int32} {c_across : Int32} {c_down : Int32} {c_count : Int32} {c_flats : Int32} {c_crowded : Int32} {c_kinds : Int32} {c_first : (Nat → Int32)} {c_second : (Nat → Int32)} {c_pairs : Int32} {c_pairsWith : (Nat → Int32)} {c_voted : (Nat → Int32)} {c_ways : (Nat → Int32)} {c_shcount : Int32} {c_numberOfWay : (Nat → Int32)} {c_list : (Nat → Nat)} {c_fcount : Int32} {c_regions : (Nat → Int32)} {c_left : (Nat → Nat → Int32)} {c_open : (Nat → Int32)} {c_frows : (Nat → Nat → Int32)} {c_fshift : (Nat → Int32)} {c_fdx : (Nat → Int32)} {c_fdy : (Nat → Int32)} {c_fleastPlace : (Nat → Int32)} {c_fpairs : (Nat → Int32)} {c_foffset : (Nat → Int32)} {c_fplacesFirst : (Nat → Int32)} {c_fplaces : (Nat → Int32)} (x1 : Int32) (x2 : Int32) {r : Int32} {FU : Nat} (h : f_X5_numberOf FU c_head c_tail c_side x1 x2 = some r) : CTi l G kc yX5_numberOf cX5_numberOf 5 (some .int) (rmq 1 21) [.ref (ad 2), .int x1, .int x2] (sW ap ad la fa ra kc c_greys c_remembered c_columns c_rows c_settings c_reached c_order c_merged c_least c_greatest c_role c_head c_tail c_rank c_kindFrom c_kindTo c_side c_across c_down c_count c_flats c_crowded c_kinds c_first c_second c_pairs c_pairsWith c_voted c_ways c_shcount c_numberOfWay c_list c_fcount c_regions c_left c_open c_frows c_fshift c_fdx c_fdy c_fleastPlace c_fpairs c_foffset c_fplacesFirst c_fplaces) (sW ap ad la fa ra kc c_greys c_remembered c_columns c_rows c_settings c_reached c_order c_merged c_least c_greatest c_role c_head c_tail c_rank c_kindFrom c_kindTo c_side c_across c_down c_count c_flats c_crowded c_kinds c_first c_second c_pairs c_pairsWith c_voted c_ways c_shcount c_numberOfWay c_list c_fcount c_regions c_left c_open c_frows c_fshift c_fdx c_fdy c_fleastPlace c_fpairs c_foffset c_fplacesFirst c_fplaces) r := by
  refine CTi.mk (by decide) (Nat.le_of_ble_eq_true rfl) ?_
  intro p e s m args below meth c A ls Q hQ S hr hlocks hN hA hK hl hP hD hS
  have hx := S.1
  have hb := S.2.1
  have hl : lv_has ls 5 [(0, .ref (ad 2)), (1, .int x1), (2, .int x2)] := hl
  unfold f_X5_numberOf at h
  refine lv_aload_n hx hb dX5_numberOf_0 rfl (lv_at hl 0 rfl) ?_
  refine r_get S gf_X5_50 hK hP 5 rfl rfl dX5_numberOf_1 ?_
  refine lv_aload_n hx hb dX5_numberOf_4 rfl (lv_at hl 0 rfl) ?_
  refine r_get S gf_X5_50 hK hP 5 rfl rfl dX5_numberOf_5 ?_
  refine lv_imul hx hb dX5_numberOf_8 ?_
  refine lv_istore_n (lv' := [(3, .int (c_side * c_side)), (0, .ref (ad 2)), (1, .int x1), (2, .int x2)]) hx hb dX5_numberOf_9 rfl hl (by decide) rfl (fun ls hl => ?_)
  refine lv_iload_n hx hb dX5_numberOf_10 rfl (lv_at hl 3 rfl) ?_
  refine lv_if_lt (tgt := 19) hx hb dX5_numberOf_11 (by decide) (fun q_5 => ?_) (fun q_5 => ?_)
  · have h := it_t q_5 h
    refine lv_bipush (v := (-9)) hx hb dX5_numberOf_19 (by decide) ?_
    cases h
    exact ret_i hx hb hr rfl hQ hlocks hK hP hD hS dX5_numberOf_21
  · have h := it_f q_5 h
    refine lv_iload_n hx hb dX5_numberOf_14 rfl (lv_at hl 3 rfl) ?_
    refine lv_iload_n hx hb dX5_numberOf_15 rfl (lv_at hl 0 rfl) ?_
    refine lv_icmp_lt (tgt := 22) hx hb dX5_numberOf_16 (by decide) (fun q_4 => ?_) (fun q_4 => ?_)
    · have h := it_t q_4 h
      refine lv_iload_n hx hb dX5_numberOf_22 rfl (lv_at hl 3 rfl) ?_
      refine lv_bipush (v := 9) hx hb dX5_numberOf_23 (by decide) ?_
      refine lv_icmp_ge (tgt := 57) hx hb dX5_numberOf_25 (by decide) (fun q_3 => ?_) (fun q_3 => ?_)
      · have h := it_t q_3 h
        refine lv_aload_n hx hb dX5_numberOf_57 rfl (lv_at hl 1 rfl) ?_
        refine r_get S gf_X5_31 hK hP 5 rfl rfl dX5_numberOf_58 ?_
        refine lv_iload_n hx hb dX5_numberOf_61 rfl (lv_at hl 2 rfl) ?_
        refine r_lald hx hb hK hP 12 rfl dX5_numberOf_62 h (fun y_1 h => ?_)
        refine lv_bipush (v := 7) hx hb dX5_numberOf_63 (by decide) ?_
        refine lv_iload_n hx hb dX5_numberOf_65 rfl (lv_at hl 0 rfl) ?_
        refine lv_iconst (v := 1) hx hb dX5_numberOf_66 (by decide) ?_
        refine lv_isub hx hb dX5_numberOf_67 ?_
        refine lv_iload_n hx hb dX5_numberOf_68 rfl (lv_at hl 3 rfl) ?_
        refine lv_isub hx hb dX5_numberOf_69 ?_
        refine lv_imul hx hb dX5_numberOf_70 ?_
        refine lv_lshr hx hb dX5_numberOf_71 rfl ?_
        refine lv_l2i hx hb dX5_numberOf_72 rfl ?_
        refine lv_bipush (v := 127) hx hb dX5_numberOf_73 (by decide) ?_
        refine lv_iand hx hb dX5_numberOf_75 ?_
        cases h
        exact ret_i hx hb hr rfl hQ hlocks hK hP hD hS dX5_numberOf_76
      · have h := it_f q_3 h
        refine lv_iload_n hx hb dX5_numberOf_28 rfl (lv_at hl 0 rfl) ?_
        refine lv_bipush (v := 9) hx hb dX5_numberOf_29 (by decide) ?_
        refine va_mmin hx hb (S.2.2.1.trans hl.1.symm) S.2.2.2.1 (S.2.2.2.2 _ mm_X5_91) (S.2.2.2.2 _ ms_min) (S.2.2.2.2 _ ms_init) (S.2.2.2.2 _ mc_min) (Nat.le_of_ble_eq_true rfl) (Nat.le_of_ble_eq_true rfl) (Nat.zero_le _) (Nat.zero_le _) dX5_numberOf_31 ?_
        refine lv_iconst (v := 1) hx hb dX5_numberOf_34 (by decide) ?_
        refine lv_isub hx hb dX5_numberOf_35 ?_
        refine lv_iload_n hx hb dX5_numberOf_36 rfl (lv_at hl 3 rfl) ?_
        refine lv_isub hx hb dX5_numberOf_37 ?_
        refine lv_istore (lv' := [(4, .int (((if 9 < (c_side * c_side) then 9 else (c_side * c_side)) - 1) - x2)), (3, .int (c_side * c_side)), (0, .ref (ad 2)), (1, .int x1), (2, .int x2)]) hx hb dX5_numberOf_38 hl (by decide) rfl (fun ls hl => ?_)
        refine lv_aload_n hx hb dX5_numberOf_40 rfl (lv_at hl 2 rfl) ?_
        refine r_get S gf_X5_27 hK hP 5 rfl rfl dX5_numberOf_41 ?_
        refine lv_iload_n hx hb dX5_numberOf_44 rfl (lv_at hl 3 rfl) ?_
        refine r_lald hx hb hK hP 11 rfl dX5_numberOf_45 h (fun y_2 h => ?_)
        refine lv_bipush (v := 7) hx hb dX5_numberOf_46 (by decide) ?_
        refine lv_iload hx hb dX5_numberOf_48 (lv_at hl 0 rfl) ?_
        refine lv_imul hx hb dX5_numberOf_50 ?_
        refine lv_lshr hx hb dX5_numberOf_51 rfl ?_
        refine lv_l2i hx hb dX5_numberOf_52 rfl ?_
        refine lv_bipush (v := 127) hx hb dX5_numberOf_53 (by decide) ?_
        refine lv_iand hx hb dX5_numberOf_55 ?_
        cases h
        exact ret_i hx hb hr rfl hQ hlocks hK hP hD hS dX5_numberOf_56
    · have h := it_f q_4 h
      refine lv_bipush (v := (-9)) hx hb dX5_numberOf_19 (by decide) ?_
      cases h
      exact ret_i hx hb hr rfl hQ hlocks hK hP hD hS dX5_numberOf_21
set_option maxHeartbeats 1000000 in
set_option maxRecDepth 100000 in
theorem c_X5_markOf (l : Launch) (G : va_G) (kc : Nat → ClassId) (ap ad la fa ra : Nat → Nat) {c_greys : (Nat → Int32)} {c_remembered : (Nat → Int32)} {c_columns : Int32} {c_rows : Int32} {c_settings : (Nat → Int32)} {c_reached : Int32} {c_order : (Nat → Int32)} {c_merged : (Nat → Int32)} {c_least : (Nat → Int32)} {c_greatest : (Nat → Int32)} {c_role : (Nat → Int32)} {c_head : (Nat → Int64)} {c_tail : (Nat → Int64)} {c_rank : (Nat → Int32)} {c_kindFrom : (Nat → Int32)} {c_kindTo : (Nat → Int32)} {c_side : Int32} {c_across : Int32} {c_down : Int32} {c_count : Int32} {c_flats : Int32} {c_crowded : Int32} {c_kinds : Int32} {c_first : (Nat → Int32)} {c_second : (Nat → Int32)} {c_pairs : Int32} {c_pairsWith : (Nat → Int32)} {c_voted : (Nat → Int32)} {c_ways : (Nat → Int32)} {c_shcount : Int32} {c_numberOfWay : (Nat → Int32)} {c_list : (Nat → Nat)} {c_fcount : Int32} {c_regions : (Nat → Int32)} {c_left : (Nat → Nat → Int32)} {c_open : (Nat → Int32)} {c_frows : (Nat → Nat → Int32)} {c_fshift : (Nat → Int32)} {c_fdx : (Nat → Int32)} {c_fdy : (Nat → Int32)} {c_fleastPlace : (Nat → Int32)} {c_fpairs : (Nat → Int32)} {c_foffset : (Nat → Int32)} {c_fplacesFirst : (Nat → Int32)} {c_fplaces : (Nat → Int32)} (x1 : Int32) {r : Int32} {FU : Nat} (h : f_X5_markOf FU c_head c_tail c_side x1 = some r) : CTi l G kc yX5_markOf cX5_markOf 4 (some .int) (rmq 2 45) [.ref (ad 2), .int x1] (sW ap ad la fa ra kc c_greys c_remembered c_columns c_rows c_settings c_reached c_order c_merged c_least c_greatest c_role c_head c_tail c_rank c_kindFrom c_kindTo c_side c_across c_down c_count c_flats c_crowded c_kinds c_first c_second c_pairs c_pairsWith c_voted c_ways c_shcount c_numberOfWay c_list c_fcount c_regions c_left c_open c_frows c_fshift c_fdx c_fdy c_fleastPlace c_fpairs c_foffset c_fplacesFirst c_fplaces) (sW ap ad la fa ra kc c_greys c_remembered c_columns c_rows c_settings c_reached c_order c_merged c_least c_greatest c_role c_head c_tail c_rank c_kindFrom c_kindTo c_side c_across c_down c_count c_flats c_crowded c_kinds c_first c_second c_pairs c_pairsWith c_voted c_ways c_shcount c_numberOfWay c_list c_fcount c_regions c_left c_open c_frows c_fshift c_fdx c_fdy c_fleastPlace c_fpairs c_foffset c_fplacesFirst c_fplaces) r := by
  refine CTi.mk (by decide) (Nat.le_of_ble_eq_true rfl) ?_
  intro p e s m args below meth c A ls Q hQ S hr hlocks hN hA hK hl hP hD hS
  have hx := S.1
  have hb := S.2.1
  have hl : lv_has ls 4 [(0, .ref (ad 2)), (1, .int x1)] := hl
  unfold f_X5_markOf at h
  refine lv_iconst (v := 1) hx hb dX5_markOf_0 (by decide) ?_
  refine lv_istore_n (lv' := [(2, .int 1), (0, .ref (ad 2)), (1, .int x1)]) hx hb dX5_markOf_1 rfl hl (by decide) rfl (fun ls hl => ?_)
  refine lv_iconst (v := 0) hx hb dX5_markOf_2 (by decide) ?_
  refine lv_istore_n (lv' := [(3, .int 0), (2, .int 1), (0, .ref (ad 2)), (1, .int x1)]) hx hb dX5_markOf_3 rfl hl (by decide) rfl (fun ls hl => ?_)
  refine jn_w (t := fun k => f_X5_markOf_L4 FU x1 c_head c_tail c_side k FU 1 0) (fun (k : Int32 → Int32 → Option (Int32)) => ∀ (x2_1 : Int32) (x3_2 : Int32) (H : Heap) (locs : List Loc) (ls : Array Slot), VP G (sW ap ad la fa ra kc c_greys c_remembered c_columns c_rows c_settings c_reached c_order c_merged c_least c_greatest c_role c_head c_tail c_rank c_kindFrom c_kindTo c_side c_across c_down c_count c_flats c_crowded c_kinds c_first c_second c_pairs c_pairsWith c_voted c_ways c_shcount c_numberOfWay c_list c_fcount c_regions c_left c_open c_frows c_fshift c_fdx c_fdy c_fleastPlace c_fpairs c_foffset c_fplacesFirst c_fplaces) H → va_D A (sW ap ad la fa ra kc c_greys c_remembered c_columns c_rows c_settings c_reached c_order c_merged c_least c_greatest c_role c_head c_tail c_rank c_kindFrom c_kindTo c_side c_across c_down c_count c_flats c_crowded c_kinds c_first c_second c_pairs c_pairsWith c_voted c_ways c_shcount c_numberOfWay c_list c_fcount c_regions c_left c_open c_frows c_fshift c_fdx c_fdy c_fleastPlace c_fpairs c_foffset c_fplacesFirst c_fplaces) → va_S A s.heap H locs → lv_has ls 4 [(2, .int x2_1)] → k x2_1 x3_2 = some r → WW p l e (rmq 2 45) s m args below meth c Q H locs 35 ls []) h ?_ ?_
  · intro x2_1 x3_2 H locs ls hP hD hS hl h
    refine lv_iload_n hx hb dX5_markOf_35 rfl (lv_at hl 0 rfl) ?_
    cases h
    exact ret_i hx hb hr rfl hQ hlocks hK hP hD hS dX5_markOf_36
  · intro k_3 K_4 h
    have L_5 : ∀ (n : Nat) (x2_1 : Int32) (x3_2 : Int32) (H : Heap) (locs : List Loc) (ls : Array Slot), VP G (sW ap ad la fa ra kc c_greys c_remembered c_columns c_rows c_settings c_reached c_order c_merged c_least c_greatest c_role c_head c_tail c_rank c_kindFrom c_kindTo c_side c_across c_down c_count c_flats c_crowded c_kinds c_first c_second c_pairs c_pairsWith c_voted c_ways c_shcount c_numberOfWay c_list c_fcount c_regions c_left c_open c_frows c_fshift c_fdx c_fdy c_fleastPlace c_fpairs c_foffset c_fplacesFirst c_fplaces) H → va_D A (sW ap ad la fa ra kc c_greys c_remembered c_columns c_rows c_settings c_reached c_order c_merged c_least c_greatest c_role c_head c_tail c_rank c_kindFrom c_kindTo c_side c_across c_down c_count c_flats c_crowded c_kinds c_first c_second c_pairs c_pairsWith c_voted c_ways c_shcount c_numberOfWay c_list c_fcount c_regions c_left c_open c_frows c_fshift c_fdx c_fdy c_fleastPlace c_fpairs c_foffset c_fplacesFirst c_fplaces) → va_S A s.heap H locs → lv_has ls 4 [(0, .ref (ad 2)), (1, .int x1), (2, .int x2_1), (3, .int x3_2)] → f_X5_markOf_L4 FU x1 c_head c_tail c_side k_3 n x2_1 x3_2 = some r → WW p l e (rmq 2 45) s m args below meth c Q H locs 4 ls [] := by
      intro n
      induction n with
      | zero => intro x2_1 x3_2 H locs ls hP hD hS hl h; rw [f_X5_markOf_L4] at h; cases h
      | succ n ih =>
        intro x2_1 x3_2 H locs ls hP hD hS hl h
        rw [f_X5_markOf_L4] at h
        refine lv_iload_n hx hb dX5_markOf_4 rfl (lv_at hl 3 rfl) ?_
        refine lv_aload_n hx hb dX5_markOf_5 rfl (lv_at hl 0 rfl) ?_
        refine r_get S gf_X5_50 hK hP 5 rfl rfl dX5_markOf_6 ?_
        refine lv_aload_n hx hb dX5_markOf_9 rfl (lv_at hl 0 rfl) ?_
        refine r_get S gf_X5_50 hK hP 5 rfl rfl dX5_markOf_10 ?_
        refine lv_imul hx hb dX5_markOf_13 ?_
        refine lv_icmp_ge (tgt := 35) hx hb dX5_markOf_14 (by decide) (fun q_7 => ?_) (fun q_7 => ?_)
        · have h := it_t q_7 h
          exact K_4 x2_1 x3_2 _ _ _ hP hD hS (lv_sub hl [2] rfl) h
        · have h := it_f q_7 h
          refine lv_bipush (v := 31) hx hb dX5_markOf_17 (by decide) ?_
          refine lv_iload_n hx hb dX5_markOf_19 rfl (lv_at hl 2 rfl) ?_
          refine lv_imul hx hb dX5_markOf_20 ?_
          refine lv_aload_n hx hb dX5_markOf_21 rfl (lv_at hl 0 rfl) ?_
          refine lv_iload_n hx hb dX5_markOf_22 rfl (lv_at hl 1 rfl) ?_
          refine lv_iload_n hx hb dX5_markOf_23 rfl (lv_at hl 3 rfl) ?_
          obtain ⟨r_6, hq, h⟩ := bd1_e h
          refine cs_Vi (rest := [.int (31 * x2_1)]) (ci := 4) S hN cb_X5_numberOf ml_X5_94 ⟨Nat.le_of_ble_eq_true rfl, Nat.le_of_ble_eq_true rfl⟩ (c_X5_numberOf l G kc ap ad la fa ra x1 x3_2  hq) hK hP hD hS hA 5 rfl rfl rfl rfl rfl (Nat.le_of_ble_eq_true rfl) hl.1 dX5_markOf_24 (fun H locs hP hD hS => ?_)
          refine lv_iadd hx hb dX5_markOf_27 ?_
          refine lv_istore_n (lv' := [(2, .int ((31 * x2_1) + r_6)), (0, .ref (ad 2)), (1, .int x1), (3, .int x3_2)]) hx hb dX5_markOf_28 rfl hl (by decide) rfl (fun ls hl => ?_)
          refine lv_iinc (v := (x3_2 + 1)) (lv' := [(3, .int (x3_2 + 1)), (2, .int ((31 * x2_1) + r_6)), (0, .ref (ad 2)), (1, .int x1)]) hx hb dX5_markOf_29 hl (k := 3) rfl rfl (by decide) rfl (fun ls hl => ?_)
          refine lv_goto (tgt := 4) hx hb dX5_markOf_32 (by decide) ?_
          exact ih ((31 * x2_1) + r_6) (x3_2 + 1) _ _ _ hP hD hS (lv_sub hl [2, 3, 1, 0] rfl) h
    exact L_5 FU 1 0 _ _ _ hP hD hS (lv_sub hl [2, 3, 1, 0] rfl) h
set_option maxHeartbeats 1000000 in
set_option maxRecDepth 100000 in
theorem c_X6_forget (l : Launch) (G : va_G) (kc : Nat → ClassId) (ap ad la fa ra : Nat → Nat) {c_greys : (Nat → Int32)} {c_remembered : (Nat → Int32)} {c_columns : Int32} {c_rows : Int32} {c_settings : (Nat → Int32)} {c_reached : Int32} {c_order : (Nat → Int32)} {c_merged : (Nat → Int32)} {c_least : (Nat → Int32)} {c_greatest : (Nat → Int32)} {c_role : (Nat → Int32)} {c_head : (Nat → Int64)} {c_tail : (Nat → Int64)} {c_rank : (Nat → Int32)} {c_kindFrom : (Nat → Int32)} {c_kindTo : (Nat → Int32)} {c_side : Int32} {c_across : Int32} {c_down : Int32} {c_count : Int32} {c_flats : Int32} {c_crowded : Int32} {c_kinds : Int32} {c_first : (Nat → Int32)} {c_second : (Nat → Int32)} {c_pairs : Int32} {c_pairsWith : (Nat → Int32)} {c_voted : (Nat → Int32)} {c_ways : (Nat → Int32)} {c_shcount : Int32} {c_numberOfWay : (Nat → Int32)} {c_list : (Nat → Nat)} {c_fcount : Int32} {c_regions : (Nat → Int32)} {c_left : (Nat → Nat → Int32)} {c_open : (Nat → Int32)} {c_frows : (Nat → Nat → Int32)} {c_fshift : (Nat → Int32)} {c_fdx : (Nat → Int32)} {c_fdy : (Nat → Int32)} {c_fleastPlace : (Nat → Int32)} {c_fpairs : (Nat → Int32)} {c_foffset : (Nat → Int32)} {c_fplacesFirst : (Nat → Int32)} {c_fplaces : (Nat → Int32)}  {c_reached' : Int32} {FU : Nat} (h : f_X6_forget FU c_reached = some c_reached') : CTv l G kc yX6_forget cX6_forget 1 none (rmq 0 0) [.ref (ad 0)] (sW ap ad la fa ra kc c_greys c_remembered c_columns c_rows c_settings c_reached c_order c_merged c_least c_greatest c_role c_head c_tail c_rank c_kindFrom c_kindTo c_side c_across c_down c_count c_flats c_crowded c_kinds c_first c_second c_pairs c_pairsWith c_voted c_ways c_shcount c_numberOfWay c_list c_fcount c_regions c_left c_open c_frows c_fshift c_fdx c_fdy c_fleastPlace c_fpairs c_foffset c_fplacesFirst c_fplaces) (sW ap ad la fa ra kc c_greys c_remembered c_columns c_rows c_settings (c_reached') c_order c_merged c_least c_greatest c_role c_head c_tail c_rank c_kindFrom c_kindTo c_side c_across c_down c_count c_flats c_crowded c_kinds c_first c_second c_pairs c_pairsWith c_voted c_ways c_shcount c_numberOfWay c_list c_fcount c_regions c_left c_open c_frows c_fshift c_fdx c_fdy c_fleastPlace c_fpairs c_foffset c_fplacesFirst c_fplaces) := by
  refine CTv.mk (by decide) (Nat.le_of_ble_eq_true rfl) ?_
  intro p e s m args below meth c A ls Q hQ S hr hlocks hN hA hK hl hP hD hS
  have hx := S.1
  have hb := S.2.1
  have hl : lv_has ls 1 [(0, .ref (ad 0))] := hl
  unfold f_X6_forget at h
  refine lv_aload_n hx hb dX6_forget_0 rfl (lv_at hl 0 rfl) ?_
  refine lv_iconst (v := 0) hx hb dX6_forget_1 (by decide) ?_
  refine r_put S pf_X6_43 hK hP hD hS 3 rfl (Nat.le_of_ble_eq_true rfl) dX6_forget_2 (fun H locs hP hD hS => ?_)
  have hP : VP G (sW ap ad la fa ra kc c_greys c_remembered c_columns c_rows c_settings 0 c_order c_merged c_least c_greatest c_role c_head c_tail c_rank c_kindFrom c_kindTo c_side c_across c_down c_count c_flats c_crowded c_kinds c_first c_second c_pairs c_pairsWith c_voted c_ways c_shcount c_numberOfWay c_list c_fcount c_regions c_left c_open c_frows c_fshift c_fdx c_fdy c_fleastPlace c_fpairs c_foffset c_fplacesFirst c_fplaces) H := hP
  have hD : va_D A (sW ap ad la fa ra kc c_greys c_remembered c_columns c_rows c_settings 0 c_order c_merged c_least c_greatest c_role c_head c_tail c_rank c_kindFrom c_kindTo c_side c_across c_down c_count c_flats c_crowded c_kinds c_first c_second c_pairs c_pairsWith c_voted c_ways c_shcount c_numberOfWay c_list c_fcount c_regions c_left c_open c_frows c_fshift c_fdx c_fdy c_fleastPlace c_fpairs c_foffset c_fplacesFirst c_fplaces) := hD
  cases h
  exact ret_v hx hb hr hQ hlocks hK hP hD hS dX6_forget_5
set_option maxHeartbeats 1000000 in
set_option maxRecDepth 100000 in
theorem c_X6_reach (l : Launch) (G : va_G) (kc : Nat → ClassId) (ap ad la fa ra : Nat → Nat) {c_greys : (Nat → Int32)} {c_remembered : (Nat → Int32)} {c_columns : Int32} {c_rows : Int32} {c_settings : (Nat → Int32)} {c_reached : Int32} {c_order : (Nat → Int32)} {c_merged : (Nat → Int32)} {c_least : (Nat → Int32)} {c_greatest : (Nat → Int32)} {c_role : (Nat → Int32)} {c_head : (Nat → Int64)} {c_tail : (Nat → Int64)} {c_rank : (Nat → Int32)} {c_kindFrom : (Nat → Int32)} {c_kindTo : (Nat → Int32)} {c_side : Int32} {c_across : Int32} {c_down : Int32} {c_count : Int32} {c_flats : Int32} {c_crowded : Int32} {c_kinds : Int32} {c_first : (Nat → Int32)} {c_second : (Nat → Int32)} {c_pairs : Int32} {c_pairsWith : (Nat → Int32)} {c_voted : (Nat → Int32)} {c_ways : (Nat → Int32)} {c_shcount : Int32} {c_numberOfWay : (Nat → Int32)} {c_list : (Nat → Nat)} {c_fcount : Int32} {c_regions : (Nat → Int32)} {c_left : (Nat → Nat → Int32)} {c_open : (Nat → Int32)} {c_frows : (Nat → Nat → Int32)} {c_fshift : (Nat → Int32)} {c_fdx : (Nat → Int32)} {c_fdy : (Nat → Int32)} {c_fleastPlace : (Nat → Int32)} {c_fpairs : (Nat → Int32)} {c_foffset : (Nat → Int32)} {c_fplacesFirst : (Nat → Int32)} {c_fplaces : (Nat → Int32)} (x1 : Int32) {c_reached' : Int32} {c_order' : (Nat → Int32)} {c_merged' : (Nat → Int32)} {c_least' : (Nat → Int32)} {c_greatest' : (Nat → Int32)} {c_role' : (Nat → Int32)} {c_head' : (Nat → Int64)} {c_tail' : (Nat → Int64)} {c_rank' : (Nat → Int32)} {c_kindFrom' : (Nat → Int32)} {c_kindTo' : (Nat → Int32)} {c_side' : Int32} {c_across' : Int32} {c_down' : Int32} {c_count' : Int32} {c_flats' : Int32} {c_crowded' : Int32} {c_kinds' : Int32} {c_first' : (Nat → Int32)} {c_second' : (Nat → Int32)} {c_pairs' : Int32} {c_pairsWith' : (Nat → Int32)} {c_voted' : (Nat → Int32)} {c_ways' : (Nat → Int32)} {c_shcount' : Int32} {c_numberOfWay' : (Nat → Int32)} {c_list' : (Nat → Nat)} {c_fcount' : Int32} {c_regions' : (Nat → Int32)} {c_left' : (Nat → Nat → Int32)} {c_open' : (Nat → Int32)} {c_frows' : (Nat → Nat → Int32)} {c_fshift' : (Nat → Int32)} {c_fdx' : (Nat → Int32)} {c_fdy' : (Nat → Int32)} {c_fleastPlace' : (Nat → Int32)} {c_fpairs' : (Nat → Int32)} {c_foffset' : (Nat → Int32)} {c_fplacesFirst' : (Nat → Int32)} {c_fplaces' : (Nat → Int32)} {FU : Nat} (h : f_X6_reach FU c_greys c_columns c_rows c_settings c_reached c_order c_merged c_least c_greatest c_role c_head c_tail c_rank c_kindFrom c_kindTo c_side c_across c_down c_count c_flats c_crowded c_kinds c_first c_second c_pairs c_pairsWith c_voted c_ways c_shcount c_numberOfWay c_list c_fcount c_regions c_left c_open c_frows c_fshift c_fdx c_fdy c_fleastPlace c_fpairs c_foffset c_fplacesFirst c_fplaces x1 = some (c_reached', c_order', c_merged', c_least', c_greatest', c_role', c_head', c_tail', c_rank', c_kindFrom', c_kindTo', c_side', c_across', c_down', c_count', c_flats', c_crowded', c_kinds', c_first', c_second', c_pairs', c_pairsWith', c_voted', c_ways', c_shcount', c_numberOfWay', c_list', c_fcount', c_regions', c_left', c_open', c_frows', c_fshift', c_fdx', c_fdy', c_fleastPlace', c_fpairs', c_foffset', c_fplacesFirst', c_fplaces')) : CTv l G kc yX6_reach cX6_reach 2 none (rmq 5 121) [.ref (ad 0), .int x1] (sW ap ad la fa ra kc c_greys c_remembered c_columns c_rows c_settings c_reached c_order c_merged c_least c_greatest c_role c_head c_tail c_rank c_kindFrom c_kindTo c_side c_across c_down c_count c_flats c_crowded c_kinds c_first c_second c_pairs c_pairsWith c_voted c_ways c_shcount c_numberOfWay c_list c_fcount c_regions c_left c_open c_frows c_fshift c_fdx c_fdy c_fleastPlace c_fpairs c_foffset c_fplacesFirst c_fplaces) (sW ap ad la fa ra kc c_greys c_remembered c_columns c_rows c_settings (c_reached') (c_order') (c_merged') (c_least') (c_greatest') (c_role') (c_head') (c_tail') (c_rank') (c_kindFrom') (c_kindTo') (c_side') (c_across') (c_down') (c_count') (c_flats') (c_crowded') (c_kinds') (c_first') (c_second') (c_pairs') (c_pairsWith') (c_voted') (c_ways') (c_shcount') (c_numberOfWay') (c_list') (c_fcount') (c_regions') (c_left') (c_open') (c_frows') (c_fshift') (c_fdx') (c_fdy') (c_fleastPlace') (c_fpairs') (c_foffset') (c_fplacesFirst') (c_fplaces')) := by
  refine CTv.mk (by decide) (Nat.le_of_ble_eq_true rfl) ?_
  intro p e s m args below meth c A ls Q hQ S hr hlocks hN hA hK hl hP hD hS
  have hx := S.1
  have hb := S.2.1
  have hl : lv_has ls 2 [(0, .ref (ad 0)), (1, .int x1)] := hl
  unfold f_X6_reach at h
  refine lv_aload_n hx hb dX6_reach_0 rfl (lv_at hl 0 rfl) ?_
  refine r_get S gf_X6_43 hK hP 3 rfl rfl dX6_reach_1 ?_
  refine lv_iconst (v := 1) hx hb dX6_reach_4 (by decide) ?_
  refine jn_w (fun (k : Int32 → (Nat → Int32) → (Nat → Int32) → (Nat → Int32) → (Nat → Int32) → (Nat → Int32) → (Nat → Int64) → (Nat → Int64) → (Nat → Int32) → (Nat → Int32) → (Nat → Int32) → Int32 → Int32 → Int32 → Int32 → Int32 → Int32 → Int32 → Option (Int32 × (Nat → Int32) × (Nat → Int32) × (Nat → Int32) × (Nat → Int32) × (Nat → Int32) × (Nat → Int64) × (Nat → Int64) × (Nat → Int32) × (Nat → Int32) × (Nat → Int32) × Int32 × Int32 × Int32 × Int32 × Int32 × Int32 × Int32 × (Nat → Int32) × (Nat → Int32) × Int32 × (Nat → Int32) × (Nat → Int32) × (Nat → Int32) × Int32 × (Nat → Int32) × (Nat → Nat) × Int32 × (Nat → Int32) × (Nat → Nat → Int32) × (Nat → Int32) × (Nat → Nat → Int32) × (Nat → Int32) × (Nat → Int32) × (Nat → Int32) × (Nat → Int32) × (Nat → Int32) × (Nat → Int32) × (Nat → Int32) × (Nat → Int32))) => ∀ (c_reached_1 : Int32) (c_order_2 : (Nat → Int32)) (c_merged_3 : (Nat → Int32)) (c_least_4 : (Nat → Int32)) (c_greatest_5 : (Nat → Int32)) (c_role_6 : (Nat → Int32)) (c_head_7 : (Nat → Int64)) (c_tail_8 : (Nat → Int64)) (c_rank_9 : (Nat → Int32)) (c_kindFrom_10 : (Nat → Int32)) (c_kindTo_11 : (Nat → Int32)) (c_side_12 : Int32) (c_across_13 : Int32) (c_down_14 : Int32) (c_count_15 : Int32) (c_flats_16 : Int32) (c_crowded_17 : Int32) (c_kinds_18 : Int32) (H : Heap) (locs : List Loc) (ls : Array Slot), VP G (sW ap ad la fa ra kc c_greys c_remembered c_columns c_rows c_settings c_reached_1 c_order_2 c_merged_3 c_least_4 c_greatest_5 c_role_6 c_head_7 c_tail_8 c_rank_9 c_kindFrom_10 c_kindTo_11 c_side_12 c_across_13 c_down_14 c_count_15 c_flats_16 c_crowded_17 c_kinds_18 c_first c_second c_pairs c_pairsWith c_voted c_ways c_shcount c_numberOfWay c_list c_fcount c_regions c_left c_open c_frows c_fshift c_fdx c_fdy c_fleastPlace c_fpairs c_foffset c_fplacesFirst c_fplaces) H → va_D A (sW ap ad la fa ra kc c_greys c_remembered c_columns c_rows c_settings c_reached_1 c_order_2 c_merged_3 c_least_4 c_greatest_5 c_role_6 c_head_7 c_tail_8 c_rank_9 c_kindFrom_10 c_kindTo_11 c_side_12 c_across_13 c_down_14 c_count_15 c_flats_16 c_crowded_17 c_kinds_18 c_first c_second c_pairs c_pairsWith c_voted c_ways c_shcount c_numberOfWay c_list c_fcount c_regions c_left c_open c_frows c_fshift c_fdx c_fdy c_fleastPlace c_fpairs c_foffset c_fplacesFirst c_fplaces) → va_S A s.heap H locs → lv_has ls 2 [(0, .ref (ad 0)), (1, .int x1)] → k c_reached_1 c_order_2 c_merged_3 c_least_4 c_greatest_5 c_role_6 c_head_7 c_tail_8 c_rank_9 c_kindFrom_10 c_kindTo_11 c_side_12 c_across_13 c_down_14 c_count_15 c_flats_16 c_crowded_17 c_kinds_18 = some (c_reached', c_order', c_merged', c_least', c_greatest', c_role', c_head', c_tail', c_rank', c_kindFrom', c_kindTo', c_side', c_across', c_down', c_count', c_flats', c_crowded', c_kinds', c_first', c_second', c_pairs', c_pairsWith', c_voted', c_ways', c_shcount', c_numberOfWay', c_list', c_fcount', c_regions', c_left', c_open', c_frows', c_fshift', c_fdx', c_fdy', c_fleastPlace', c_fpairs', c_foffset', c_fplacesFirst', c_fplaces') → WW p l e (rmq 5 121) s m args below meth c Q H locs 33 ls []) h ?_ ?_
  · intro c_reached_1 c_order_2 c_merged_3 c_least_4 c_greatest_5 c_role_6 c_head_7 c_tail_8 c_rank_9 c_kindFrom_10 c_kindTo_11 c_side_12 c_across_13 c_down_14 c_count_15 c_flats_16 c_crowded_17 c_kinds_18 H locs ls hP hD hS hl h
    refine lv_aload_n hx hb dX6_reach_33 rfl (lv_at hl 0 rfl) ?_
    refine r_get S gf_X6_43 hK hP 3 rfl rfl dX6_reach_34 ?_
    refine lv_iconst (v := 2) hx hb dX6_reach_37 (by decide) ?_
    refine jn_w (fun (k : Int32 → (Nat → Int32) → (Nat → Int32) → Int32 → (Nat → Int32) → (Nat → Int32) → (Nat → Int32) → Int32 → (Nat → Int32) → Option (Int32 × (Nat → Int32) × (Nat → Int32) × (Nat → Int32) × (Nat → Int32) × (Nat → Int32) × (Nat → Int64) × (Nat → Int64) × (Nat → Int32) × (Nat → Int32) × (Nat → Int32) × Int32 × Int32 × Int32 × Int32 × Int32 × Int32 × Int32 × (Nat → Int32) × (Nat → Int32) × Int32 × (Nat → Int32) × (Nat → Int32) × (Nat → Int32) × Int32 × (Nat → Int32) × (Nat → Nat) × Int32 × (Nat → Int32) × (Nat → Nat → Int32) × (Nat → Int32) × (Nat → Nat → Int32) × (Nat → Int32) × (Nat → Int32) × (Nat → Int32) × (Nat → Int32) × (Nat → Int32) × (Nat → Int32) × (Nat → Int32) × (Nat → Int32))) => ∀ (c_reached_21 : Int32) (c_first_22 : (Nat → Int32)) (c_second_23 : (Nat → Int32)) (c_pairs_24 : Int32) (c_pairsWith_25 : (Nat → Int32)) (c_voted_26 : (Nat → Int32)) (c_ways_27 : (Nat → Int32)) (c_shcount_28 : Int32) (c_numberOfWay_29 : (Nat → Int32)) (H : Heap) (locs : List Loc) (ls : Array Slot), VP G (sW ap ad la fa ra kc c_greys c_remembered c_columns c_rows c_settings c_reached_21 c_order_2 c_merged_3 c_least_4 c_greatest_5 c_role_6 c_head_7 c_tail_8 c_rank_9 c_kindFrom_10 c_kindTo_11 c_side_12 c_across_13 c_down_14 c_count_15 c_flats_16 c_crowded_17 c_kinds_18 c_first_22 c_second_23 c_pairs_24 c_pairsWith_25 c_voted_26 c_ways_27 c_shcount_28 c_numberOfWay_29 c_list c_fcount c_regions c_left c_open c_frows c_fshift c_fdx c_fdy c_fleastPlace c_fpairs c_foffset c_fplacesFirst c_fplaces) H → va_D A (sW ap ad la fa ra kc c_greys c_remembered c_columns c_rows c_settings c_reached_21 c_order_2 c_merged_3 c_least_4 c_greatest_5 c_role_6 c_head_7 c_tail_8 c_rank_9 c_kindFrom_10 c_kindTo_11 c_side_12 c_across_13 c_down_14 c_count_15 c_flats_16 c_crowded_17 c_kinds_18 c_first_22 c_second_23 c_pairs_24 c_pairsWith_25 c_voted_26 c_ways_27 c_shcount_28 c_numberOfWay_29 c_list c_fcount c_regions c_left c_open c_frows c_fshift c_fdx c_fdy c_fleastPlace c_fpairs c_foffset c_fplacesFirst c_fplaces) → va_S A s.heap H locs → lv_has ls 2 [(0, .ref (ad 0)), (1, .int x1)] → k c_reached_21 c_first_22 c_second_23 c_pairs_24 c_pairsWith_25 c_voted_26 c_ways_27 c_shcount_28 c_numberOfWay_29 = some (c_reached', c_order', c_merged', c_least', c_greatest', c_role', c_head', c_tail', c_rank', c_kindFrom', c_kindTo', c_side', c_across', c_down', c_count', c_flats', c_crowded', c_kinds', c_first', c_second', c_pairs', c_pairsWith', c_voted', c_ways', c_shcount', c_numberOfWay', c_list', c_fcount', c_regions', c_left', c_open', c_frows', c_fshift', c_fdx', c_fdy', c_fleastPlace', c_fpairs', c_foffset', c_fplacesFirst', c_fplaces') → WW p l e (rmq 5 121) s m args below meth c Q H locs 66 ls []) h ?_ ?_
    · intro c_reached_21 c_first_22 c_second_23 c_pairs_24 c_pairsWith_25 c_voted_26 c_ways_27 c_shcount_28 c_numberOfWay_29 H locs ls hP hD hS hl h
      refine lv_aload_n hx hb dX6_reach_66 rfl (lv_at hl 0 rfl) ?_
      refine r_get S gf_X6_43 hK hP 3 rfl rfl dX6_reach_67 ?_
      refine lv_iconst (v := 3) hx hb dX6_reach_70 (by decide) ?_
      refine lv_icmp_ge (tgt := 114) hx hb dX6_reach_71 (by decide) (fun q_49 => ?_) (fun q_49 => ?_)
      · have h := it_t q_49 h
        cases h
        exact ret_v hx hb hr hQ hlocks hK hP hD hS dX6_reach_114
      · have h := it_f q_49 h
        refine lv_iload_n hx hb dX6_reach_74 rfl (lv_at hl 1 rfl) ?_
        refine lv_iconst (v := 3) hx hb dX6_reach_75 (by decide) ?_
        refine lv_icmp_lt (tgt := 114) hx hb dX6_reach_76 (by decide) (fun q_48 => ?_) (fun q_48 => ?_)
        · have h := it_t q_48 h
          cases h
          exact ret_v hx hb hr hQ hlocks hK hP hD hS dX6_reach_114
        · have h := it_f q_48 h
          refine lv_aload_n hx hb dX6_reach_79 rfl (lv_at hl 0 rfl) ?_
          refine r_get S gf_X6_32 hK hP 3 rfl rfl dX6_reach_80 ?_
          refine lv_aload_n hx hb dX6_reach_83 rfl (lv_at hl 0 rfl) ?_
          refine r_get S gf_X6_25 hK hP 3 rfl rfl dX6_reach_84 ?_
          obtain ⟨c_list_32, c_fcount_33, c_regions_34, c_left_35, c_frows_36, c_fshift_37, c_fdx_38, c_fdy_39, c_fleastPlace_40, c_fpairs_41, hq, h⟩ := bd10_e h
          refine cs_Vv (rest := []) (ci := 1) S hN cb_X1_gather ml_X6_55 ⟨Nat.le_of_ble_eq_true rfl, Nat.le_of_ble_eq_true rfl⟩ (c_X1_gather l G kc ap ad la fa ra   hq) hK hP hD hS hA 23 rfl rfl rfl rfl rfl (Nat.le_of_ble_eq_true rfl) hl.1 dX6_reach_87 (fun H locs hP hD hS => ?_)
          refine lv_aload_n hx hb dX6_reach_90 rfl (lv_at hl 0 rfl) ?_
          refine r_get S gf_X6_32 hK hP 3 rfl rfl dX6_reach_91 ?_
          refine lv_aload_n hx hb dX6_reach_94 rfl (lv_at hl 0 rfl) ?_
          refine r_get S gf_X6_36 hK hP 3 rfl rfl dX6_reach_95 ?_
          refine lv_aload_n hx hb dX6_reach_98 rfl (lv_at hl 0 rfl) ?_
          refine r_get S gf_X6_18 hK hP 3 rfl rfl dX6_reach_99 ?_
          refine lv_aload_n hx hb dX6_reach_102 rfl (lv_at hl 0 rfl) ?_
          refine r_get S gf_X6_9 hK hP 3 rfl rfl dX6_reach_103 ?_
          obtain ⟨c_list_42, c_open_43, c_frows_44, c_foffset_45, c_fplacesFirst_46, c_fplaces_47, hq, h⟩ := bd6_e h
          refine cs_Vv (rest := []) (ci := 1) S hN cb_X1_grow ml_X6_58 ⟨Nat.le_of_ble_eq_true rfl, Nat.le_of_ble_eq_true rfl⟩ (c_X1_grow l G kc ap ad la fa ra   hq) hK hP hD hS hA 23 rfl rfl rfl rfl rfl (Nat.le_of_ble_eq_true rfl) hl.1 dX6_reach_106 (fun H locs hP hD hS => ?_)
          refine lv_aload_n hx hb dX6_reach_109 rfl (lv_at hl 0 rfl) ?_
          refine lv_iconst (v := 3) hx hb dX6_reach_110 (by decide) ?_
          refine r_put S pf_X6_43 hK hP hD hS 3 rfl (Nat.le_of_ble_eq_true rfl) dX6_reach_111 (fun H locs hP hD hS => ?_)
          have hP : VP G (sW ap ad la fa ra kc c_greys c_remembered c_columns c_rows c_settings 3 c_order_2 c_merged_3 c_least_4 c_greatest_5 c_role_6 c_head_7 c_tail_8 c_rank_9 c_kindFrom_10 c_kindTo_11 c_side_12 c_across_13 c_down_14 c_count_15 c_flats_16 c_crowded_17 c_kinds_18 c_first_22 c_second_23 c_pairs_24 c_pairsWith_25 c_voted_26 c_ways_27 c_shcount_28 c_numberOfWay_29 c_list_42 c_fcount_33 c_regions_34 c_left_35 c_open_43 c_frows_44 c_fshift_37 c_fdx_38 c_fdy_39 c_fleastPlace_40 c_fpairs_41 c_foffset_45 c_fplacesFirst_46 c_fplaces_47) H := hP
          have hD : va_D A (sW ap ad la fa ra kc c_greys c_remembered c_columns c_rows c_settings 3 c_order_2 c_merged_3 c_least_4 c_greatest_5 c_role_6 c_head_7 c_tail_8 c_rank_9 c_kindFrom_10 c_kindTo_11 c_side_12 c_across_13 c_down_14 c_count_15 c_flats_16 c_crowded_17 c_kinds_18 c_first_22 c_second_23 c_pairs_24 c_pairsWith_25 c_voted_26 c_ways_27 c_shcount_28 c_numberOfWay_29 c_list_42 c_fcount_33 c_regions_34 c_left_35 c_open_43 c_frows_44 c_fshift_37 c_fdx_38 c_fdy_39 c_fleastPlace_40 c_fpairs_41 c_foffset_45 c_fplacesFirst_46 c_fplaces_47) := hD
          cases h
          exact ret_v hx hb hr hQ hlocks hK hP hD hS dX6_reach_114
    · intro j_30 J_31 h
      refine lv_icmp_ge (tgt := 66) hx hb dX6_reach_38 (by decide) (fun q_59 => ?_) (fun q_59 => ?_)
      · have h := it_t q_59 h
        exact J_31 c_reached_1 c_first c_second c_pairs c_pairsWith c_voted c_ways c_shcount c_numberOfWay _ _ _ hP hD hS (lv_sub hl [0, 1] rfl) h
      · have h := it_f q_59 h
        refine lv_iload_n hx hb dX6_reach_41 rfl (lv_at hl 1 rfl) ?_
        refine lv_iconst (v := 2) hx hb dX6_reach_42 (by decide) ?_
        refine lv_icmp_lt (tgt := 66) hx hb dX6_reach_43 (by decide) (fun q_58 => ?_) (fun q_58 => ?_)
        · have h := it_t q_58 h
          exact J_31 c_reached_1 c_first c_second c_pairs c_pairsWith c_voted c_ways c_shcount c_numberOfWay _ _ _ hP hD hS (lv_sub hl [0, 1] rfl) h
        · have h := it_f q_58 h
          refine lv_aload_n hx hb dX6_reach_46 rfl (lv_at hl 0 rfl) ?_
          refine r_get S gf_X6_25 hK hP 3 rfl rfl dX6_reach_47 ?_
          refine lv_aload_n hx hb dX6_reach_50 rfl (lv_at hl 0 rfl) ?_
          refine r_get S gf_X6_18 hK hP 3 rfl rfl dX6_reach_51 ?_
          refine lv_aload_n hx hb dX6_reach_54 rfl (lv_at hl 0 rfl) ?_
          refine r_get S gf_X6_9 hK hP 3 rfl rfl dX6_reach_55 ?_
          obtain ⟨c_first_50, c_second_51, c_pairs_52, c_pairsWith_53, c_voted_54, c_ways_55, c_shcount_56, c_numberOfWay_57, hq, h⟩ := bd8_e h
          refine cs_Vv (rest := []) (ci := 3) S hN cb_X4_gather ml_X6_51 ⟨Nat.le_of_ble_eq_true rfl, Nat.le_of_ble_eq_true rfl⟩ (c_X4_gather l G kc ap ad la fa ra   hq) hK hP hD hS hA 16 rfl rfl rfl rfl rfl (Nat.le_of_ble_eq_true rfl) hl.1 dX6_reach_58 (fun H locs hP hD hS => ?_)
          refine lv_aload_n hx hb dX6_reach_61 rfl (lv_at hl 0 rfl) ?_
          refine lv_iconst (v := 2) hx hb dX6_reach_62 (by decide) ?_
          refine r_put S pf_X6_43 hK hP hD hS 3 rfl (Nat.le_of_ble_eq_true rfl) dX6_reach_63 (fun H locs hP hD hS => ?_)
          have hP : VP G (sW ap ad la fa ra kc c_greys c_remembered c_columns c_rows c_settings 2 c_order_2 c_merged_3 c_least_4 c_greatest_5 c_role_6 c_head_7 c_tail_8 c_rank_9 c_kindFrom_10 c_kindTo_11 c_side_12 c_across_13 c_down_14 c_count_15 c_flats_16 c_crowded_17 c_kinds_18 c_first_50 c_second_51 c_pairs_52 c_pairsWith_53 c_voted_54 c_ways_55 c_shcount_56 c_numberOfWay_57 c_list c_fcount c_regions c_left c_open c_frows c_fshift c_fdx c_fdy c_fleastPlace c_fpairs c_foffset c_fplacesFirst c_fplaces) H := hP
          have hD : va_D A (sW ap ad la fa ra kc c_greys c_remembered c_columns c_rows c_settings 2 c_order_2 c_merged_3 c_least_4 c_greatest_5 c_role_6 c_head_7 c_tail_8 c_rank_9 c_kindFrom_10 c_kindTo_11 c_side_12 c_across_13 c_down_14 c_count_15 c_flats_16 c_crowded_17 c_kinds_18 c_first_50 c_second_51 c_pairs_52 c_pairsWith_53 c_voted_54 c_ways_55 c_shcount_56 c_numberOfWay_57 c_list c_fcount c_regions c_left c_open c_frows c_fshift c_fdx c_fdy c_fleastPlace c_fpairs c_foffset c_fplacesFirst c_fplaces) := hD
          exact J_31 2 c_first_50 c_second_51 c_pairs_52 c_pairsWith_53 c_voted_54 c_ways_55 c_shcount_56 c_numberOfWay_57 _ _ _ hP hD hS (lv_sub hl [0, 1] rfl) h
  · intro j_19 J_20 h
    refine lv_icmp_ge (tgt := 33) hx hb dX6_reach_5 (by decide) (fun q_78 => ?_) (fun q_78 => ?_)
    · have h := it_t q_78 h
      exact J_20 c_reached c_order c_merged c_least c_greatest c_role c_head c_tail c_rank c_kindFrom c_kindTo c_side c_across c_down c_count c_flats c_crowded c_kinds _ _ _ hP hD hS (lv_sub hl [0, 1] rfl) h
    · have h := it_f q_78 h
      refine lv_iload_n hx hb dX6_reach_8 rfl (lv_at hl 1 rfl) ?_
      refine lv_iconst (v := 1) hx hb dX6_reach_9 (by decide) ?_
      refine lv_icmp_lt (tgt := 33) hx hb dX6_reach_10 (by decide) (fun q_77 => ?_) (fun q_77 => ?_)
      · have h := it_t q_77 h
        exact J_20 c_reached c_order c_merged c_least c_greatest c_role c_head c_tail c_rank c_kindFrom c_kindTo c_side c_across c_down c_count c_flats c_crowded c_kinds _ _ _ hP hD hS (lv_sub hl [0, 1] rfl) h
      · have h := it_f q_77 h
        refine lv_aload_n hx hb dX6_reach_13 rfl (lv_at hl 0 rfl) ?_
        refine r_get S gf_X6_18 hK hP 3 rfl rfl dX6_reach_14 ?_
        refine lv_aload_n hx hb dX6_reach_17 rfl (lv_at hl 0 rfl) ?_
        refine r_get S gf_X6_36 hK hP 3 rfl rfl dX6_reach_18 ?_
        refine lv_aload_n hx hb dX6_reach_21 rfl (lv_at hl 0 rfl) ?_
        refine r_get S gf_X6_9 hK hP 3 rfl rfl dX6_reach_22 ?_
        obtain ⟨c_order_60, c_merged_61, c_least_62, c_greatest_63, c_role_64, c_head_65, c_tail_66, c_rank_67, c_kindFrom_68, c_kindTo_69, c_side_70, c_across_71, c_down_72, c_count_73, c_flats_74, c_crowded_75, c_kinds_76, hq, h⟩ := bd17_e h
        refine cs_Vv (rest := []) (ci := 4) S hN cb_X5_read ml_X6_47 ⟨Nat.le_of_ble_eq_true rfl, Nat.le_of_ble_eq_true rfl⟩ (c_X5_read l G kc ap ad la fa ra   hq) hK hP hD hS hA 5 rfl rfl rfl rfl rfl (Nat.le_of_ble_eq_true rfl) hl.1 dX6_reach_25 (fun H locs hP hD hS => ?_)
        refine lv_aload_n hx hb dX6_reach_28 rfl (lv_at hl 0 rfl) ?_
        refine lv_iconst (v := 1) hx hb dX6_reach_29 (by decide) ?_
        refine r_put S pf_X6_43 hK hP hD hS 3 rfl (Nat.le_of_ble_eq_true rfl) dX6_reach_30 (fun H locs hP hD hS => ?_)
        have hP : VP G (sW ap ad la fa ra kc c_greys c_remembered c_columns c_rows c_settings 1 c_order_60 c_merged_61 c_least_62 c_greatest_63 c_role_64 c_head_65 c_tail_66 c_rank_67 c_kindFrom_68 c_kindTo_69 c_side_70 c_across_71 c_down_72 c_count_73 c_flats_74 c_crowded_75 c_kinds_76 c_first c_second c_pairs c_pairsWith c_voted c_ways c_shcount c_numberOfWay c_list c_fcount c_regions c_left c_open c_frows c_fshift c_fdx c_fdy c_fleastPlace c_fpairs c_foffset c_fplacesFirst c_fplaces) H := hP
        have hD : va_D A (sW ap ad la fa ra kc c_greys c_remembered c_columns c_rows c_settings 1 c_order_60 c_merged_61 c_least_62 c_greatest_63 c_role_64 c_head_65 c_tail_66 c_rank_67 c_kindFrom_68 c_kindTo_69 c_side_70 c_across_71 c_down_72 c_count_73 c_flats_74 c_crowded_75 c_kinds_76 c_first c_second c_pairs c_pairsWith c_voted c_ways c_shcount c_numberOfWay c_list c_fcount c_regions c_left c_open c_frows c_fshift c_fdx c_fdy c_fleastPlace c_fpairs c_foffset c_fplacesFirst c_fplaces) := hD
        exact J_20 1 c_order_60 c_merged_61 c_least_62 c_greatest_63 c_role_64 c_head_65 c_tail_66 c_rank_67 c_kindFrom_68 c_kindTo_69 c_side_70 c_across_71 c_down_72 c_count_73 c_flats_74 c_crowded_75 c_kinds_76 _ _ _ hP hD hS (lv_sub hl [0, 1] rfl) h
