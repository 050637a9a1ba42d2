set_option maxHeartbeats 1000000 in
set_option maxRecDepth 100000 in
theorem c_X0_grow (l : Launch) (G : va_G) (kc : Nat → ClassId) (ap ad la fa ra : Nat → Nat) {c_greys : (Nat → Int32)} {c_remembered : (Nat → Int32)} {c_columns : Int32} {c_rows : Int32} {c_settings : (Nat → Int32)} {c_reached : Int32} {c_order : (Nat → Int32)} {c_merged : (Nat → Int32)} {c_least : (Nat → Int32)} {c_greatest : (Nat → Int32)} {c_role : (Nat → Int32)} {c_head : (Nat → Int64)} {c_tail : (Nat → Int64)} {c_rank : (Nat → Int32)} {c_kindFrom : (Nat → Int32)} {c_kindTo : (Nat → Int32)} {c_side : Int32} {c_across : Int32} {c_down : Int32} {c_count : Int32} {c_flats : Int32} {c_crowded : Int32} {c_kinds : Int32} {c_first : (Nat → Int32)} {c_second : (Nat → Int32)} {c_pairs : Int32} {c_pairsWith : (Nat → Int32)} {c_voted : (Nat → Int32)} {c_ways : (Nat → Int32)} {c_shcount : Int32} {c_numberOfWay : (Nat → Int32)} {c_list : (Nat → Nat)} {c_fcount : Int32} {c_regions : (Nat → Int32)} {c_left : (Nat → Nat → Int32)} {c_open : (Nat → Int32)} {c_frows : (Nat → Nat → Int32)} {c_fshift : (Nat → Int32)} {c_fdx : (Nat → Int32)} {c_fdy : (Nat → Int32)} {c_fleastPlace : (Nat → Int32)} {c_fpairs : (Nat → Int32)} {c_foffset : (Nat → Int32)} {c_fplacesFirst : (Nat → Int32)} {c_fplaces : (Nat → Int32)} (x2 : Int32) (x3 : Int32) {j_this : Nat} (hj_this : j_this < 25) {c_open' : (Nat → Int32)} {c_frows' : (Nat → Nat → Int32)} {c_fplacesFirst' : (Nat → Int32)} {c_fplaces' : (Nat → Int32)} {FU : Nat} (h : f_X0_grow FU c_greys c_columns c_rows c_open c_frows c_fdx c_fdy c_foffset c_fplacesFirst c_fplaces j_this x2 x3 = some (c_open', c_frows', c_fplacesFirst', c_fplaces')) : CTv l G kc yX0_grow cX0_grow 7 none (rmq 2 50) [.ref (fa j_this), .ref (ap 0), .int x2, .int x3, .ref (ad 24)] (sW ap ad la fa ra kc c_greys c_remembered c_columns c_rows c_settings c_reached c_order c_merged c_least c_greatest c_role c_head c_tail c_rank c_kindFrom c_kindTo c_side c_across c_down c_count c_flats c_crowded c_kinds c_first c_second c_pairs c_pairsWith c_voted c_ways c_shcount c_numberOfWay c_list c_fcount c_regions c_left c_open c_frows c_fshift c_fdx c_fdy c_fleastPlace c_fpairs c_foffset c_fplacesFirst c_fplaces) (sW ap ad la fa ra kc c_greys c_remembered c_columns c_rows c_settings c_reached c_order c_merged c_least c_greatest c_role c_head c_tail c_rank c_kindFrom c_kindTo c_side c_across c_down c_count c_flats c_crowded c_kinds c_first c_second c_pairs c_pairsWith c_voted c_ways c_shcount c_numberOfWay c_list c_fcount c_regions c_left (c_open') (c_frows') c_fshift c_fdx c_fdy c_fleastPlace c_fpairs c_foffset (c_fplacesFirst') (c_fplaces')) := by
  refine CTv.mk (by decide) (Nat.le_of_ble_eq_true rfl) ?_
  intro p e s m args below meth c A ls Q hQ S hr hlocks hN hA hK hl hP hD hS
  have hx := S.1
  have hb := S.2.1
  have hl : lv_has ls 7 [(0, .ref (fa j_this)), (1, .ref (ap 0)), (2, .int x2), (3, .int x3), (4, .ref (ad 24))] := hl
  unfold f_X0_grow at h
  refine lv_aload_n hx hb dX0_grow_0 rfl (lv_at hl 0 rfl) ?_
  refine r_get S gf_X0_9 hK hP (36 + j_this) (sW_f hj_this) rfl dX0_grow_1 ?_
  refine lv_iload_n hx hb dX0_grow_4 rfl (lv_at hl 2 rfl) ?_
  obtain ⟨g_1, hq, h⟩ := bd1_e h
  refine cp_Sv (rest := []) [(61 + j_this)] S hN cb_X3_widen ml_X0_64 ⟨Nat.le_of_ble_eq_true rfl, Nat.le_of_ble_eq_true rfl⟩ (c_X3_widen l G kc (ra j_this) x2 hq) hK hP hD hS hA (l1 (sW_r hj_this)) nd1 rfl rfl rfl (Nat.le_of_ble_eq_true rfl) hl.1 dX0_grow_5 (fun H locs hP hD hS => ?_)
  have hP : VP G (sW ap ad la fa ra kc c_greys c_remembered c_columns c_rows c_settings c_reached c_order c_merged c_least c_greatest c_role c_head c_tail c_rank c_kindFrom c_kindTo c_side c_across c_down c_count c_flats c_crowded c_kinds c_first c_second c_pairs c_pairsWith c_voted c_ways c_shcount c_numberOfWay c_list c_fcount c_regions c_left c_open (va_up c_frows j_this g_1) c_fshift c_fdx c_fdy c_fleastPlace c_fpairs c_foffset c_fplacesFirst c_fplaces) H := eqP (sW_rs hj_this) hP
  have hD : va_D A (sW ap ad la fa ra kc c_greys c_remembered c_columns c_rows c_settings c_reached c_order c_merged c_least c_greatest c_role c_head c_tail c_rank c_kindFrom c_kindTo c_side c_across c_down c_count c_flats c_crowded c_kinds c_first c_second c_pairs c_pairsWith c_voted c_ways c_shcount c_numberOfWay c_list c_fcount c_regions c_left c_open (va_up c_frows j_this g_1) c_fshift c_fdx c_fdy c_fleastPlace c_fpairs c_foffset c_fplacesFirst c_fplaces) := eqD (sW_rs hj_this) hD
  refine lv_aload_n hx hb dX0_grow_8 rfl (lv_at hl 0 rfl) ?_
  refine lv_aload_n hx hb dX0_grow_9 rfl (lv_at hl 0 rfl) ?_
  refine r_get S gf_X0_9 hK hP (36 + j_this) (sW_f hj_this) rfl dX0_grow_10 ?_
  obtain ⟨r_2, hq, h⟩ := bd1_e h
  refine cp_Si (rest := [.ref (fa j_this)]) [(61 + j_this)] S hN cb_X3_size ml_X0_45 ⟨Nat.le_of_ble_eq_true rfl, Nat.le_of_ble_eq_true rfl⟩ (c_X3_size l G kc (ra j_this)  hq) hK hP hD hS hA (l1 (sW_r hj_this)) nd1 rfl rfl rfl (Nat.le_of_ble_eq_true rfl) hl.1 dX0_grow_13 (fun H locs hP hD hS => ?_)
  have hP : VP G (sW ap ad la fa ra kc c_greys c_remembered c_columns c_rows c_settings c_reached c_order c_merged c_least c_greatest c_role c_head c_tail c_rank c_kindFrom c_kindTo c_side c_across c_down c_count c_flats c_crowded c_kinds c_first c_second c_pairs c_pairsWith c_voted c_ways c_shcount c_numberOfWay c_list c_fcount c_regions c_left c_open (va_up c_frows j_this g_1) c_fshift c_fdx c_fdy c_fleastPlace c_fpairs c_foffset c_fplacesFirst c_fplaces) H := eqP (set_same (sW_r hj_this)) hP
  have hD : va_D A (sW ap ad la fa ra kc c_greys c_remembered c_columns c_rows c_settings c_reached c_order c_merged c_least c_greatest c_role c_head c_tail c_rank c_kindFrom c_kindTo c_side c_across c_down c_count c_flats c_crowded c_kinds c_first c_second c_pairs c_pairsWith c_voted c_ways c_shcount c_numberOfWay c_list c_fcount c_regions c_left c_open (va_up c_frows j_this g_1) c_fshift c_fdx c_fdy c_fleastPlace c_fpairs c_foffset c_fplacesFirst c_fplaces) := eqD (set_same (sW_r hj_this)) hD
  refine r_put S pf_X0_68 hK hP hD hS (36 + j_this) (sW_f hj_this) (Nat.le_of_ble_eq_true rfl) dX0_grow_16 (fun H locs hP hD hS => ?_)
  have hP : VP G (sW ap ad la fa ra kc c_greys c_remembered c_columns c_rows c_settings c_reached c_order c_merged c_least c_greatest c_role c_head c_tail c_rank c_kindFrom c_kindTo c_side c_across c_down c_count c_flats c_crowded c_kinds c_first c_second c_pairs c_pairsWith c_voted c_ways c_shcount c_numberOfWay c_list c_fcount c_regions c_left c_open (va_up c_frows j_this g_1) c_fshift c_fdx c_fdy c_fleastPlace c_fpairs c_foffset (upd c_fplacesFirst j_this r_2) c_fplaces) H := eqP (sW_fs_7 hj_this) hP
  have hD : va_D A (sW ap ad la fa ra kc c_greys c_remembered c_columns c_rows c_settings c_reached c_order c_merged c_least c_greatest c_role c_head c_tail c_rank c_kindFrom c_kindTo c_side c_across c_down c_count c_flats c_crowded c_kinds c_first c_second c_pairs c_pairsWith c_voted c_ways c_shcount c_numberOfWay c_list c_fcount c_regions c_left c_open (va_up c_frows j_this g_1) c_fshift c_fdx c_fdy c_fleastPlace c_fpairs c_foffset (upd c_fplacesFirst j_this r_2) c_fplaces) := eqD (sW_fs_7 hj_this) hD
  refine lv_iconst (v := 0) hx hb dX0_grow_19 (by decide) ?_
  refine lv_istore (lv' := [(5, .int 0), (0, .ref (fa j_this)), (1, .ref (ap 0)), (2, .int x2), (3, .int x3), (4, .ref (ad 24))]) hx hb dX0_grow_20 hl (by decide) rfl (fun ls hl => ?_)
  refine jn_w (t := fun k => f_X0_grow_L22 FU x3 c_greys c_columns c_rows c_fdx c_fdy c_foffset j_this k FU 0 c_open) (fun (k : Int32 → (Nat → Int32) → Option ((Nat → Int32) × (Nat → Nat → Int32) × (Nat → Int32) × (Nat → Int32))) => ∀ (x5_3 : Int32) (c_open_4 : (Nat → Int32)) (H : Heap) (locs : List Loc) (ls : Array Slot), VP G (sW ap ad la fa ra kc c_greys c_remembered c_columns c_rows c_settings c_reached c_order c_merged c_least c_greatest c_role c_head c_tail c_rank c_kindFrom c_kindTo c_side c_across c_down c_count c_flats c_crowded c_kinds c_first c_second c_pairs c_pairsWith c_voted c_ways c_shcount c_numberOfWay c_list c_fcount c_regions c_left c_open_4 (va_up c_frows j_this g_1) c_fshift c_fdx c_fdy c_fleastPlace c_fpairs c_foffset (upd c_fplacesFirst j_this r_2) c_fplaces) H → va_D A (sW ap ad la fa ra kc c_greys c_remembered c_columns c_rows c_settings c_reached c_order c_merged c_least c_greatest c_role c_head c_tail c_rank c_kindFrom c_kindTo c_side c_across c_down c_count c_flats c_crowded c_kinds c_first c_second c_pairs c_pairsWith c_voted c_ways c_shcount c_numberOfWay c_list c_fcount c_regions c_left c_open_4 (va_up c_frows j_this g_1) c_fshift c_fdx c_fdy c_fleastPlace c_fpairs c_foffset (upd c_fplacesFirst j_this r_2) c_fplaces) → va_S A s.heap H locs → lv_has ls 7 [(0, .ref (fa j_this)), (4, .ref (ad 24))] → k x5_3 c_open_4 = some (c_open', c_frows', c_fplacesFirst', c_fplaces') → WW p l e (rmq 2 50) s m args below meth c Q H locs 90 ls []) h ?_ ?_
  · intro x5_3 c_open_4 H locs ls hP hD hS hl h
    refine lv_aload_n hx hb dX0_grow_90 rfl (lv_at hl 0 rfl) ?_
    refine r_get S gf_X0_9 hK hP (36 + j_this) (sW_f hj_this) rfl dX0_grow_91 ?_
    refine lv_aload hx hb dX0_grow_94 (lv_at hl 1 rfl) ?_
    obtain ⟨g_8, hq, h⟩ := bd1_e h
    refine cp_Sv (rest := []) [(61 + j_this), 27] S hN cb_X3_spread ml_X0_41 ⟨Nat.le_of_ble_eq_true rfl, Nat.le_of_ble_eq_true rfl⟩ (c_X3_spread l G kc (ra j_this) (ad 24)  hq) hK hP hD hS hA (l2 (sW_r hj_this) rfl) (nd2 (by omega)) rfl rfl rfl (Nat.le_of_ble_eq_true rfl) hl.1 dX0_grow_96 (fun H locs hP hD hS => ?_)
    have hP : VP G (sW ap ad la fa ra kc c_greys c_remembered c_columns c_rows c_settings c_reached c_order c_merged c_least c_greatest c_role c_head c_tail c_rank c_kindFrom c_kindTo c_side c_across c_down c_count c_flats c_crowded c_kinds c_first c_second c_pairs c_pairsWith c_voted c_ways c_shcount c_numberOfWay c_list c_fcount c_regions c_left c_open_4 (va_up (va_up c_frows j_this g_1) j_this g_8) c_fshift c_fdx c_fdy c_fleastPlace c_fpairs c_foffset (upd c_fplacesFirst j_this r_2) c_fplaces) H := eqP (eq2 (sW_rs hj_this) rfl) hP
    have hD : va_D A (sW ap ad la fa ra kc c_greys c_remembered c_columns c_rows c_settings c_reached c_order c_merged c_least c_greatest c_role c_head c_tail c_rank c_kindFrom c_kindTo c_side c_across c_down c_count c_flats c_crowded c_kinds c_first c_second c_pairs c_pairsWith c_voted c_ways c_shcount c_numberOfWay c_list c_fcount c_regions c_left c_open_4 (va_up (va_up c_frows j_this g_1) j_this g_8) c_fshift c_fdx c_fdy c_fleastPlace c_fpairs c_foffset (upd c_fplacesFirst j_this r_2) c_fplaces) := eqD (eq2 (sW_rs hj_this) rfl) hD
    refine lv_aload_n hx hb dX0_grow_99 rfl (lv_at hl 0 rfl) ?_
    refine lv_aload_n hx hb dX0_grow_100 rfl (lv_at hl 0 rfl) ?_
    refine r_get S gf_X0_9 hK hP (36 + j_this) (sW_f hj_this) rfl dX0_grow_101 ?_
    obtain ⟨r_9, hq, h⟩ := bd1_e h
    refine cp_Si (rest := [.ref (fa j_this)]) [(61 + j_this)] S hN cb_X3_size ml_X0_45 ⟨Nat.le_of_ble_eq_true rfl, Nat.le_of_ble_eq_true rfl⟩ (c_X3_size l G kc (ra j_this)  hq) hK hP hD hS hA (l1 (sW_r hj_this)) nd1 rfl rfl rfl (Nat.le_of_ble_eq_true rfl) hl.1 dX0_grow_104 (fun H locs hP hD hS => ?_)
    have hP : VP G (sW ap ad la fa ra kc c_greys c_remembered c_columns c_rows c_settings c_reached c_order c_merged c_least c_greatest c_role c_head c_tail c_rank c_kindFrom c_kindTo c_side c_across c_down c_count c_flats c_crowded c_kinds c_first c_second c_pairs c_pairsWith c_voted c_ways c_shcount c_numberOfWay c_list c_fcount c_regions c_left c_open_4 (va_up (va_up c_frows j_this g_1) j_this g_8) c_fshift c_fdx c_fdy c_fleastPlace c_fpairs c_foffset (upd c_fplacesFirst j_this r_2) c_fplaces) H := eqP (set_same (sW_r hj_this)) hP
    have hD : va_D A (sW ap ad la fa ra kc c_greys c_remembered c_columns c_rows c_settings c_reached c_order c_merged c_least c_greatest c_role c_head c_tail c_rank c_kindFrom c_kindTo c_side c_across c_down c_count c_flats c_crowded c_kinds c_first c_second c_pairs c_pairsWith c_voted c_ways c_shcount c_numberOfWay c_list c_fcount c_regions c_left c_open_4 (va_up (va_up c_frows j_this g_1) j_this g_8) c_fshift c_fdx c_fdy c_fleastPlace c_fpairs c_foffset (upd c_fplacesFirst j_this r_2) c_fplaces) := eqD (set_same (sW_r hj_this)) hD
    refine r_put S pf_X0_75 hK hP hD hS (36 + j_this) (sW_f hj_this) (Nat.le_of_ble_eq_true rfl) dX0_grow_107 (fun H locs hP hD hS => ?_)
    have hP : VP G (sW ap ad la fa ra kc c_greys c_remembered c_columns c_rows c_settings c_reached c_order c_merged c_least c_greatest c_role c_head c_tail c_rank c_kindFrom c_kindTo c_side c_across c_down c_count c_flats c_crowded c_kinds c_first c_second c_pairs c_pairsWith c_voted c_ways c_shcount c_numberOfWay c_list c_fcount c_regions c_left c_open_4 (va_up (va_up c_frows j_this g_1) j_this g_8) c_fshift c_fdx c_fdy c_fleastPlace c_fpairs c_foffset (upd c_fplacesFirst j_this r_2) (upd c_fplaces j_this r_9)) H := eqP (sW_fs_8 hj_this) hP
    have hD : va_D A (sW ap ad la fa ra kc c_greys c_remembered c_columns c_rows c_settings c_reached c_order c_merged c_least c_greatest c_role c_head c_tail c_rank c_kindFrom c_kindTo c_side c_across c_down c_count c_flats c_crowded c_kinds c_first c_second c_pairs c_pairsWith c_voted c_ways c_shcount c_numberOfWay c_list c_fcount c_regions c_left c_open_4 (va_up (va_up c_frows j_this g_1) j_this g_8) c_fshift c_fdx c_fdy c_fleastPlace c_fpairs c_foffset (upd c_fplacesFirst j_this r_2) (upd c_fplaces j_this r_9)) := eqD (sW_fs_8 hj_this) hD
    cases h
    exact ret_v hx hb hr hQ hlocks hK hP hD hS dX0_grow_110
  · intro k_5 K_6 h
    have L_7 : ∀ (n : Nat) (x5_3 : Int32) (c_open_4 : (Nat → Int32)) (H : Heap) (locs : List Loc) (ls : Array Slot), VP G (sW ap ad la fa ra kc c_greys c_remembered c_columns c_rows c_settings c_reached c_order c_merged c_least c_greatest c_role c_head c_tail c_rank c_kindFrom c_kindTo c_side c_across c_down c_count c_flats c_crowded c_kinds c_first c_second c_pairs c_pairsWith c_voted c_ways c_shcount c_numberOfWay c_list c_fcount c_regions c_left c_open_4 (va_up c_frows j_this g_1) c_fshift c_fdx c_fdy c_fleastPlace c_fpairs c_foffset (upd c_fplacesFirst j_this r_2) c_fplaces) H → va_D A (sW ap ad la fa ra kc c_greys c_remembered c_columns c_rows c_settings c_reached c_order c_merged c_least c_greatest c_role c_head c_tail c_rank c_kindFrom c_kindTo c_side c_across c_down c_count c_flats c_crowded c_kinds c_first c_second c_pairs c_pairsWith c_voted c_ways c_shcount c_numberOfWay c_list c_fcount c_regions c_left c_open_4 (va_up c_frows j_this g_1) c_fshift c_fdx c_fdy c_fleastPlace c_fpairs c_foffset (upd c_fplacesFirst j_this r_2) c_fplaces) → va_S A s.heap H locs → lv_has ls 7 [(0, .ref (fa j_this)), (1, .ref (ap 0)), (3, .int x3), (4, .ref (ad 24)), (5, .int x5_3)] → f_X0_grow_L22 FU x3 c_greys c_columns c_rows c_fdx c_fdy c_foffset j_this k_5 n x5_3 c_open_4 = some (c_open', c_frows', c_fplacesFirst', c_fplaces') → WW p l e (rmq 2 50) s m args below meth c Q H locs 22 ls [] := by
      intro n
      induction n with
      | zero => intro x5_3 c_open_4 H locs ls hP hD hS hl h; rw [f_X0_grow_L22] at h; cases h
      | succ n ih =>
        intro x5_3 c_open_4 H locs ls hP hD hS hl h
        rw [f_X0_grow_L22] at h
        refine lv_iload hx hb dX0_grow_22 (lv_at hl 4 rfl) ?_
        refine lv_bipush (v := 16) hx hb dX0_grow_24 (by decide) ?_
        refine lv_icmp_ge (tgt := 90) hx hb dX0_grow_26 (by decide) (fun q_25 => ?_) (fun q_25 => ?_)
        · have h := it_t q_25 h
          exact K_6 x5_3 c_open_4 _ _ _ hP hD hS (lv_sub hl [0, 3] rfl) h
        · have h := it_f q_25 h
          refine lv_aload hx hb dX0_grow_29 (lv_at hl 3 rfl) ?_
          refine lv_iload hx hb dX0_grow_31 (lv_at hl 4 rfl) ?_
          refine lv_iconst (v := 0) hx hb dX0_grow_33 (by decide) ?_
          refine r_iast hx hb hK hP hD hS 27 rfl dX0_grow_34 h (fun c_open_10 H locs hP hD hS h => ?_)
          have hP : VP G (sW ap ad la fa ra kc c_greys c_remembered c_columns c_rows c_settings c_reached c_order c_merged c_least c_greatest c_role c_head c_tail c_rank c_kindFrom c_kindTo c_side c_across c_down c_count c_flats c_crowded c_kinds c_first c_second c_pairs c_pairsWith c_voted c_ways c_shcount c_numberOfWay c_list c_fcount c_regions c_left c_open_10 (va_up c_frows j_this g_1) c_fshift c_fdx c_fdy c_fleastPlace c_fpairs c_foffset (upd c_fplacesFirst j_this r_2) c_fplaces) H := hP
          have hD : va_D A (sW ap ad la fa ra kc c_greys c_remembered c_columns c_rows c_settings c_reached c_order c_merged c_least c_greatest c_role c_head c_tail c_rank c_kindFrom c_kindTo c_side c_across c_down c_count c_flats c_crowded c_kinds c_first c_second c_pairs c_pairsWith c_voted c_ways c_shcount c_numberOfWay c_list c_fcount c_regions c_left c_open_10 (va_up c_frows j_this g_1) c_fshift c_fdx c_fdy c_fleastPlace c_fpairs c_foffset (upd c_fplacesFirst j_this r_2) c_fplaces) := hD
          refine lv_iconst (v := 0) hx hb dX0_grow_35 (by decide) ?_
          refine lv_istore (lv' := [(6, .int 0), (0, .ref (fa j_this)), (1, .ref (ap 0)), (3, .int x3), (4, .ref (ad 24)), (5, .int x5_3)]) hx hb dX0_grow_36 hl (by decide) rfl (fun ls hl => ?_)
          refine jn_w (t := fun k => f_X0_grow_L38 FU x3 x5_3 c_greys c_columns c_rows c_fdx c_fdy c_foffset j_this k FU 0 c_open_10) (fun (k : Int32 → (Nat → Int32) → Option ((Nat → Int32) × (Nat → Nat → Int32) × (Nat → Int32) × (Nat → Int32))) => ∀ (x6_11 : Int32) (c_open_12 : (Nat → Int32)) (H : Heap) (locs : List Loc) (ls : Array Slot), VP G (sW ap ad la fa ra kc c_greys c_remembered c_columns c_rows c_settings c_reached c_order c_merged c_least c_greatest c_role c_head c_tail c_rank c_kindFrom c_kindTo c_side c_across c_down c_count c_flats c_crowded c_kinds c_first c_second c_pairs c_pairsWith c_voted c_ways c_shcount c_numberOfWay c_list c_fcount c_regions c_left c_open_12 (va_up c_frows j_this g_1) c_fshift c_fdx c_fdy c_fleastPlace c_fpairs c_foffset (upd c_fplacesFirst j_this r_2) c_fplaces) H → va_D A (sW ap ad la fa ra kc c_greys c_remembered c_columns c_rows c_settings c_reached c_order c_merged c_least c_greatest c_role c_head c_tail c_rank c_kindFrom c_kindTo c_side c_across c_down c_count c_flats c_crowded c_kinds c_first c_second c_pairs c_pairsWith c_voted c_ways c_shcount c_numberOfWay c_list c_fcount c_regions c_left c_open_12 (va_up c_frows j_this g_1) c_fshift c_fdx c_fdy c_fleastPlace c_fpairs c_foffset (upd c_fplacesFirst j_this r_2) c_fplaces) → va_S A s.heap H locs → lv_has ls 7 [(0, .ref (fa j_this)), (1, .ref (ap 0)), (3, .int x3), (4, .ref (ad 24)), (5, .int x5_3)] → k x6_11 c_open_12 = some (c_open', c_frows', c_fplacesFirst', c_fplaces') → WW p l e (rmq 2 50) s m args below meth c Q H locs 84 ls []) h ?_ ?_
          · intro x6_11 c_open_12 H locs ls hP hD hS hl h
            refine lv_iinc (v := (x5_3 + 1)) (lv' := [(5, .int (x5_3 + 1)), (0, .ref (fa j_this)), (1, .ref (ap 0)), (3, .int x3), (4, .ref (ad 24))]) hx hb dX0_grow_84 hl (k := 4) rfl rfl (by decide) rfl (fun ls hl => ?_)
            refine lv_goto (tgt := 22) hx hb dX0_grow_87 (by decide) ?_
            exact ih (x5_3 + 1) c_open_12 _ _ _ hP hD hS (lv_sub hl [1, 2, 3, 4, 0] rfl) h
          · intro k_13 K_14 h
            have L_15 : ∀ (n : Nat) (x6_11 : Int32) (c_open_12 : (Nat → Int32)) (H : Heap) (locs : List Loc) (ls : Array Slot), VP G (sW ap ad la fa ra kc c_greys c_remembered c_columns c_rows c_settings c_reached c_order c_merged c_least c_greatest c_role c_head c_tail c_rank c_kindFrom c_kindTo c_side c_across c_down c_count c_flats c_crowded c_kinds c_first c_second c_pairs c_pairsWith c_voted c_ways c_shcount c_numberOfWay c_list c_fcount c_regions c_left c_open_12 (va_up c_frows j_this g_1) c_fshift c_fdx c_fdy c_fleastPlace c_fpairs c_foffset (upd c_fplacesFirst j_this r_2) c_fplaces) H → va_D A (sW ap ad la fa ra kc c_greys c_remembered c_columns c_rows c_settings c_reached c_order c_merged c_least c_greatest c_role c_head c_tail c_rank c_kindFrom c_kindTo c_side c_across c_down c_count c_flats c_crowded c_kinds c_first c_second c_pairs c_pairsWith c_voted c_ways c_shcount c_numberOfWay c_list c_fcount c_regions c_left c_open_12 (va_up c_frows j_this g_1) c_fshift c_fdx c_fdy c_fleastPlace c_fpairs c_foffset (upd c_fplacesFirst j_this r_2) c_fplaces) → va_S A s.heap H locs → lv_has ls 7 [(0, .ref (fa j_this)), (1, .ref (ap 0)), (3, .int x3), (4, .ref (ad 24)), (5, .int x5_3), (6, .int x6_11)] → f_X0_grow_L38 FU x3 x5_3 c_greys c_columns c_rows c_fdx c_fdy c_foffset j_this k_13 n x6_11 c_open_12 = some (c_open', c_frows', c_fplacesFirst', c_fplaces') → WW p l e (rmq 2 50) s m args below meth c Q H locs 38 ls [] := by
              intro n
              induction n with
              | zero => intro x6_11 c_open_12 H locs ls hP hD hS hl h; rw [f_X0_grow_L38] at h; cases h
              | succ n ih =>
                intro x6_11 c_open_12 H locs ls hP hD hS hl h
                rw [f_X0_grow_L38] at h
                refine lv_iload hx hb dX0_grow_38 (lv_at hl 5 rfl) ?_
                refine lv_bipush (v := 16) hx hb dX0_grow_40 (by decide) ?_
                refine lv_icmp_ge (tgt := 84) hx hb dX0_grow_42 (by decide) (fun q_24 => ?_) (fun q_24 => ?_)
                · have h := it_t q_24 h
                  exact K_14 x6_11 c_open_12 _ _ _ hP hD hS (lv_sub hl [0, 1, 2, 3, 4] rfl) h
                · have h := it_f q_24 h
                  refine lv_aload hx hb dX0_grow_45 (lv_at hl 3 rfl) ?_
                  refine lv_iload hx hb dX0_grow_47 (lv_at hl 4 rfl) ?_
                  refine lv_dup2_11 hx hb dX0_grow_49 rfl rfl ?_
                  refine r_iald hx hb hK hP 27 rfl dX0_grow_50 h (fun y_16 h => ?_)
                  refine lv_aload_n hx hb dX0_grow_51 rfl (lv_at hl 0 rfl) ?_
                  refine lv_aload_n hx hb dX0_grow_52 rfl (lv_at hl 1 rfl) ?_
                  refine lv_iload hx hb dX0_grow_53 (lv_at hl 5 rfl) ?_
                  refine lv_iload hx hb dX0_grow_55 (lv_at hl 4 rfl) ?_
                  obtain ⟨r_17, hq, h⟩ := bd1_e h
                  refine cs_Vi (rest := [.int y_16, .int x5_3, .ref (ad 24)]) (ci := 0) S hN cb_X0_missOf ml_X0_71 ⟨Nat.le_of_ble_eq_true rfl, Nat.le_of_ble_eq_true rfl⟩ (c_X0_missOf l G kc ap ad la fa ra x6_11 x5_3 hj_this hq) hK hP hD hS hA (36 + j_this) rfl rfl (sW_f hj_this) rfl rfl (Nat.le_of_ble_eq_true rfl) hl.1 dX0_grow_57 (fun H locs hP hD hS => ?_)
                  refine lv_iconst (v := 0) hx hb dX0_grow_60 (by decide) ?_
                  refine lv_iload_n hx hb dX0_grow_61 rfl (lv_at hl 2 rfl) ?_
                  obtain ⟨r_18, hq, h⟩ := bd1_e h
                  refine cn_Si (rest := [.int y_16, .int x5_3, .ref (ad 24)]) S hN cb_X7_isWithin mn_X0_52 ⟨Nat.le_of_ble_eq_true rfl, Nat.le_of_ble_eq_true rfl⟩ (c_X7_isWithin l G kc r_17 0 x3 hq) hK hP hD hS hA rfl rfl (Nat.le_of_ble_eq_true rfl) hl.1 dX0_grow_62 (fun H locs hP hD hS => ?_)
                  refine jn_w (fun (k : Int32 → Option ((Nat → Int32) × (Nat → Nat → Int32) × (Nat → Int32) × (Nat → Int32))) => ∀ (t_19 : Int32) (H : Heap) (locs : List Loc) (ls : Array Slot), VP G (sW ap ad la fa ra kc c_greys c_remembered c_columns c_rows c_settings c_reached c_order c_merged c_least c_greatest c_role c_head c_tail c_rank c_kindFrom c_kindTo c_side c_across c_down c_count c_flats c_crowded c_kinds c_first c_second c_pairs c_pairsWith c_voted c_ways c_shcount c_numberOfWay c_list c_fcount c_regions c_left c_open_12 (va_up c_frows j_this g_1) c_fshift c_fdx c_fdy c_fleastPlace c_fpairs c_foffset (upd c_fplacesFirst j_this r_2) c_fplaces) H → va_D A (sW ap ad la fa ra kc c_greys c_remembered c_columns c_rows c_settings c_reached c_order c_merged c_least c_greatest c_role c_head c_tail c_rank c_kindFrom c_kindTo c_side c_across c_down c_count c_flats c_crowded c_kinds c_first c_second c_pairs c_pairsWith c_voted c_ways c_shcount c_numberOfWay c_list c_fcount c_regions c_left c_open_12 (va_up c_frows j_this g_1) c_fshift c_fdx c_fdy c_fleastPlace c_fpairs c_foffset (upd c_fplacesFirst j_this r_2) c_fplaces) → va_S A s.heap H locs → lv_has ls 7 [(0, .ref (fa j_this)), (1, .ref (ap 0)), (3, .int x3), (4, .ref (ad 24)), (5, .int x5_3), (6, .int x6_11)] → k t_19 = some (c_open', c_frows', c_fplacesFirst', c_fplaces') → WW p l e (rmq 2 50) s m args below meth c Q H locs 76 ls [.int t_19, .int y_16, .int x5_3, .ref (ad 24)]) h ?_ ?_
                  · intro t_19 H locs ls hP hD hS hl h
                    refine lv_ior hx hb dX0_grow_76 ?_
                    refine r_iast hx hb hK hP hD hS 27 rfl dX0_grow_77 h (fun c_open_22 H locs hP hD hS h => ?_)
                    have hP : VP G (sW ap ad la fa ra kc c_greys c_remembered c_columns c_rows c_settings c_reached c_order c_merged c_least c_greatest c_role c_head c_tail c_rank c_kindFrom c_kindTo c_side c_across c_down c_count c_flats c_crowded c_kinds c_first c_second c_pairs c_pairsWith c_voted c_ways c_shcount c_numberOfWay c_list c_fcount c_regions c_left c_open_22 (va_up c_frows j_this g_1) c_fshift c_fdx c_fdy c_fleastPlace c_fpairs c_foffset (upd c_fplacesFirst j_this r_2) c_fplaces) H := hP
                    have hD : va_D A (sW ap ad la fa ra kc c_greys c_remembered c_columns c_rows c_settings c_reached c_order c_merged c_least c_greatest c_role c_head c_tail c_rank c_kindFrom c_kindTo c_side c_across c_down c_count c_flats c_crowded c_kinds c_first c_second c_pairs c_pairsWith c_voted c_ways c_shcount c_numberOfWay c_list c_fcount c_regions c_left c_open_22 (va_up c_frows j_this g_1) c_fshift c_fdx c_fdy c_fleastPlace c_fpairs c_foffset (upd c_fplacesFirst j_this r_2) c_fplaces) := hD
                    refine lv_iinc (v := (x6_11 + 1)) (lv' := [(6, .int (x6_11 + 1)), (0, .ref (fa j_this)), (1, .ref (ap 0)), (3, .int x3), (4, .ref (ad 24)), (5, .int x5_3)]) hx hb dX0_grow_78 hl (k := 5) rfl rfl (by decide) rfl (fun ls hl => ?_)
                    refine lv_goto (tgt := 38) hx hb dX0_grow_81 (by decide) ?_
                    exact ih (x6_11 + 1) c_open_22 _ _ _ hP hD hS (lv_sub hl [1, 2, 3, 4, 5, 0] rfl) h
                  · intro j_20 J_21 h
                    refine lv_if_eq (tgt := 75) hx hb dX0_grow_65 (by decide) (fun q_23 => ?_) (fun q_23 => ?_)
                    · have h := it_t q_23 h
                      refine lv_iconst (v := 0) hx hb dX0_grow_75 (by decide) ?_
                      exact J_21 0 _ _ _ hP hD hS (lv_sub hl [0, 1, 2, 3, 4, 5] rfl) h
                    · have h := it_f q_23 h
                      refine lv_iconst (v := 1) hx hb dX0_grow_68 (by decide) ?_
                      refine lv_iload hx hb dX0_grow_69 (lv_at hl 5 rfl) ?_
                      refine lv_ishl hx hb dX0_grow_71 ?_
                      refine lv_goto (tgt := 76) hx hb dX0_grow_72 (by decide) ?_
                      exact J_21 (1 <<< (x6_11 &&& 31)) _ _ _ hP hD hS (lv_sub hl [0, 1, 2, 3, 4, 5] rfl) h
            exact L_15 FU 0 c_open_10 _ _ _ hP hD hS (lv_sub hl [1, 2, 3, 4, 5, 0] rfl) h
    exact L_7 FU 0 c_open _ _ _ hP hD hS (lv_sub hl [1, 2, 4, 5, 0] rfl) h
set_option maxHeartbeats 1000000 in
set_option maxRecDepth 100000 in
theorem c_X0_missesTogether (l : Launch) (G : va_G) (kc : Nat → ClassId) (ap ad la fa ra : Nat → Nat) {c_greys : (Nat → Int32)} {c_remembered : (Nat → Int32)} {c_columns : Int32} {c_rows : Int32} {c_settings : (Nat → Int32)} {c_reached : Int32} {c_order : (Nat → Int32)} {c_merged : (Nat → Int32)} {c_least : (Nat → Int32)} {c_greatest : (Nat → Int32)} {c_role : (Nat → Int32)} {c_head : (Nat → Int64)} {c_tail : (Nat → Int64)} {c_rank : (Nat → Int32)} {c_kindFrom : (Nat → Int32)} {c_kindTo : (Nat → Int32)} {c_side : Int32} {c_across : Int32} {c_down : Int32} {c_count : Int32} {c_flats : Int32} {c_crowded : Int32} {c_kinds : Int32} {c_first : (Nat → Int32)} {c_second : (Nat → Int32)} {c_pairs : Int32} {c_pairsWith : (Nat → Int32)} {c_voted : (Nat → Int32)} {c_ways : (Nat → Int32)} {c_shcount : Int32} {c_numberOfWay : (Nat → Int32)} {c_list : (Nat → Nat)} {c_fcount : Int32} {c_regions : (Nat → Int32)} {c_left : (Nat → Nat → Int32)} {c_open : (Nat → Int32)} {c_frows : (Nat → Nat → Int32)} {c_fshift : (Nat → Int32)} {c_fdx : (Nat → Int32)} {c_fdy : (Nat → Int32)} {c_fleastPlace : (Nat → Int32)} {c_fpairs : (Nat → Int32)} {c_foffset : (Nat → Int32)} {c_fplacesFirst : (Nat → Int32)} {c_fplaces : (Nat → Int32)}  {j_this : Nat} (hj_this : j_this < 25) {r : Int32} {FU : Nat} (h : f_X0_missesTogether FU c_greys c_columns c_rows c_frows c_fdx c_fdy c_foffset j_this = some r) : CTi l G kc yX0_missesTogether cX0_missesTogether 5 (some .int) (rmq 2 47) [.ref (fa j_this), .ref (ap 0)] (sW ap ad la fa ra kc c_greys c_remembered c_columns c_rows c_settings c_reached c_order c_merged c_least c_greatest c_role c_head c_tail c_rank c_kindFrom c_kindTo c_side c_across c_down c_count c_flats c_crowded c_kinds c_first c_second c_pairs c_pairsWith c_voted c_ways c_shcount c_numberOfWay c_list c_fcount c_regions c_left c_open c_frows c_fshift c_fdx c_fdy c_fleastPlace c_fpairs c_foffset c_fplacesFirst c_fplaces) (sW ap ad la fa ra kc c_greys c_remembered c_columns c_rows c_settings c_reached c_order c_merged c_least c_greatest c_role c_head c_tail c_rank c_kindFrom c_kindTo c_side c_across c_down c_count c_flats c_crowded c_kinds c_first c_second c_pairs c_pairsWith c_voted c_ways c_shcount c_numberOfWay c_list c_fcount c_regions c_left c_open c_frows c_fshift c_fdx c_fdy c_fleastPlace c_fpairs c_foffset c_fplacesFirst c_fplaces) r := by
  refine CTi.mk (by decide) (Nat.le_of_ble_eq_true rfl) ?_
  intro p e s m args below meth c A ls Q hQ S hr hlocks hN hA hK hl hP hD hS
  have hx := S.1
  have hb := S.2.1
  have hl : lv_has ls 5 [(0, .ref (fa j_this)), (1, .ref (ap 0))] := hl
  unfold f_X0_missesTogether at h
  refine lv_iconst (v := 0) hx hb dX0_missesTogether_0 (by decide) ?_
  refine lv_istore_n (lv' := [(2, .int 0), (0, .ref (fa j_this)), (1, .ref (ap 0))]) hx hb dX0_missesTogether_1 rfl hl (by decide) rfl (fun ls hl => ?_)
  refine lv_iconst (v := 0) hx hb dX0_missesTogether_2 (by decide) ?_
  refine lv_istore_n (lv' := [(3, .int 0), (2, .int 0), (0, .ref (fa j_this)), (1, .ref (ap 0))]) hx hb dX0_missesTogether_3 rfl hl (by decide) rfl (fun ls hl => ?_)
  refine jn_w (t := fun k => f_X0_missesTogether_L4 FU c_greys c_columns c_rows c_frows c_fdx c_fdy c_foffset j_this k FU 0 0) (fun (k : Int32 → Int32 → Option (Int32)) => ∀ (x2_1 : Int32) (x3_2 : Int32) (H : Heap) (locs : List Loc) (ls : Array Slot), VP G (sW ap ad la fa ra kc c_greys c_remembered c_columns c_rows c_settings c_reached c_order c_merged c_least c_greatest c_role c_head c_tail c_rank c_kindFrom c_kindTo c_side c_across c_down c_count c_flats c_crowded c_kinds c_first c_second c_pairs c_pairsWith c_voted c_ways c_shcount c_numberOfWay c_list c_fcount c_regions c_left c_open c_frows c_fshift c_fdx c_fdy c_fleastPlace c_fpairs c_foffset c_fplacesFirst c_fplaces) H → va_D A (sW ap ad la fa ra kc c_greys c_remembered c_columns c_rows c_settings c_reached c_order c_merged c_least c_greatest c_role c_head c_tail c_rank c_kindFrom c_kindTo c_side c_across c_down c_count c_flats c_crowded c_kinds c_first c_second c_pairs c_pairsWith c_voted c_ways c_shcount c_numberOfWay c_list c_fcount c_regions c_left c_open c_frows c_fshift c_fdx c_fdy c_fleastPlace c_fpairs c_foffset c_fplacesFirst c_fplaces) → va_S A s.heap H locs → lv_has ls 5 [(2, .int x2_1)] → k x2_1 x3_2 = some r → WW p l e (rmq 2 47) s m args below meth c Q H locs 65 ls []) h ?_ ?_
  · intro x2_1 x3_2 H locs ls hP hD hS hl h
    refine lv_iload_n hx hb dX0_missesTogether_65 rfl (lv_at hl 0 rfl) ?_
    cases h
    exact ret_i hx hb hr rfl hQ hlocks hK hP hD hS dX0_missesTogether_66
  · intro k_3 K_4 h
    have L_5 : ∀ (n : Nat) (x2_1 : Int32) (x3_2 : Int32) (H : Heap) (locs : List Loc) (ls : Array Slot), VP G (sW ap ad la fa ra kc c_greys c_remembered c_columns c_rows c_settings c_reached c_order c_merged c_least c_greatest c_role c_head c_tail c_rank c_kindFrom c_kindTo c_side c_across c_down c_count c_flats c_crowded c_kinds c_first c_second c_pairs c_pairsWith c_voted c_ways c_shcount c_numberOfWay c_list c_fcount c_regions c_left c_open c_frows c_fshift c_fdx c_fdy c_fleastPlace c_fpairs c_foffset c_fplacesFirst c_fplaces) H → va_D A (sW ap ad la fa ra kc c_greys c_remembered c_columns c_rows c_settings c_reached c_order c_merged c_least c_greatest c_role c_head c_tail c_rank c_kindFrom c_kindTo c_side c_across c_down c_count c_flats c_crowded c_kinds c_first c_second c_pairs c_pairsWith c_voted c_ways c_shcount c_numberOfWay c_list c_fcount c_regions c_left c_open c_frows c_fshift c_fdx c_fdy c_fleastPlace c_fpairs c_foffset c_fplacesFirst c_fplaces) → va_S A s.heap H locs → lv_has ls 5 [(0, .ref (fa j_this)), (1, .ref (ap 0)), (2, .int x2_1), (3, .int x3_2)] → f_X0_missesTogether_L4 FU c_greys c_columns c_rows c_frows c_fdx c_fdy c_foffset j_this k_3 n x2_1 x3_2 = some r → WW p l e (rmq 2 47) s m args below meth c Q H locs 4 ls [] := by
      intro n
      induction n with
      | zero => intro x2_1 x3_2 H locs ls hP hD hS hl h; rw [f_X0_missesTogether_L4] at h; cases h
      | succ n ih =>
        intro x2_1 x3_2 H locs ls hP hD hS hl h
        rw [f_X0_missesTogether_L4] at h
        refine lv_iload_n hx hb dX0_missesTogether_4 rfl (lv_at hl 3 rfl) ?_
        refine lv_bipush (v := 16) hx hb dX0_missesTogether_5 (by decide) ?_
        refine lv_icmp_ge (tgt := 65) hx hb dX0_missesTogether_7 (by decide) (fun q_18 => ?_) (fun q_18 => ?_)
        · have h := it_t q_18 h
          exact K_4 x2_1 x3_2 _ _ _ hP hD hS (lv_sub hl [2] rfl) h
        · have h := it_f q_18 h
          refine lv_iconst (v := 0) hx hb dX0_missesTogether_10 (by decide) ?_
          refine lv_istore (lv' := [(4, .int 0), (0, .ref (fa j_this)), (1, .ref (ap 0)), (2, .int x2_1), (3, .int x3_2)]) hx hb dX0_missesTogether_11 hl (by decide) rfl (fun ls hl => ?_)
          refine jn_w (t := fun k => f_X0_missesTogether_L13 FU x3_2 c_greys c_columns c_rows c_frows c_fdx c_fdy c_foffset j_this k FU x2_1 0) (fun (k : Int32 → Int32 → Option (Int32)) => ∀ (x2_6 : Int32) (x4_7 : Int32) (H : Heap) (locs : List Loc) (ls : Array Slot), VP G (sW ap ad la fa ra kc c_greys c_remembered c_columns c_rows c_settings c_reached c_order c_merged c_least c_greatest c_role c_head c_tail c_rank c_kindFrom c_kindTo c_side c_across c_down c_count c_flats c_crowded c_kinds c_first c_second c_pairs c_pairsWith c_voted c_ways c_shcount c_numberOfWay c_list c_fcount c_regions c_left c_open c_frows c_fshift c_fdx c_fdy c_fleastPlace c_fpairs c_foffset c_fplacesFirst c_fplaces) H → va_D A (sW ap ad la fa ra kc c_greys c_remembered c_columns c_rows c_settings c_reached c_order c_merged c_least c_greatest c_role c_head c_tail c_rank c_kindFrom c_kindTo c_side c_across c_down c_count c_flats c_crowded c_kinds c_first c_second c_pairs c_pairsWith c_voted c_ways c_shcount c_numberOfWay c_list c_fcount c_regions c_left c_open c_frows c_fshift c_fdx c_fdy c_fleastPlace c_fpairs c_foffset c_fplacesFirst c_fplaces) → va_S A s.heap H locs → lv_has ls 5 [(0, .ref (fa j_this)), (1, .ref (ap 0)), (2, .int x2_6), (3, .int x3_2)] → k x2_6 x4_7 = some r → WW p l e (rmq 2 47) s m args below meth c Q H locs 59 ls []) h ?_ ?_
          · intro x2_6 x4_7 H locs ls hP hD hS hl h
            refine lv_iinc (v := (x3_2 + 1)) (lv' := [(3, .int (x3_2 + 1)), (0, .ref (fa j_this)), (1, .ref (ap 0)), (2, .int x2_6)]) hx hb dX0_missesTogether_59 hl (k := 3) rfl rfl (by decide) rfl (fun ls hl => ?_)
            refine lv_goto (tgt := 4) hx hb dX0_missesTogether_62 (by decide) ?_
            exact ih x2_6 (x3_2 + 1) _ _ _ hP hD hS (lv_sub hl [1, 2, 3, 0] rfl) h
          · intro k_8 K_9 h
            have L_10 : ∀ (n : Nat) (x2_6 : Int32) (x4_7 : Int32) (H : Heap) (locs : List Loc) (ls : Array Slot), VP G (sW ap ad la fa ra kc c_greys c_remembered c_columns c_rows c_settings c_reached c_order c_merged c_least c_greatest c_role c_head c_tail c_rank c_kindFrom c_kindTo c_side c_across c_down c_count c_flats c_crowded c_kinds c_first c_second c_pairs c_pairsWith c_voted c_ways c_shcount c_numberOfWay c_list c_fcount c_regions c_left c_open c_frows c_fshift c_fdx c_fdy c_fleastPlace c_fpairs c_foffset c_fplacesFirst c_fplaces) H → va_D A (sW ap ad la fa ra kc c_greys c_remembered c_columns c_rows c_settings c_reached c_order c_merged c_least c_greatest c_role c_head c_tail c_rank c_kindFrom c_kindTo c_side c_across c_down c_count c_flats c_crowded c_kinds c_first c_second c_pairs c_pairsWith c_voted c_ways c_shcount c_numberOfWay c_list c_fcount c_regions c_left c_open c_frows c_fshift c_fdx c_fdy c_fleastPlace c_fpairs c_foffset c_fplacesFirst c_fplaces) → va_S A s.heap H locs → lv_has ls 5 [(0, .ref (fa j_this)), (1, .ref (ap 0)), (2, .int x2_6), (3, .int x3_2), (4, .int x4_7)] → f_X0_missesTogether_L13 FU x3_2 c_greys c_columns c_rows c_frows c_fdx c_fdy c_foffset j_this k_8 n x2_6 x4_7 = some r → WW p l e (rmq 2 47) s m args below meth c Q H locs 13 ls [] := by
              intro n
              induction n with
              | zero => intro x2_6 x4_7 H locs ls hP hD hS hl h; rw [f_X0_missesTogether_L13] at h; cases h
              | succ n ih =>
                intro x2_6 x4_7 H locs ls hP hD hS hl h
                rw [f_X0_missesTogether_L13] at h
                refine lv_iload hx hb dX0_missesTogether_13 (lv_at hl 4 rfl) ?_
                refine lv_bipush (v := 16) hx hb dX0_missesTogether_15 (by decide) ?_
                refine lv_icmp_ge (tgt := 59) hx hb dX0_missesTogether_17 (by decide) (fun q_17 => ?_) (fun q_17 => ?_)
                · have h := it_t q_17 h
                  exact K_9 x2_6 x4_7 _ _ _ hP hD hS (lv_sub hl [0, 1, 2, 3] rfl) h
                · have h := it_f q_17 h
                  refine lv_iload_n hx hb dX0_missesTogether_20 rfl (lv_at hl 2 rfl) ?_
                  refine lv_aload_n hx hb dX0_missesTogether_21 rfl (lv_at hl 0 rfl) ?_
                  refine r_get S gf_X0_9 hK hP (36 + j_this) (sW_f hj_this) rfl dX0_missesTogether_22 ?_
                  refine lv_iload_n hx hb dX0_missesTogether_25 rfl (lv_at hl 3 rfl) ?_
                  refine r_iald hx hb hK hP (61 + j_this) (sW_r hj_this) dX0_missesTogether_26 h (fun y_11 h => ?_)
                  refine lv_iload hx hb dX0_missesTogether_27 (lv_at hl 4 rfl) ?_
                  refine lv_ishr hx hb dX0_missesTogether_29 ?_
                  refine lv_iconst (v := 1) hx hb dX0_missesTogether_30 (by decide) ?_
                  refine lv_iand hx hb dX0_missesTogether_31 ?_
                  refine jn_w (fun (k : Int32 → Option (Int32)) => ∀ (t_12 : Int32) (H : Heap) (locs : List Loc) (ls : Array Slot), VP G (sW ap ad la fa ra kc c_greys c_remembered c_columns c_rows c_settings c_reached c_order c_merged c_least c_greatest c_role c_head c_tail c_rank c_kindFrom c_kindTo c_side c_across c_down c_count c_flats c_crowded c_kinds c_first c_second c_pairs c_pairsWith c_voted c_ways c_shcount c_numberOfWay c_list c_fcount c_regions c_left c_open c_frows c_fshift c_fdx c_fdy c_fleastPlace c_fpairs c_foffset c_fplacesFirst c_fplaces) H → va_D A (sW ap ad la fa ra kc c_greys c_remembered c_columns c_rows c_settings c_reached c_order c_merged c_least c_greatest c_role c_head c_tail c_rank c_kindFrom c_kindTo c_side c_across c_down c_count c_flats c_crowded c_kinds c_first c_second c_pairs c_pairsWith c_voted c_ways c_shcount c_numberOfWay c_list c_fcount c_regions c_left c_open c_frows c_fshift c_fdx c_fdy c_fleastPlace c_fpairs c_foffset c_fplacesFirst c_fplaces) → va_S A s.heap H locs → lv_has ls 5 [(0, .ref (fa j_this)), (1, .ref (ap 0)), (3, .int x3_2), (4, .int x4_7)] → k t_12 = some r → WW p l e (rmq 2 47) s m args below meth c Q H locs 51 ls [.int t_12, .int x2_6]) h ?_ ?_
                  · intro t_12 H locs ls hP hD hS hl h
                    refine lv_iadd hx hb dX0_missesTogether_51 ?_
                    refine lv_istore_n (lv' := [(2, .int (x2_6 + t_12)), (0, .ref (fa j_this)), (1, .ref (ap 0)), (3, .int x3_2), (4, .int x4_7)]) hx hb dX0_missesTogether_52 rfl hl (by decide) rfl (fun ls hl => ?_)
                    refine lv_iinc (v := (x4_7 + 1)) (lv' := [(4, .int (x4_7 + 1)), (2, .int (x2_6 + t_12)), (0, .ref (fa j_this)), (1, .ref (ap 0)), (3, .int x3_2)]) hx hb dX0_missesTogether_53 hl (k := 4) rfl rfl (by decide) rfl (fun ls hl => ?_)
                    refine lv_goto (tgt := 13) hx hb dX0_missesTogether_56 (by decide) ?_
                    exact ih (x2_6 + t_12) (x4_7 + 1) _ _ _ hP hD hS (lv_sub hl [2, 3, 1, 4, 0] rfl) h
                  · intro j_13 J_14 h
                    refine lv_if_eq (tgt := 50) hx hb dX0_missesTogether_32 (by decide) (fun q_16 => ?_) (fun q_16 => ?_)
                    · have h := it_t q_16 h
                      refine lv_iconst (v := 0) hx hb dX0_missesTogether_50 (by decide) ?_
                      exact J_14 0 _ _ _ hP hD hS (lv_sub hl [0, 1, 3, 4] rfl) h
                    · have h := it_f q_16 h
                      refine lv_iconst (v := 0) hx hb dX0_missesTogether_35 (by decide) ?_
                      refine lv_aload_n hx hb dX0_missesTogether_36 rfl (lv_at hl 0 rfl) ?_
                      refine lv_aload_n hx hb dX0_missesTogether_37 rfl (lv_at hl 1 rfl) ?_
                      refine lv_iload hx hb dX0_missesTogether_38 (lv_at hl 4 rfl) ?_
                      refine lv_iload_n hx hb dX0_missesTogether_40 rfl (lv_at hl 3 rfl) ?_
                      obtain ⟨r_15, hq, h⟩ := bd1_e h
                      refine cs_Vi (rest := [.int 0, .int x2_6]) (ci := 0) S hN cb_X0_missOf ml_X0_71 ⟨Nat.le_of_ble_eq_true rfl, Nat.le_of_ble_eq_true rfl⟩ (c_X0_missOf l G kc ap ad la fa ra x4_7 x3_2 hj_this hq) hK hP hD hS hA (36 + j_this) rfl rfl (sW_f hj_this) rfl rfl (Nat.le_of_ble_eq_true rfl) hl.1 dX0_missesTogether_41 (fun H locs hP hD hS => ?_)
                      refine va_mmax hx hb (S.2.2.1.trans hl.1.symm) S.2.2.2.1 (S.2.2.2.2 _ mm_X0_92) (S.2.2.2.2 _ ms_max) (S.2.2.2.2 _ ms_init) (S.2.2.2.2 _ mc_max) (Nat.le_of_ble_eq_true rfl) (Nat.le_of_ble_eq_true rfl) (Nat.zero_le _) (Nat.zero_le _) dX0_missesTogether_44 ?_
                      refine lv_goto (tgt := 51) hx hb dX0_missesTogether_47 (by decide) ?_
                      exact J_14 (if 0 < r_15 then r_15 else 0) _ _ _ hP hD hS (lv_sub hl [0, 1, 3, 4] rfl) h
            exact L_10 FU x2_1 0 _ _ _ hP hD hS (lv_sub hl [1, 2, 3, 4, 0] rfl) h
    exact L_5 FU 0 0 _ _ _ hP hD hS (lv_sub hl [2, 3, 1, 0] rfl) h
set_option maxHeartbeats 1000000 in
set_option maxRecDepth 100000 in
theorem c_X0_rowOf (l : Launch) (G : va_G) (kc : Nat → ClassId) (ap ad la fa ra : Nat → Nat) {c_greys : (Nat → Int32)} {c_remembered : (Nat → Int32)} {c_columns : Int32} {c_rows : Int32} {c_settings : (Nat → Int32)} {c_reached : Int32} {c_order : (Nat → Int32)} {c_merged : (Nat → Int32)} {c_least : (Nat → Int32)} {c_greatest : (Nat → Int32)} {c_role : (Nat → Int32)} {c_head : (Nat → Int64)} {c_tail : (Nat → Int64)} {c_rank : (Nat → Int32)} {c_kindFrom : (Nat → Int32)} {c_kindTo : (Nat → Int32)} {c_side : Int32} {c_across : Int32} {c_down : Int32} {c_count : Int32} {c_flats : Int32} {c_crowded : Int32} {c_kinds : Int32} {c_first : (Nat → Int32)} {c_second : (Nat → Int32)} {c_pairs : Int32} {c_pairsWith : (Nat → Int32)} {c_voted : (Nat → Int32)} {c_ways : (Nat → Int32)} {c_shcount : Int32} {c_numberOfWay : (Nat → Int32)} {c_list : (Nat → Nat)} {c_fcount : Int32} {c_regions : (Nat → Int32)} {c_left : (Nat → Nat → Int32)} {c_open : (Nat → Int32)} {c_frows : (Nat → Nat → Int32)} {c_fshift : (Nat → Int32)} {c_fdx : (Nat → Int32)} {c_fdy : (Nat → Int32)} {c_fleastPlace : (Nat → Int32)} {c_fpairs : (Nat → Int32)} {c_foffset : (Nat → Int32)} {c_fplacesFirst : (Nat → Int32)} {c_fplaces : (Nat → Int32)} (x1 : Int32) {j_this : Nat} (hj_this : j_this < 25) {r : Int32} {FU : Nat} (h : f_X0_rowOf FU c_frows j_this x1 = some r) : CTi l G kc yX0_rowOf cX0_rowOf 2 (some .int) (rmq 1 22) [.ref (fa j_this), .int x1] (sW ap ad la fa ra kc c_greys c_remembered c_columns c_rows c_settings c_reached c_order c_merged c_least c_greatest c_role c_head c_tail c_rank c_kindFrom c_kindTo c_side c_across c_down c_count c_flats c_crowded c_kinds c_first c_second c_pairs c_pairsWith c_voted c_ways c_shcount c_numberOfWay c_list c_fcount c_regions c_left c_open c_frows c_fshift c_fdx c_fdy c_fleastPlace c_fpairs c_foffset c_fplacesFirst c_fplaces) (sW ap ad la fa ra kc c_greys c_remembered c_columns c_rows c_settings c_reached c_order c_merged c_least c_greatest c_role c_head c_tail c_rank c_kindFrom c_kindTo c_side c_across c_down c_count c_flats c_crowded c_kinds c_first c_second c_pairs c_pairsWith c_voted c_ways c_shcount c_numberOfWay c_list c_fcount c_regions c_left c_open c_frows c_fshift c_fdx c_fdy c_fleastPlace c_fpairs c_foffset c_fplacesFirst c_fplaces) r := by
  refine CTi.mk (by decide) (Nat.le_of_ble_eq_true rfl) ?_
  intro p e s m args below meth c A ls Q hQ S hr hlocks hN hA hK hl hP hD hS
  have hx := S.1
  have hb := S.2.1
  have hl : lv_has ls 2 [(0, .ref (fa j_this)), (1, .int x1)] := hl
  unfold f_X0_rowOf at h
  refine lv_iload_n hx hb dX0_rowOf_0 rfl (lv_at hl 1 rfl) ?_
  refine lv_iconst (v := 0) hx hb dX0_rowOf_1 (by decide) ?_
  refine lv_bipush (v := 15) hx hb dX0_rowOf_2 (by decide) ?_
  obtain ⟨r_1, hq, h⟩ := bd1_e h
  refine cn_Si (rest := []) S hN cb_X7_isWithin mn_X0_52 ⟨Nat.le_of_ble_eq_true rfl, Nat.le_of_ble_eq_true rfl⟩ (c_X7_isWithin l G kc x1 0 15 hq) hK hP hD hS hA rfl rfl (Nat.le_of_ble_eq_true rfl) hl.1 dX0_rowOf_4 (fun H locs hP hD hS => ?_)
  refine lv_if_eq (tgt := 19) hx hb dX0_rowOf_7 (by decide) (fun q_3 => ?_) (fun q_3 => ?_)
  · have h := it_t q_3 h
    refine lv_iconst (v := 0) hx hb dX0_rowOf_19 (by decide) ?_
    cases h
    exact ret_i hx hb hr rfl hQ hlocks hK hP hD hS dX0_rowOf_20
  · have h := it_f q_3 h
    refine lv_aload_n hx hb dX0_rowOf_10 rfl (lv_at hl 0 rfl) ?_
    refine r_get S gf_X0_9 hK hP (36 + j_this) (sW_f hj_this) rfl dX0_rowOf_11 ?_
    refine lv_iload_n hx hb dX0_rowOf_14 rfl (lv_at hl 1 rfl) ?_
    refine r_iald hx hb hK hP (61 + j_this) (sW_r hj_this) dX0_rowOf_15 h (fun y_2 h => ?_)
    refine lv_goto (tgt := 20) hx hb dX0_rowOf_16 (by decide) ?_
    cases h
    exact ret_i hx hb hr rfl hQ hlocks hK hP hD hS dX0_rowOf_20
set_option maxHeartbeats 1000000 in
set_option maxRecDepth 100000 in
theorem c_X0_copyRowOf (l : Launch) (G : va_G) (kc : Nat → ClassId) (ap ad la fa ra : Nat → Nat) {c_greys : (Nat → Int32)} {c_remembered : (Nat → Int32)} {c_columns : Int32} {c_rows : Int32} {c_settings : (Nat → Int32)} {c_reached : Int32} {c_order : (Nat → Int32)} {c_merged : (Nat → Int32)} {c_least : (Nat → Int32)} {c_greatest : (Nat → Int32)} {c_role : (Nat → Int32)} {c_head : (Nat → Int64)} {c_tail : (Nat → Int64)} {c_rank : (Nat → Int32)} {c_kindFrom : (Nat → Int32)} {c_kindTo : (Nat → Int32)} {c_side : Int32} {c_across : Int32} {c_down : Int32} {c_count : Int32} {c_flats : Int32} {c_crowded : Int32} {c_kinds : Int32} {c_first : (Nat → Int32)} {c_second : (Nat → Int32)} {c_pairs : Int32} {c_pairsWith : (Nat → Int32)} {c_voted : (Nat → Int32)} {c_ways : (Nat → Int32)} {c_shcount : Int32} {c_numberOfWay : (Nat → Int32)} {c_list : (Nat → Nat)} {c_fcount : Int32} {c_regions : (Nat → Int32)} {c_left : (Nat → Nat → Int32)} {c_open : (Nat → Int32)} {c_frows : (Nat → Nat → Int32)} {c_fshift : (Nat → Int32)} {c_fdx : (Nat → Int32)} {c_fdy : (Nat → Int32)} {c_fleastPlace : (Nat → Int32)} {c_fpairs : (Nat → Int32)} {c_foffset : (Nat → Int32)} {c_fplacesFirst : (Nat → Int32)} {c_fplaces : (Nat → Int32)} (x1 : Int32) {j_this : Nat} (hj_this : j_this < 25) {r : Int32} {FU : Nat} (h : f_X0_copyRowOf FU c_frows c_fdx c_fdy j_this x1 = some r) : CTi l G kc yX0_copyRowOf cX0_copyRowOf 3 (some .int) (rmq 2 43) [.ref (fa j_this), .int x1] (sW ap ad la fa ra kc c_greys c_remembered c_columns c_rows c_settings c_reached c_order c_merged c_least c_greatest c_role c_head c_tail c_rank c_kindFrom c_kindTo c_side c_across c_down c_count c_flats c_crowded c_kinds c_first c_second c_pairs c_pairsWith c_voted c_ways c_shcount c_numberOfWay c_list c_fcount c_regions c_left c_open c_frows c_fshift c_fdx c_fdy c_fleastPlace c_fpairs c_foffset c_fplacesFirst c_fplaces) (sW ap ad la fa ra kc c_greys c_remembered c_columns c_rows c_settings c_reached c_order c_merged c_least c_greatest c_role c_head c_tail c_rank c_kindFrom c_kindTo c_side c_across c_down c_count c_flats c_crowded c_kinds c_first c_second c_pairs c_pairsWith c_voted c_ways c_shcount c_numberOfWay c_list c_fcount c_regions c_left c_open c_frows c_fshift c_fdx c_fdy c_fleastPlace c_fpairs c_foffset c_fplacesFirst c_fplaces) r := by
  refine CTi.mk (by decide) (Nat.le_of_ble_eq_true rfl) ?_
  intro p e s m args below meth c A ls Q hQ S hr hlocks hN hA hK hl hP hD hS
  have hx := S.1
  have hb := S.2.1
  have hl : lv_has ls 3 [(0, .ref (fa j_this)), (1, .int x1)] := hl
  unfold f_X0_copyRowOf at h
  refine lv_aload_n hx hb dX0_copyRowOf_0 rfl (lv_at hl 0 rfl) ?_
  refine lv_iload_n hx hb dX0_copyRowOf_1 rfl (lv_at hl 1 rfl) ?_
  refine lv_aload_n hx hb dX0_copyRowOf_2 rfl (lv_at hl 0 rfl) ?_
  refine r_get S gf_X0_29 hK hP (36 + j_this) (sW_f hj_this) rfl dX0_copyRowOf_3 ?_
  refine lv_isub hx hb dX0_copyRowOf_6 ?_
  obtain ⟨r_1, hq, h⟩ := bd1_e h
  refine cs_Vi (rest := []) (ci := 0) S hN cb_X0_rowOf ml_X0_96 ⟨Nat.le_of_ble_eq_true rfl, Nat.le_of_ble_eq_true rfl⟩ (c_X0_rowOf l G kc ap ad la fa ra (x1 - (c_fdy j_this)) hj_this hq) hK hP hD hS hA (36 + j_this) rfl rfl (sW_f hj_this) rfl rfl (Nat.le_of_ble_eq_true rfl) hl.1 dX0_copyRowOf_7 (fun H locs hP hD hS => ?_)
  refine lv_istore_n (lv' := [(2, .int r_1), (0, .ref (fa j_this)), (1, .int x1)]) hx hb dX0_copyRowOf_10 rfl hl (by decide) rfl (fun ls hl => ?_)
  refine lv_aload_n hx hb dX0_copyRowOf_11 rfl (lv_at hl 1 rfl) ?_
  refine r_get S gf_X0_23 hK hP (36 + j_this) (sW_f hj_this) rfl dX0_copyRowOf_12 ?_
  refine lv_if_ge (tgt := 28) hx hb dX0_copyRowOf_15 (by decide) (fun q_2 => ?_) (fun q_2 => ?_)
  · have h := it_t q_2 h
    refine lv_iload_n hx hb dX0_copyRowOf_28 rfl (lv_at hl 0 rfl) ?_
    refine lv_aload_n hx hb dX0_copyRowOf_29 rfl (lv_at hl 1 rfl) ?_
    refine r_get S gf_X0_23 hK hP (36 + j_this) (sW_f hj_this) rfl dX0_copyRowOf_30 ?_
    refine lv_ishl hx hb dX0_copyRowOf_33 ?_
    cases h
    exact ret_i hx hb hr rfl hQ hlocks hK hP hD hS dX0_copyRowOf_34
  · have h := it_f q_2 h
    refine lv_iload_n hx hb dX0_copyRowOf_18 rfl (lv_at hl 0 rfl) ?_
    refine lv_aload_n hx hb dX0_copyRowOf_19 rfl (lv_at hl 1 rfl) ?_
    refine r_get S gf_X0_23 hK hP (36 + j_this) (sW_f hj_this) rfl dX0_copyRowOf_20 ?_
    refine lv_ineg hx hb dX0_copyRowOf_23 ?_
    refine lv_ishr hx hb dX0_copyRowOf_24 ?_
    refine lv_goto (tgt := 34) hx hb dX0_copyRowOf_25 (by decide) ?_
    cases h
    exact ret_i hx hb hr rfl hQ hlocks hK hP hD hS dX0_copyRowOf_34
set_option maxHeartbeats 1000000 in
set_option maxRecDepth 100000 in
theorem c_X0_isAhead (l : Launch) (G : va_G) (kc : Nat → ClassId) (ap ad la fa ra : Nat → Nat) {c_greys : (Nat → Int32)} {c_remembered : (Nat → Int32)} {c_columns : Int32} {c_rows : Int32} {c_settings : (Nat → Int32)} {c_reached : Int32} {c_order : (Nat → Int32)} {c_merged : (Nat → Int32)} {c_least : (Nat → Int32)} {c_greatest : (Nat → Int32)} {c_role : (Nat → Int32)} {c_head : (Nat → Int64)} {c_tail : (Nat → Int64)} {c_rank : (Nat → Int32)} {c_kindFrom : (Nat → Int32)} {c_kindTo : (Nat → Int32)} {c_side : Int32} {c_across : Int32} {c_down : Int32} {c_count : Int32} {c_flats : Int32} {c_crowded : Int32} {c_kinds : Int32} {c_first : (Nat → Int32)} {c_second : (Nat → Int32)} {c_pairs : Int32} {c_pairsWith : (Nat → Int32)} {c_voted : (Nat → Int32)} {c_ways : (Nat → Int32)} {c_shcount : Int32} {c_numberOfWay : (Nat → Int32)} {c_list : (Nat → Nat)} {c_fcount : Int32} {c_regions : (Nat → Int32)} {c_left : (Nat → Nat → Int32)} {c_open : (Nat → Int32)} {c_frows : (Nat → Nat → Int32)} {c_fshift : (Nat → Int32)} {c_fdx : (Nat → Int32)} {c_fdy : (Nat → Int32)} {c_fleastPlace : (Nat → Int32)} {c_fpairs : (Nat → Int32)} {c_foffset : (Nat → Int32)} {c_fplacesFirst : (Nat → Int32)} {c_fplaces : (Nat → Int32)} (x2 : Int32) {j_this : Nat} (hj_this : j_this < 25) {j_a1 : Nat} (hj_a1 : j_a1 < 25) {r : Int32} {FU : Nat} (h : f_X0_isAhead FU c_fshift c_fleastPlace c_fpairs c_fplaces j_this j_a1 x2 = some r) : CTi l G kc yX0_isAhead cX0_isAhead 5 (some .boolean) (rmq 0 0) [.ref (fa j_this), .ref (fa j_a1), .int x2] (sW ap ad la fa ra kc c_greys c_remembered c_columns c_rows c_settings c_reached c_order c_merged c_least c_greatest c_role c_head c_tail c_rank c_kindFrom c_kindTo c_side c_across c_down c_count c_flats c_crowded c_kinds c_first c_second c_pairs c_pairsWith c_voted c_ways c_shcount c_numberOfWay c_list c_fcount c_regions c_left c_open c_frows c_fshift c_fdx c_fdy c_fleastPlace c_fpairs c_foffset c_fplacesFirst c_fplaces) (sW ap ad la fa ra kc c_greys c_remembered c_columns c_rows c_settings c_reached c_order c_merged c_least c_greatest c_role c_head c_tail c_rank c_kindFrom c_kindTo c_side c_across c_down c_count c_flats c_crowded c_kinds c_first c_second c_pairs c_pairsWith c_voted c_ways c_shcount c_numberOfWay c_list c_fcount c_regions c_left c_open c_frows c_fshift c_fdx c_fdy c_fleastPlace c_fpairs c_foffset c_fplacesFirst c_fplaces) r := by
  refine CTi.mk (by decide) (Nat.le_of_ble_eq_true rfl) ?_
  intro p e s m args below meth c A ls Q hQ S hr hlocks hN hA hK hl hP hD hS
  have hx := S.1
  have hb := S.2.1
  have hl : lv_has ls 5 [(0, .ref (fa j_this)), (1, .ref (fa j_a1)), (2, .int x2)] := hl
  unfold f_X0_isAhead at h
  refine lv_iload_n hx hb dX0_isAhead_0 rfl (lv_at hl 2 rfl) ?_
  refine jn_w (fun (k : Int32 → Option (Int32)) => ∀ (t_1 : Int32) (H : Heap) (locs : List Loc) (ls : Array Slot), VP G (sW ap ad la fa ra kc c_greys c_remembered c_columns c_rows c_settings c_reached c_order c_merged c_least c_greatest c_role c_head c_tail c_rank c_kindFrom c_kindTo c_side c_across c_down c_count c_flats c_crowded c_kinds c_first c_second c_pairs c_pairsWith c_voted c_ways c_shcount c_numberOfWay c_list c_fcount c_regions c_left c_open c_frows c_fshift c_fdx c_fdy c_fleastPlace c_fpairs c_foffset c_fplacesFirst c_fplaces) H → va_D A (sW ap ad la fa ra kc c_greys c_remembered c_columns c_rows c_settings c_reached c_order c_merged c_least c_greatest c_role c_head c_tail c_rank c_kindFrom c_kindTo c_side c_across c_down c_count c_flats c_crowded c_kinds c_first c_second c_pairs c_pairsWith c_voted c_ways c_shcount c_numberOfWay c_list c_fcount c_regions c_left c_open c_frows c_fshift c_fdx c_fdy c_fleastPlace c_fpairs c_foffset c_fplacesFirst c_fplaces) → va_S A s.heap H locs → lv_has ls 5 [(0, .ref (fa j_this)), (1, .ref (fa j_a1)), (2, .int x2)] → k t_1 = some r → WW p l e (rmq 0 0) s m args below meth c Q H locs 15 ls [.int t_1]) h ?_ ?_
  · intro t_1 H locs ls hP hD hS hl h
    refine lv_istore_n (lv' := [(3, .int t_1), (0, .ref (fa j_this)), (1, .ref (fa j_a1)), (2, .int x2)]) hx hb dX0_isAhead_15 rfl hl (by decide) rfl (fun ls hl => ?_)
    refine lv_iload_n hx hb dX0_isAhead_16 rfl (lv_at hl 3 rfl) ?_
    refine jn_w (fun (k : Int32 → Option (Int32)) => ∀ (t_4 : Int32) (H : Heap) (locs : List Loc) (ls : Array Slot), VP G (sW ap ad la fa ra kc c_greys c_remembered c_columns c_rows c_settings c_reached c_order c_merged c_least c_greatest c_role c_head c_tail c_rank c_kindFrom c_kindTo c_side c_across c_down c_count c_flats c_crowded c_kinds c_first c_second c_pairs c_pairsWith c_voted c_ways c_shcount c_numberOfWay c_list c_fcount c_regions c_left c_open c_frows c_fshift c_fdx c_fdy c_fleastPlace c_fpairs c_foffset c_fplacesFirst c_fplaces) H → va_D A (sW ap ad la fa ra kc c_greys c_remembered c_columns c_rows c_settings c_reached c_order c_merged c_least c_greatest c_role c_head c_tail c_rank c_kindFrom c_kindTo c_side c_across c_down c_count c_flats c_crowded c_kinds c_first c_second c_pairs c_pairsWith c_voted c_ways c_shcount c_numberOfWay c_list c_fcount c_regions c_left c_open c_frows c_fshift c_fdx c_fdy c_fleastPlace c_fpairs c_foffset c_fplacesFirst c_fplaces) → va_S A s.heap H locs → lv_has ls 5 [(0, .ref (fa j_this)), (1, .ref (fa j_a1)), (3, .int t_1)] → k t_4 = some r → WW p l e (rmq 0 0) s m args below meth c Q H locs 31 ls [.int t_4]) h ?_ ?_
    · intro t_4 H locs ls hP hD hS hl h
      refine lv_istore (lv' := [(4, .int t_4), (0, .ref (fa j_this)), (1, .ref (fa j_a1)), (3, .int t_1)]) hx hb dX0_isAhead_31 hl (by decide) rfl (fun ls hl => ?_)
      refine lv_iload_n hx hb dX0_isAhead_33 rfl (lv_at hl 3 rfl) ?_
      refine lv_iload hx hb dX0_isAhead_34 (lv_at hl 0 rfl) ?_
      refine lv_icmp_eq (tgt := 51) hx hb dX0_isAhead_36 (by decide) (fun q_11 => ?_) (fun q_11 => ?_)
      · have h := it_t q_11 h
        refine lv_aload_n hx hb dX0_isAhead_51 rfl (lv_at hl 1 rfl) ?_
        refine r_get S gf_X0_15 hK hP (36 + j_this) (sW_f hj_this) rfl dX0_isAhead_52 ?_
        refine lv_aload_n hx hb dX0_isAhead_55 rfl (lv_at hl 2 rfl) ?_
        refine r_get S gf_X0_15 hK hP (36 + j_a1) (sW_f hj_a1) rfl dX0_isAhead_56 ?_
        refine lv_icmp_eq (tgt := 81) hx hb dX0_isAhead_59 (by decide) (fun q_9 => ?_) (fun q_9 => ?_)
        · have h := it_t q_9 h
          refine lv_aload_n hx hb dX0_isAhead_81 rfl (lv_at hl 1 rfl) ?_
          refine r_get S gf_X0_32 hK hP (36 + j_this) (sW_f hj_this) rfl dX0_isAhead_82 ?_
          refine lv_aload_n hx hb dX0_isAhead_85 rfl (lv_at hl 2 rfl) ?_
          refine r_get S gf_X0_32 hK hP (36 + j_a1) (sW_f hj_a1) rfl dX0_isAhead_86 ?_
          refine lv_icmp_ge (tgt := 96) hx hb dX0_isAhead_89 (by decide) (fun q_7 => ?_) (fun q_7 => ?_)
          · have h := it_t q_7 h
            refine lv_iconst (v := 0) hx hb dX0_isAhead_96 (by decide) ?_
            cases h
            exact ret_i hx hb hr rfl hQ hlocks hK hP hD hS dX0_isAhead_97
          · have h := it_f q_7 h
            refine lv_iconst (v := 1) hx hb dX0_isAhead_92 (by decide) ?_
            refine lv_goto (tgt := 97) hx hb dX0_isAhead_93 (by decide) ?_
            cases h
            exact ret_i hx hb hr rfl hQ hlocks hK hP hD hS dX0_isAhead_97
        · have h := it_f q_9 h
          refine lv_aload_n hx hb dX0_isAhead_62 rfl (lv_at hl 1 rfl) ?_
          refine r_get S gf_X0_15 hK hP (36 + j_this) (sW_f hj_this) rfl dX0_isAhead_63 ?_
          refine lv_aload_n hx hb dX0_isAhead_66 rfl (lv_at hl 2 rfl) ?_
          refine r_get S gf_X0_15 hK hP (36 + j_a1) (sW_f hj_a1) rfl dX0_isAhead_67 ?_
          refine lv_icmp_ge (tgt := 77) hx hb dX0_isAhead_70 (by decide) (fun q_8 => ?_) (fun q_8 => ?_)
          · have h := it_t q_8 h
            refine lv_iconst (v := 0) hx hb dX0_isAhead_77 (by decide) ?_
            refine lv_goto (tgt := 97) hx hb dX0_isAhead_78 (by decide) ?_
            cases h
            exact ret_i hx hb hr rfl hQ hlocks hK hP hD hS dX0_isAhead_97
          · have h := it_f q_8 h
            refine lv_iconst (v := 1) hx hb dX0_isAhead_73 (by decide) ?_
            refine lv_goto (tgt := 97) hx hb dX0_isAhead_74 (by decide) ?_
            cases h
            exact ret_i hx hb hr rfl hQ hlocks hK hP hD hS dX0_isAhead_97
      · have h := it_f q_11 h
        refine lv_iload_n hx hb dX0_isAhead_39 rfl (lv_at hl 3 rfl) ?_
        refine lv_iload hx hb dX0_isAhead_40 (lv_at hl 0 rfl) ?_
        refine lv_icmp_le (tgt := 49) hx hb dX0_isAhead_42 (by decide) (fun q_10 => ?_) (fun q_10 => ?_)
        · have h := it_t q_10 h
          refine lv_iconst (v := 0) hx hb dX0_isAhead_49 (by decide) ?_
          cases h
          exact ret_i hx hb hr rfl hQ hlocks hK hP hD hS dX0_isAhead_50
        · have h := it_f q_10 h
          refine lv_iconst (v := 1) hx hb dX0_isAhead_45 (by decide) ?_
          refine lv_goto (tgt := 50) hx hb dX0_isAhead_46 (by decide) ?_
          cases h
          exact ret_i hx hb hr rfl hQ hlocks hK hP hD hS dX0_isAhead_50
    · intro j_5 J_6 h
      refine lv_if_eq (tgt := 27) hx hb dX0_isAhead_17 (by decide) (fun q_12 => ?_) (fun q_12 => ?_)
      · have h := it_t q_12 h
        refine lv_aload_n hx hb dX0_isAhead_27 rfl (lv_at hl 2 rfl) ?_
        refine r_get S gf_X0_49 hK hP (36 + j_a1) (sW_f hj_a1) rfl dX0_isAhead_28 ?_
        exact J_6 (c_fpairs j_a1) _ _ _ hP hD hS (lv_sub hl [1, 2, 0] rfl) h
      · have h := it_f q_12 h
        refine lv_aload_n hx hb dX0_isAhead_20 rfl (lv_at hl 2 rfl) ?_
        refine r_get S gf_X0_75 hK hP (36 + j_a1) (sW_f hj_a1) rfl dX0_isAhead_21 ?_
        refine lv_goto (tgt := 31) hx hb dX0_isAhead_24 (by decide) ?_
        exact J_6 (c_fplaces j_a1) _ _ _ hP hD hS (lv_sub hl [1, 2, 0] rfl) h
  · intro j_2 J_3 h
    refine lv_if_eq (tgt := 11) hx hb dX0_isAhead_1 (by decide) (fun q_13 => ?_) (fun q_13 => ?_)
    · have h := it_t q_13 h
      refine lv_aload_n hx hb dX0_isAhead_11 rfl (lv_at hl 0 rfl) ?_
      refine r_get S gf_X0_49 hK hP (36 + j_this) (sW_f hj_this) rfl dX0_isAhead_12 ?_
      exact J_3 (c_fpairs j_this) _ _ _ hP hD hS (lv_sub hl [0, 1, 2] rfl) h
    · have h := it_f q_13 h
      refine lv_aload_n hx hb dX0_isAhead_4 rfl (lv_at hl 0 rfl) ?_
      refine r_get S gf_X0_75 hK hP (36 + j_this) (sW_f hj_this) rfl dX0_isAhead_5 ?_
      refine lv_goto (tgt := 15) hx hb dX0_isAhead_8 (by decide) ?_
      exact J_3 (c_fplaces j_this) _ _ _ hP hD hS (lv_sub hl [0, 1, 2] rfl) h
set_option maxHeartbeats 1000000 in
set_option maxRecDepth 100000 in
theorem c_X7_wayOf (l : Launch) (G : va_G) (kc : Nat → ClassId)   (x0 : Int32) (x1 : Int32) {r : Int32} {FU : Nat} (h : f_X7_wayOf FU x0 x1 = some r) : CTi l G kc yX7_wayOf cX7_wayOf 2 (some .int) (rmq 0 0) [.int x0, .int x1] ([]) ([]) r := by
  refine CTi.mk (by decide) (Nat.le_of_ble_eq_true rfl) ?_
  intro p e s m args below meth c A ls Q hQ S hr hlocks hN hA hK hl hP hD hS
  have hx := S.1
  have hb := S.2.1
  have hl : lv_has ls 2 [(0, .int x0), (1, .int x1)] := hl
  unfold f_X7_wayOf at h
  refine lv_bipush (v := 31) hx hb dX7_wayOf_0 (by decide) ?_
  refine lv_iload_n hx hb dX7_wayOf_2 rfl (lv_at hl 1 rfl) ?_
  refine lv_imul hx hb dX7_wayOf_3 ?_
  refine lv_iload_n hx hb dX7_wayOf_4 rfl (lv_at hl 0 rfl) ?_
  refine lv_iadd hx hb dX7_wayOf_5 ?_
  refine lv_bipush (v := 15) hx hb dX7_wayOf_6 (by decide) ?_
  refine lv_iadd hx hb dX7_wayOf_8 ?_
  cases h
  exact ret_i hx hb hr rfl hQ hlocks hK hP hD hS dX7_wayOf_9
set_option maxHeartbeats 1000000 in
set_option maxRecDepth 100000 in
theorem c_X4_shiftOfPair (l : Launch) (G : va_G) (kc : Nat → ClassId) (ap ad la fa ra : Nat → Nat) {c_greys : (Nat → Int32)} {c_remembered : (Nat → Int32)} {c_columns : Int32} {c_rows : Int32} {c_settings : (Nat → Int32)} {c_reached : Int32} {c_order : (Nat → Int32)} {c_merged : (Nat → Int32)} {c_least : (Nat → Int32)} {c_greatest : (Nat → Int32)} {c_role : (Nat → Int32)} {c_head : (Nat → Int64)} {c_tail : (Nat → Int64)} {c_rank : (Nat → Int32)} {c_kindFrom : (Nat → Int32)} {c_kindTo : (Nat → Int32)} {c_side : Int32} {c_across : Int32} {c_down : Int32} {c_count : Int32} {c_flats : Int32} {c_crowded : Int32} {c_kinds : Int32} {c_first : (Nat → Int32)} {c_second : (Nat → Int32)} {c_pairs : Int32} {c_pairsWith : (Nat → Int32)} {c_voted : (Nat → Int32)} {c_ways : (Nat → Int32)} {c_shcount : Int32} {c_numberOfWay : (Nat → Int32)} {c_list : (Nat → Nat)} {c_fcount : Int32} {c_regions : (Nat → Int32)} {c_left : (Nat → Nat → Int32)} {c_open : (Nat → Int32)} {c_frows : (Nat → Nat → Int32)} {c_fshift : (Nat → Int32)} {c_fdx : (Nat → Int32)} {c_fdy : (Nat → Int32)} {c_fleastPlace : (Nat → Int32)} {c_fpairs : (Nat → Int32)} {c_foffset : (Nat → Int32)} {c_fplacesFirst : (Nat → Int32)} {c_fplaces : (Nat → Int32)} (x1 : Int32) {r : Int32} {FU : Nat} (h : f_X4_shiftOfPair FU c_first c_second c_numberOfWay x1 = some r) : CTi l G kc yX4_shiftOfPair cX4_shiftOfPair 4 (some .int) (rmq 1 21) [.ref (ad 13), .int x1] (sW ap ad la fa ra kc c_greys c_remembered c_columns c_rows c_settings c_reached c_order c_merged c_least c_greatest c_role c_head c_tail c_rank c_kindFrom c_kindTo c_side c_across c_down c_count c_flats c_crowded c_kinds c_first c_second c_pairs c_pairsWith c_voted c_ways c_shcount c_numberOfWay c_list c_fcount c_regions c_left c_open c_frows c_fshift c_fdx c_fdy c_fleastPlace c_fpairs c_foffset c_fplacesFirst c_fplaces) (sW ap ad la fa ra kc c_greys c_remembered c_columns c_rows c_settings c_reached c_order c_merged c_least c_greatest c_role c_head c_tail c_rank c_kindFrom c_kindTo c_side c_across c_down c_count c_flats c_crowded c_kinds c_first c_second c_pairs c_pairsWith c_voted c_ways c_shcount c_numberOfWay c_list c_fcount c_regions c_left c_open c_frows c_fshift c_fdx c_fdy c_fleastPlace c_fpairs c_foffset c_fplacesFirst c_fplaces) r := by
  refine CTi.mk (by decide) (Nat.le_of_ble_eq_true rfl) ?_
  intro p e s m args below meth c A ls Q hQ S hr hlocks hN hA hK hl hP hD hS
  have hx := S.1
  have hb := S.2.1
  have hl : lv_has ls 4 [(0, .ref (ad 13)), (1, .int x1)] := hl
  unfold f_X4_shiftOfPair at h
  refine lv_aload_n hx hb dX4_shiftOfPair_0 rfl (lv_at hl 0 rfl) ?_
  refine r_get S gf_X4_15 hK hP 16 rfl rfl dX4_shiftOfPair_1 ?_
  refine lv_iload_n hx hb dX4_shiftOfPair_4 rfl (lv_at hl 1 rfl) ?_
  refine r_iald hx hb hK hP 18 rfl dX4_shiftOfPair_5 h (fun y_1 h => ?_)
  refine lv_bipush (v := 16) hx hb dX4_shiftOfPair_6 (by decide) ?_
  refine lv_irem hx hb dX4_shiftOfPair_8 (by decide) ?_
  refine lv_aload_n hx hb dX4_shiftOfPair_9 rfl (lv_at hl 0 rfl) ?_
  refine r_get S gf_X4_9 hK hP 16 rfl rfl dX4_shiftOfPair_10 ?_
  refine lv_iload_n hx hb dX4_shiftOfPair_13 rfl (lv_at hl 1 rfl) ?_
  refine r_iald hx hb hK hP 17 rfl dX4_shiftOfPair_14 h (fun y_2 h => ?_)
  refine lv_bipush (v := 16) hx hb dX4_shiftOfPair_15 (by decide) ?_
  refine lv_irem hx hb dX4_shiftOfPair_17 (by decide) ?_
  refine lv_isub hx hb dX4_shiftOfPair_18 ?_
  refine lv_istore_n (lv' := [(2, .int ((y_1 - y_1 / 16 * 16) - (y_2 - y_2 / 16 * 16))), (0, .ref (ad 13)), (1, .int x1)]) hx hb dX4_shiftOfPair_19 rfl hl (by decide) rfl (fun ls hl => ?_)
  refine lv_aload_n hx hb dX4_shiftOfPair_20 rfl (lv_at hl 1 rfl) ?_
  refine r_get S gf_X4_15 hK hP 16 rfl rfl dX4_shiftOfPair_21 ?_
  refine lv_iload_n hx hb dX4_shiftOfPair_24 rfl (lv_at hl 2 rfl) ?_
  refine r_iald hx hb hK hP 18 rfl dX4_shiftOfPair_25 h (fun y_3 h => ?_)
  refine lv_bipush (v := 16) hx hb dX4_shiftOfPair_26 (by decide) ?_
  refine lv_idiv hx hb dX4_shiftOfPair_28 (by decide) ?_
  refine lv_aload_n hx hb dX4_shiftOfPair_29 rfl (lv_at hl 1 rfl) ?_
  refine r_get S gf_X4_9 hK hP 16 rfl rfl dX4_shiftOfPair_30 ?_
  refine lv_iload_n hx hb dX4_shiftOfPair_33 rfl (lv_at hl 2 rfl) ?_
  refine r_iald hx hb hK hP 17 rfl dX4_shiftOfPair_34 h (fun y_4 h => ?_)
  refine lv_bipush (v := 16) hx hb dX4_shiftOfPair_35 (by decide) ?_
  refine lv_idiv hx hb dX4_shiftOfPair_37 (by decide) ?_
  refine lv_isub hx hb dX4_shiftOfPair_38 ?_
  refine lv_istore_n (lv' := [(3, .int ((y_3 / 16) - (y_4 / 16))), (2, .int ((y_1 - y_1 / 16 * 16) - (y_2 - y_2 / 16 * 16))), (0, .ref (ad 13)), (1, .int x1)]) hx hb dX4_shiftOfPair_39 rfl hl (by decide) rfl (fun ls hl => ?_)
  refine lv_aload_n hx hb dX4_shiftOfPair_40 rfl (lv_at hl 2 rfl) ?_
  refine r_get S gf_X4_27 hK hP 16 rfl rfl dX4_shiftOfPair_41 ?_
  refine lv_iload_n hx hb dX4_shiftOfPair_44 rfl (lv_at hl 1 rfl) ?_
  refine lv_iload_n hx hb dX4_shiftOfPair_45 rfl (lv_at hl 0 rfl) ?_
  obtain ⟨r_5, hq, h⟩ := bd1_e h
  refine cn_Si (rest := [.ref (ad 19)]) S hN cb_X7_wayOf mn_X4_72 ⟨Nat.le_of_ble_eq_true rfl, Nat.le_of_ble_eq_true rfl⟩ (c_X7_wayOf l G kc ((y_1 - y_1 / 16 * 16) - (y_2 - y_2 / 16 * 16)) ((y_3 / 16) - (y_4 / 16)) hq) hK hP hD hS hA rfl rfl (Nat.le_of_ble_eq_true rfl) hl.1 dX4_shiftOfPair_46 (fun H locs hP hD hS => ?_)
  refine r_iald hx hb hK hP 22 rfl dX4_shiftOfPair_49 h (fun y_6 h => ?_)
  cases h
  exact ret_i hx hb hr rfl hQ hlocks hK hP hD hS dX4_shiftOfPair_50
set_option maxHeartbeats 1000000 in
set_option maxRecDepth 100000 in
theorem c_X1_settle (l : Launch) (G : va_G) (kc : Nat → ClassId) (ap ad la fa ra : Nat → Nat) {c_greys : (Nat → Int32)} {c_remembered : (Nat → Int32)} {c_columns : Int32} {c_rows : Int32} {c_settings : (Nat → Int32)} {c_reached : Int32} {c_order : (Nat → Int32)} {c_merged : (Nat → Int32)} {c_least : (Nat → Int32)} {c_greatest : (Nat → Int32)} {c_role : (Nat → Int32)} {c_head : (Nat → Int64)} {c_tail : (Nat → Int64)} {c_rank : (Nat → Int32)} {c_kindFrom : (Nat → Int32)} {c_kindTo : (Nat → Int32)} {c_side : Int32} {c_across : Int32} {c_down : Int32} {c_count : Int32} {c_flats : Int32} {c_crowded : Int32} {c_kinds : Int32} {c_first : (Nat → Int32)} {c_second : (Nat → Int32)} {c_pairs : Int32} {c_pairsWith : (Nat → Int32)} {c_voted : (Nat → Int32)} {c_ways : (Nat → Int32)} {c_shcount : Int32} {c_numberOfWay : (Nat → Int32)} {c_list : (Nat → Nat)} {c_fcount : Int32} {c_regions : (Nat → Int32)} {c_left : (Nat → Nat → Int32)} {c_open : (Nat → Int32)} {c_frows : (Nat → Nat → Int32)} {c_fshift : (Nat → Int32)} {c_fdx : (Nat → Int32)} {c_fdy : (Nat → Int32)} {c_fleastPlace : (Nat → Int32)} {c_fpairs : (Nat → Int32)} {c_foffset : (Nat → Int32)} {c_fplacesFirst : (Nat → Int32)} {c_fplaces : (Nat → Int32)} (x1 : Int32) (x2 : Int32) {c_list' : (Nat → Nat)} {FU : Nat} (h : f_X1_settle FU c_list c_fshift c_fleastPlace c_fpairs c_fplaces x1 x2 = some c_list') : CTv l G kc yX1_settle cX1_settle 5 none (rmq 1 24) [.ref (ad 20), .int x1, .int x2] (sW ap ad la fa ra kc c_greys c_remembered c_columns c_rows c_settings c_reached c_order c_merged c_least c_greatest c_role c_head c_tail c_rank c_kindFrom c_kindTo c_side c_across c_down c_count c_flats c_crowded c_kinds c_first c_second c_pairs c_pairsWith c_voted c_ways c_shcount c_numberOfWay c_list c_fcount c_regions c_left c_open c_frows c_fshift c_fdx c_fdy c_fleastPlace c_fpairs c_foffset c_fplacesFirst c_fplaces) (sW ap ad la fa ra kc c_greys c_remembered c_columns c_rows c_settings c_reached c_order c_merged c_least c_greatest c_role c_head c_tail c_rank c_kindFrom c_kindTo c_side c_across c_down c_count c_flats c_crowded c_kinds c_first c_second c_pairs c_pairsWith c_voted c_ways c_shcount c_numberOfWay (c_list') c_fcount c_regions c_left c_open c_frows c_fshift c_fdx c_fdy c_fleastPlace c_fpairs c_foffset c_fplacesFirst c_fplaces) := by
  refine CTv.mk (by decide) (Nat.le_of_ble_eq_true rfl) ?_
  intro p e s m args below meth c A ls Q hQ S hr hlocks hN hA hK hl hP hD hS
  have hx := S.1
  have hb := S.2.1
  have hl : lv_has ls 5 [(0, .ref (ad 20)), (1, .int x1), (2, .int x2)] := hl
  unfold f_X1_settle at h
  refine lv_iload_n hx hb dX1_settle_0 rfl (lv_at hl 1 rfl) ?_
  refine lv_istore_n (lv' := [(3, .int x1), (0, .ref (ad 20)), (1, .int x1), (2, .int x2)]) hx hb dX1_settle_1 rfl hl (by decide) rfl (fun ls hl => ?_)
  refine jn_w (t := fun k => f_X1_settle_L2 FU x2 c_fshift c_fleastPlace c_fpairs c_fplaces k FU x1 c_list) (fun (k : Int32 → (Nat → Nat) → Option ((Nat → Nat))) => ∀ (x3_1 : Int32) (c_list_2 : (Nat → Nat)) (H : Heap) (locs : List Loc) (ls : Array Slot), VP G (sW ap ad la fa ra kc c_greys c_remembered c_columns c_rows c_settings c_reached c_order c_merged c_least c_greatest c_role c_head c_tail c_rank c_kindFrom c_kindTo c_side c_across c_down c_count c_flats c_crowded c_kinds c_first c_second c_pairs c_pairsWith c_voted c_ways c_shcount c_numberOfWay c_list_2 c_fcount c_regions c_left c_open c_frows c_fshift c_fdx c_fdy c_fleastPlace c_fpairs c_foffset c_fplacesFirst c_fplaces) H → va_D A (sW ap ad la fa ra kc c_greys c_remembered c_columns c_rows c_settings c_reached c_order c_merged c_least c_greatest c_role c_head c_tail c_rank c_kindFrom c_kindTo c_side c_across c_down c_count c_flats c_crowded c_kinds c_first c_second c_pairs c_pairsWith c_voted c_ways c_shcount c_numberOfWay c_list_2 c_fcount c_regions c_left c_open c_frows c_fshift c_fdx c_fdy c_fleastPlace c_fpairs c_foffset c_fplacesFirst c_fplaces) → va_S A s.heap H locs → lv_has ls 5 [] → k x3_1 c_list_2 = some c_list' → WW p l e (rmq 1 24) s m args below meth c Q H locs 65 ls []) h ?_ ?_
  · intro x3_1 c_list_2 H locs ls hP hD hS hl h
    cases h
    exact ret_v hx hb hr hQ hlocks hK hP hD hS dX1_settle_65
  · intro k_3 K_4 h
    have L_5 : ∀ (n : Nat) (x3_1 : Int32) (c_list_2 : (Nat → Nat)) (H : Heap) (locs : List Loc) (ls : Array Slot), VP G (sW ap ad la fa ra kc c_greys c_remembered c_columns c_rows c_settings c_reached c_order c_merged c_least c_greatest c_role c_head c_tail c_rank c_kindFrom c_kindTo c_side c_across c_down c_count c_flats c_crowded c_kinds c_first c_second c_pairs c_pairsWith c_voted c_ways c_shcount c_numberOfWay c_list_2 c_fcount c_regions c_left c_open c_frows c_fshift c_fdx c_fdy c_fleastPlace c_fpairs c_foffset c_fplacesFirst c_fplaces) H → va_D A (sW ap ad la fa ra kc c_greys c_remembered c_columns c_rows c_settings c_reached c_order c_merged c_least c_greatest c_role c_head c_tail c_rank c_kindFrom c_kindTo c_side c_across c_down c_count c_flats c_crowded c_kinds c_first c_second c_pairs c_pairsWith c_voted c_ways c_shcount c_numberOfWay c_list_2 c_fcount c_regions c_left c_open c_frows c_fshift c_fdx c_fdy c_fleastPlace c_fpairs c_foffset c_fplacesFirst c_fplaces) → va_S A s.heap H locs → lv_has ls 5 [(0, .ref (ad 20)), (2, .int x2), (3, .int x3_1)] → f_X1_settle_L2 FU x2 c_fshift c_fleastPlace c_fpairs c_fplaces k_3 n x3_1 c_list_2 = some c_list' → WW p l e (rmq 1 24) s m args below meth c Q H locs 2 ls [] := by
      intro n
      induction n with
      | zero => intro x3_1 c_list_2 H locs ls hP hD hS hl h; rw [f_X1_settle_L2] at h; cases h
      | succ n ih =>
        intro x3_1 c_list_2 H locs ls hP hD hS hl h
        rw [f_X1_settle_L2] at h
        refine lv_iload_n hx hb dX1_settle_2 rfl (lv_at hl 2 rfl) ?_
        refine lv_if_le (tgt := 65) hx hb dX1_settle_3 (by decide) (fun q_14 => ?_) (fun q_14 => ?_)
        · have h := it_t q_14 h
          exact K_4 x3_1 c_list_2 _ _ _ hP hD hS (lv_sub hl [] rfl) h
        · have h := it_f q_14 h
          refine lv_aload_n hx hb dX1_settle_6 rfl (lv_at hl 0 rfl) ?_
          refine r_get S gf_X1_11 hK hP 23 rfl rfl dX1_settle_7 ?_
          refine lv_iload_n hx hb dX1_settle_10 rfl (lv_at hl 2 rfl) ?_
          refine r_aldq (fa := fa) hx hb hK hP 24 rfl dX1_settle_11 h (fun j_6 h => ?_)
          obtain ⟨hj_6, h⟩ := lt25_e h
          refine lv_aload_n hx hb dX1_settle_12 rfl (lv_at hl 0 rfl) ?_
          refine r_get S gf_X1_11 hK hP 23 rfl rfl dX1_settle_13 ?_
          refine lv_iload_n hx hb dX1_settle_16 rfl (lv_at hl 2 rfl) ?_
          refine lv_iconst (v := 1) hx hb dX1_settle_17 (by decide) ?_
          refine lv_isub hx hb dX1_settle_18 ?_
          refine r_aldq (fa := fa) hx hb hK hP 24 rfl dX1_settle_19 h (fun j_7 h => ?_)
          obtain ⟨hj_7, h⟩ := lt25_e h
          refine lv_iload_n hx hb dX1_settle_20 rfl (lv_at hl 1 rfl) ?_
          obtain ⟨r_8, hq, h⟩ := bd1_e h
          refine cs_Vi (rest := []) (ci := 0) S hN cb_X0_isAhead ml_X1_86 ⟨Nat.le_of_ble_eq_true rfl, Nat.le_of_ble_eq_true rfl⟩ (c_X0_isAhead l G kc ap ad la fa ra x2 hj_6 hj_7 hq) hK hP hD hS hA (36 + j_6) rfl rfl (sW_f hj_6) rfl rfl (Nat.le_of_ble_eq_true rfl) hl.1 dX1_settle_21 (fun H locs hP hD hS => ?_)
          refine lv_if_eq (tgt := 65) hx hb dX1_settle_24 (by decide) (fun q_13 => ?_) (fun q_13 => ?_)
          · have h := it_t q_13 h
            exact K_4 x3_1 c_list_2 _ _ _ hP hD hS (lv_sub hl [] rfl) h
          · have h := it_f q_13 h
            refine lv_aload_n hx hb dX1_settle_27 rfl (lv_at hl 0 rfl) ?_
            refine r_get S gf_X1_11 hK hP 23 rfl rfl dX1_settle_28 ?_
            refine lv_iload_n hx hb dX1_settle_31 rfl (lv_at hl 2 rfl) ?_
            refine r_aldq (fa := fa) hx hb hK hP 24 rfl dX1_settle_32 h (fun j_9 h => ?_)
            obtain ⟨hj_9, h⟩ := lt25_e h
            refine lv_astore (lv' := [(4, .ref (fa j_9)), (0, .ref (ad 20)), (2, .int x2), (3, .int x3_1)]) hx hb dX1_settle_33 hl (by decide) rfl (fun ls hl => ?_)
            refine lv_aload_n hx hb dX1_settle_35 rfl (lv_at hl 1 rfl) ?_
            refine r_get S gf_X1_11 hK hP 23 rfl rfl dX1_settle_36 ?_
            refine lv_iload_n hx hb dX1_settle_39 rfl (lv_at hl 3 rfl) ?_
            refine lv_aload_n hx hb dX1_settle_40 rfl (lv_at hl 1 rfl) ?_
            refine r_get S gf_X1_11 hK hP 23 rfl rfl dX1_settle_41 ?_
            refine lv_iload_n hx hb dX1_settle_44 rfl (lv_at hl 3 rfl) ?_
            refine lv_iconst (v := 1) hx hb dX1_settle_45 (by decide) ?_
            refine lv_isub hx hb dX1_settle_46 ?_
            refine r_aldq (fa := fa) hx hb hK hP 24 rfl dX1_settle_47 h (fun j_10 h => ?_)
            obtain ⟨hj_10, h⟩ := lt25_e h
            refine r_astq (fa := fa) hx hb hK hP hD hS 24 (36 + j_10) rfl (sW_f hj_10) dX1_settle_48 h (fun c_list_11 H locs hP hD hS h => ?_)
            have hP : VP G (sW ap ad la fa ra kc c_greys c_remembered c_columns c_rows c_settings c_reached c_order c_merged c_least c_greatest c_role c_head c_tail c_rank c_kindFrom c_kindTo c_side c_across c_down c_count c_flats c_crowded c_kinds c_first c_second c_pairs c_pairsWith c_voted c_ways c_shcount c_numberOfWay c_list_11 c_fcount c_regions c_left c_open c_frows c_fshift c_fdx c_fdy c_fleastPlace c_fpairs c_foffset c_fplacesFirst c_fplaces) H := hP
            have hD : va_D A (sW ap ad la fa ra kc c_greys c_remembered c_columns c_rows c_settings c_reached c_order c_merged c_least c_greatest c_role c_head c_tail c_rank c_kindFrom c_kindTo c_side c_across c_down c_count c_flats c_crowded c_kinds c_first c_second c_pairs c_pairsWith c_voted c_ways c_shcount c_numberOfWay c_list_11 c_fcount c_regions c_left c_open c_frows c_fshift c_fdx c_fdy c_fleastPlace c_fpairs c_foffset c_fplacesFirst c_fplaces) := hD
            refine lv_aload_n hx hb dX1_settle_49 rfl (lv_at hl 1 rfl) ?_
            refine r_get S gf_X1_11 hK hP 23 rfl rfl dX1_settle_50 ?_
            refine lv_iload_n hx hb dX1_settle_53 rfl (lv_at hl 3 rfl) ?_
            refine lv_iconst (v := 1) hx hb dX1_settle_54 (by decide) ?_
            refine lv_isub hx hb dX1_settle_55 ?_
            refine lv_aload hx hb dX1_settle_56 (lv_at hl 0 rfl) ?_
            refine r_astq (fa := fa) hx hb hK hP hD hS 24 (36 + j_9) rfl (sW_f hj_9) dX1_settle_58 h (fun c_list_12 H locs hP hD hS h => ?_)
            have hP : VP G (sW ap ad la fa ra kc c_greys c_remembered c_columns c_rows c_settings c_reached c_order c_merged c_least c_greatest c_role c_head c_tail c_rank c_kindFrom c_kindTo c_side c_across c_down c_count c_flats c_crowded c_kinds c_first c_second c_pairs c_pairsWith c_voted c_ways c_shcount c_numberOfWay c_list_12 c_fcount c_regions c_left c_open c_frows c_fshift c_fdx c_fdy c_fleastPlace c_fpairs c_foffset c_fplacesFirst c_fplaces) H := hP
            have hD : va_D A (sW ap ad la fa ra kc c_greys c_remembered c_columns c_rows c_settings c_reached c_order c_merged c_least c_greatest c_role c_head c_tail c_rank c_kindFrom c_kindTo c_side c_across c_down c_count c_flats c_crowded c_kinds c_first c_second c_pairs c_pairsWith c_voted c_ways c_shcount c_numberOfWay c_list_12 c_fcount c_regions c_left c_open c_frows c_fshift c_fdx c_fdy c_fleastPlace c_fpairs c_foffset c_fplacesFirst c_fplaces) := hD
            refine lv_iinc (v := (x3_1 + (-1))) (lv' := [(3, .int (x3_1 + (-1))), (4, .ref (fa j_9)), (0, .ref (ad 20)), (2, .int x2)]) hx hb dX1_settle_59 hl (k := 3) rfl rfl (by decide) rfl (fun ls hl => ?_)
            refine lv_goto (tgt := 2) hx hb dX1_settle_62 (by decide) ?_
            exact ih (x3_1 + (-1)) c_list_12 _ _ _ hP hD hS (lv_sub hl [2, 3, 0] rfl) h
    exact L_5 FU x1 c_list _ _ _ hP hD hS (lv_sub hl [1, 3, 0] rfl) h
set_option maxHeartbeats 1000000 in
set_option maxRecDepth 100000 in
theorem c_X1_addRegion (l : Launch) (G : va_G) (kc : Nat → ClassId) (ap ad la fa ra : Nat → Nat) {c_greys : (Nat → Int32)} {c_remembered : (Nat → Int32)} {c_columns : Int32} {c_rows : Int32} {c_settings : (Nat → Int32)} {c_reached : Int32} {c_order : (Nat → Int32)} {c_merged : (Nat → Int32)} {c_least : (Nat → Int32)} {c_greatest : (Nat → Int32)} {c_role : (Nat → Int32)} {c_head : (Nat → Int64)} {c_tail : (Nat → Int64)} {c_rank : (Nat → Int32)} {c_kindFrom : (Nat → Int32)} {c_kindTo : (Nat → Int32)} {c_side : Int32} {c_across : Int32} {c_down : Int32} {c_count : Int32} {c_flats : Int32} {c_crowded : Int32} {c_kinds : Int32} {c_first : (Nat → Int32)} {c_second : (Nat → Int32)} {c_pairs : Int32} {c_pairsWith : (Nat → Int32)} {c_voted : (Nat → Int32)} {c_ways : (Nat → Int32)} {c_shcount : Int32} {c_numberOfWay : (Nat → Int32)} {c_list : (Nat → Nat)} {c_fcount : Int32} {c_regions : (Nat → Int32)} {c_left : (Nat → Nat → Int32)} {c_open : (Nat → Int32)} {c_frows : (Nat → Nat → Int32)} {c_fshift : (Nat → Int32)} {c_fdx : (Nat → Int32)} {c_fdy : (Nat → Int32)} {c_fleastPlace : (Nat → Int32)} {c_fpairs : (Nat → Int32)} {c_foffset : (Nat → Int32)} {c_fplacesFirst : (Nat → Int32)} {c_fplaces : (Nat → Int32)} (x1 : Int32) (x2 : Int32) (x3 : Int32) {c_list' : (Nat → Nat)} {c_fcount' : Int32} {c_regions' : (Nat → Int32)} {c_left' : (Nat → Nat → Int32)} {c_frows' : (Nat → Nat → Int32)} {c_fshift' : (Nat → Int32)} {c_fdx' : (Nat → Int32)} {c_fdy' : (Nat → Int32)} {c_fleastPlace' : (Nat → Int32)} {c_fpairs' : (Nat → Int32)} {FU : Nat} (h : f_X1_addRegion FU c_list c_fcount c_regions c_left c_frows c_fshift c_fdx c_fdy c_fleastPlace c_fpairs c_fplaces x1 x2 x3 = some (c_list', c_fcount', c_regions', c_left', c_frows', c_fshift', c_fdx', c_fdy', c_fleastPlace', c_fpairs')) : CTv l G kc yX1_addRegion cX1_addRegion 4 none (rmq 3 75) [.ref (ad 20), .int x1, .int x2, .int x3] (sW ap ad la fa ra kc c_greys c_remembered c_columns c_rows c_settings c_reached c_order c_merged c_least c_greatest c_role c_head c_tail c_rank c_kindFrom c_kindTo c_side c_across c_down c_count c_flats c_crowded c_kinds c_first c_second c_pairs c_pairsWith c_voted c_ways c_shcount c_numberOfWay c_list c_fcount c_regions c_left c_open c_frows c_fshift c_fdx c_fdy c_fleastPlace c_fpairs c_foffset c_fplacesFirst c_fplaces) (sW ap ad la fa ra kc c_greys c_remembered c_columns c_rows c_settings c_reached c_order c_merged c_least c_greatest c_role c_head c_tail c_rank c_kindFrom c_kindTo c_side c_across c_down c_count c_flats c_crowded c_kinds c_first c_second c_pairs c_pairsWith c_voted c_ways c_shcount c_numberOfWay (c_list') (c_fcount') (c_regions') (c_left') c_open (c_frows') (c_fshift') (c_fdx') (c_fdy') (c_fleastPlace') (c_fpairs') c_foffset c_fplacesFirst c_fplaces) := by
  refine CTv.mk (by decide) (Nat.le_of_ble_eq_true rfl) ?_
  intro p e s m args below meth c A ls Q hQ S hr hlocks hN hA hK hl hP hD hS
  have hx := S.1
  have hb := S.2.1
  have hl : lv_has ls 4 [(0, .ref (ad 20)), (1, .int x1), (2, .int x2), (3, .int x3)] := hl
  unfold f_X1_addRegion at h
  refine lv_aload_n hx hb dX1_addRegion_0 rfl (lv_at hl 0 rfl) ?_
  refine r_get S gf_X1_11 hK hP 23 rfl rfl dX1_addRegion_1 ?_
  refine lv_aload_n hx hb dX1_addRegion_4 rfl (lv_at hl 0 rfl) ?_
  refine r_get S gf_X1_30 hK hP 23 rfl rfl dX1_addRegion_5 ?_
  refine r_aldq (fa := fa) hx hb hK hP 24 rfl dX1_addRegion_8 h (fun j_1 h => ?_)
  obtain ⟨hj_1, h⟩ := lt25_e h
  refine lv_iload_n hx hb dX1_addRegion_9 rfl (lv_at hl 1 rfl) ?_
  refine lv_iload_n hx hb dX1_addRegion_10 rfl (lv_at hl 2 rfl) ?_
  refine lv_iload_n hx hb dX1_addRegion_11 rfl (lv_at hl 3 rfl) ?_
  refine lv_aload_n hx hb dX1_addRegion_12 rfl (lv_at hl 0 rfl) ?_
  refine r_get S gf_X1_23 hK hP 23 rfl rfl dX1_addRegion_13 ?_
  refine lv_iload_n hx hb dX1_addRegion_16 rfl (lv_at hl 1 rfl) ?_
  refine r_aldl (la := la) hx hb hK hP 26 rfl dX1_addRegion_17 h (fun s_2 h => ?_)
  obtain ⟨hs_2, h⟩ := lt25_e h
  obtain ⟨c_left_3, c_frows_4, c_fshift_5, c_fdx_6, c_fdy_7, c_fleastPlace_8, c_fpairs_9, hq, h⟩ := bd7_e h
  refine cs_Vv (rest := []) (ci := 0) S hN cb_X0_begin ml_X1_64 ⟨Nat.le_of_ble_eq_true rfl, Nat.le_of_ble_eq_true rfl⟩ (c_X0_begin l G kc ap ad la fa ra x1 x2 x3 hj_1 hs_2 hq) hK hP hD hS hA (36 + j_1) rfl rfl (sW_f hj_1) rfl rfl (Nat.le_of_ble_eq_true rfl) hl.1 dX1_addRegion_18 (fun H locs hP hD hS => ?_)
  refine lv_aload_n hx hb dX1_addRegion_21 rfl (lv_at hl 0 rfl) ?_
  refine lv_aload_n hx hb dX1_addRegion_22 rfl (lv_at hl 0 rfl) ?_
  refine r_get S gf_X1_30 hK hP 23 rfl rfl dX1_addRegion_23 ?_
  refine lv_iconst (v := 0) hx hb dX1_addRegion_26 (by decide) ?_
  obtain ⟨c_list_10, hq, h⟩ := bd1_e h
  refine cs_Vv (rest := []) (ci := 1) S hN cb_X1_settle ml_X1_68 ⟨Nat.le_of_ble_eq_true rfl, Nat.le_of_ble_eq_true rfl⟩ (c_X1_settle l G kc ap ad la fa ra c_fcount 0  hq) hK hP hD hS hA 23 rfl rfl rfl rfl rfl (Nat.le_of_ble_eq_true rfl) hl.1 dX1_addRegion_27 (fun H locs hP hD hS => ?_)
  refine lv_aload_n hx hb dX1_addRegion_30 rfl (lv_at hl 0 rfl) ?_
  refine r_get S gf_X1_17 hK hP 23 rfl rfl dX1_addRegion_31 ?_
  refine lv_iload_n hx hb dX1_addRegion_34 rfl (lv_at hl 1 rfl) ?_
  refine lv_dup2_11 hx hb dX1_addRegion_35 rfl rfl ?_
  refine r_iald hx hb hK hP 25 rfl dX1_addRegion_36 h (fun y_11 h => ?_)
  refine lv_iconst (v := 1) hx hb dX1_addRegion_37 (by decide) ?_
  refine lv_iadd hx hb dX1_addRegion_38 ?_
  refine r_iast hx hb hK hP hD hS 25 rfl dX1_addRegion_39 h (fun c_regions_12 H locs hP hD hS h => ?_)
  have hP : VP G (sW ap ad la fa ra kc c_greys c_remembered c_columns c_rows c_settings c_reached c_order c_merged c_least c_greatest c_role c_head c_tail c_rank c_kindFrom c_kindTo c_side c_across c_down c_count c_flats c_crowded c_kinds c_first c_second c_pairs c_pairsWith c_voted c_ways c_shcount c_numberOfWay c_list_10 c_fcount c_regions_12 c_left_3 c_open c_frows_4 c_fshift_5 c_fdx_6 c_fdy_7 c_fleastPlace_8 c_fpairs_9 c_foffset c_fplacesFirst c_fplaces) H := hP
  have hD : va_D A (sW ap ad la fa ra kc c_greys c_remembered c_columns c_rows c_settings c_reached c_order c_merged c_least c_greatest c_role c_head c_tail c_rank c_kindFrom c_kindTo c_side c_across c_down c_count c_flats c_crowded c_kinds c_first c_second c_pairs c_pairsWith c_voted c_ways c_shcount c_numberOfWay c_list_10 c_fcount c_regions_12 c_left_3 c_open c_frows_4 c_fshift_5 c_fdx_6 c_fdy_7 c_fleastPlace_8 c_fpairs_9 c_foffset c_fplacesFirst c_fplaces) := hD
  refine lv_aload_n hx hb dX1_addRegion_40 rfl (lv_at hl 0 rfl) ?_
  refine lv_aload_n hx hb dX1_addRegion_41 rfl (lv_at hl 0 rfl) ?_
  refine r_get S gf_X1_30 hK hP 23 rfl rfl dX1_addRegion_42 ?_
  refine lv_iconst (v := 1) hx hb dX1_addRegion_45 (by decide) ?_
  refine lv_iadd hx hb dX1_addRegion_46 ?_
  refine lv_bipush (v := 24) hx hb dX1_addRegion_47 (by decide) ?_
  refine va_mmin hx hb (S.2.2.1.trans hl.1.symm) S.2.2.2.1 (S.2.2.2.2 _ mm_X1_72) (S.2.2.2.2 _ ms_min) (S.2.2.2.2 _ ms_init) (S.2.2.2.2 _ mc_min) (Nat.le_of_ble_eq_true rfl) (Nat.le_of_ble_eq_true rfl) (Nat.zero_le _) (Nat.zero_le _) dX1_addRegion_49 ?_
  refine r_put S pf_X1_30 hK hP hD hS 23 rfl (Nat.le_of_ble_eq_true rfl) dX1_addRegion_52 (fun H locs hP hD hS => ?_)
  have hP : VP G (sW ap ad la fa ra kc c_greys c_remembered c_columns c_rows c_settings c_reached c_order c_merged c_least c_greatest c_role c_head c_tail c_rank c_kindFrom c_kindTo c_side c_across c_down c_count c_flats c_crowded c_kinds c_first c_second c_pairs c_pairsWith c_voted c_ways c_shcount c_numberOfWay c_list_10 (if 24 < (c_fcount + 1) then 24 else (c_fcount + 1)) c_regions_12 c_left_3 c_open c_frows_4 c_fshift_5 c_fdx_6 c_fdy_7 c_fleastPlace_8 c_fpairs_9 c_foffset c_fplacesFirst c_fplaces) H := hP
  have hD : va_D A (sW ap ad la fa ra kc c_greys c_remembered c_columns c_rows c_settings c_reached c_order c_merged c_least c_greatest c_role c_head c_tail c_rank c_kindFrom c_kindTo c_side c_across c_down c_count c_flats c_crowded c_kinds c_first c_second c_pairs c_pairsWith c_voted c_ways c_shcount c_numberOfWay c_list_10 (if 24 < (c_fcount + 1) then 24 else (c_fcount + 1)) c_regions_12 c_left_3 c_open c_frows_4 c_fshift_5 c_fdx_6 c_fdy_7 c_fleastPlace_8 c_fpairs_9 c_foffset c_fplacesFirst c_fplaces) := hD
  cases h
  exact ret_v hx hb hr hQ hlocks hK hP hD hS dX1_addRegion_55
set_option maxHeartbeats 1000000 in
set_option maxRecDepth 100000 in
theorem c_X1_gather (l : Launch) (G : va_G) (kc : Nat → ClassId) (ap ad la fa ra : Nat → Nat) {c_greys : (Nat → Int32)} {c_remembered : (Nat → Int32)} {c_columns : Int32} {c_rows : Int32} {c_settings : (Nat → Int32)} {c_reached : Int32} {c_order : (Nat → Int32)} {c_merged : (Nat → Int32)} {c_least : (Nat → Int32)} {c_greatest : (Nat → Int32)} {c_role : (Nat → Int32)} {c_head : (Nat → Int64)} {c_tail : (Nat → Int64)} {c_rank : (Nat → Int32)} {c_kindFrom : (Nat → Int32)} {c_kindTo : (Nat → Int32)} {c_side : Int32} {c_across : Int32} {c_down : Int32} {c_count : Int32} {c_flats : Int32} {c_crowded : Int32} {c_kinds : Int32} {c_first : (Nat → Int32)} {c_second : (Nat → Int32)} {c_pairs : Int32} {c_pairsWith : (Nat → Int32)} {c_voted : (Nat → Int32)} {c_ways : (Nat → Int32)} {c_shcount : Int32} {c_numberOfWay : (Nat → Int32)} {c_list : (Nat → Nat)} {c_fcount : Int32} {c_regions : (Nat → Int32)} {c_left : (Nat → Nat → Int32)} {c_open : (Nat → Int32)} {c_frows : (Nat → Nat → Int32)} {c_fshift : (Nat → Int32)} {c_fdx : (Nat → Int32)} {c_fdy : (Nat → Int32)} {c_fleastPlace : (Nat → Int32)} {c_fpairs : (Nat → Int32)} {c_foffset : (Nat → Int32)} {c_fplacesFirst : (Nat → Int32)} {c_fplaces : (Nat → Int32)}  {c_list' : (Nat → Nat)} {c_fcount' : Int32} {c_regions' : (Nat → Int32)} {c_left' : (Nat → Nat → Int32)} {c_frows' : (Nat → Nat → Int32)} {c_fshift' : (Nat → Int32)} {c_fdx' : (Nat → Int32)} {c_fdy' : (Nat → Int32)} {c_fleastPlace' : (Nat → Int32)} {c_fpairs' : (Nat → Int32)} {FU : Nat} (h : f_X1_gather FU c_first c_second c_pairs c_ways c_shcount c_numberOfWay c_list c_fcount c_regions c_left c_frows c_fshift c_fdx c_fdy c_fleastPlace c_fpairs c_fplaces = some (c_list', c_fcount', c_regions', c_left', c_frows', c_fshift', c_fdx', c_fdy', c_fleastPlace', c_fpairs')) : CTv l G kc yX1_gather cX1_gather 4 none (rmq 4 98) [.ref (ad 20), .ref (ad 13)] (sW ap ad la fa ra kc c_greys c_remembered c_columns c_rows c_settings c_reached c_order c_merged c_least c_greatest c_role c_head c_tail c_rank c_kindFrom c_kindTo c_side c_across c_down c_count c_flats c_crowded c_kinds c_first c_second c_pairs c_pairsWith c_voted c_ways c_shcount c_numberOfWay c_list c_fcount c_regions c_left c_open c_frows c_fshift c_fdx c_fdy c_fleastPlace c_fpairs c_foffset c_fplacesFirst c_fplaces) (sW ap ad la fa ra kc c_greys c_remembered c_columns c_rows c_settings c_reached c_order c_merged c_least c_greatest c_role c_head c_tail c_rank c_kindFrom c_kindTo c_side c_across c_down c_count c_flats c_crowded c_kinds c_first c_second c_pairs c_pairsWith c_voted c_ways c_shcount c_numberOfWay (c_list') (c_fcount') (c_regions') (c_left') c_open (c_frows') (c_fshift') (c_fdx') (c_fdy') (c_fleastPlace') (c_fpairs') c_foffset c_fplacesFirst c_fplaces) := by
  refine CTv.mk (by decide) (Nat.le_of_ble_eq_true rfl) ?_
  intro p e s m args below meth c A ls Q hQ S hr hlocks hN hA hK hl hP hD hS
  have hx := S.1
  have hb := S.2.1
  have hl : lv_has ls 4 [(0, .ref (ad 20)), (1, .ref (ad 13))] := hl
  unfold f_X1_gather at h
  refine lv_aload_n hx hb dX1_gather_0 rfl (lv_at hl 0 rfl) ?_
  refine lv_iconst (v := 0) hx hb dX1_gather_1 (by decide) ?_
  refine r_put S pf_X1_30 hK hP hD hS 23 rfl (Nat.le_of_ble_eq_true rfl) dX1_gather_2 (fun H locs hP hD hS => ?_)
  have hP : VP G (sW ap ad la fa ra kc c_greys c_remembered c_columns c_rows c_settings c_reached c_order c_merged c_least c_greatest c_role c_head c_tail c_rank c_kindFrom c_kindTo c_side c_across c_down c_count c_flats c_crowded c_kinds c_first c_second c_pairs c_pairsWith c_voted c_ways c_shcount c_numberOfWay c_list 0 c_regions c_left c_open c_frows c_fshift c_fdx c_fdy c_fleastPlace c_fpairs c_foffset c_fplacesFirst c_fplaces) H := hP
  have hD : va_D A (sW ap ad la fa ra kc c_greys c_remembered c_columns c_rows c_settings c_reached c_order c_merged c_least c_greatest c_role c_head c_tail c_rank c_kindFrom c_kindTo c_side c_across c_down c_count c_flats c_crowded c_kinds c_first c_second c_pairs c_pairsWith c_voted c_ways c_shcount c_numberOfWay c_list 0 c_regions c_left c_open c_frows c_fshift c_fdx c_fdy c_fleastPlace c_fpairs c_foffset c_fplacesFirst c_fplaces) := hD
  refine lv_iconst (v := 0) hx hb dX1_gather_5 (by decide) ?_
  refine lv_istore_n (lv' := [(2, .int 0), (0, .ref (ad 20)), (1, .ref (ad 13))]) hx hb dX1_gather_6 rfl hl (by decide) rfl (fun ls hl => ?_)
  refine jn_w (t := fun k => f_X1_gather_L7 FU  k FU 0 c_regions c_left) (fun (k : Int32 → (Nat → Int32) → (Nat → Nat → Int32) → Option ((Nat → Nat) × Int32 × (Nat → Int32) × (Nat → Nat → Int32) × (Nat → Nat → Int32) × (Nat → Int32) × (Nat → Int32) × (Nat → Int32) × (Nat → Int32) × (Nat → Int32))) => ∀ (x2_1 : Int32) (c_regions_2 : (Nat → Int32)) (c_left_3 : (Nat → Nat → Int32)) (H : Heap) (locs : List Loc) (ls : Array Slot), VP G (sW ap ad la fa ra kc c_greys c_remembered c_columns c_rows c_settings c_reached c_order c_merged c_least c_greatest c_role c_head c_tail c_rank c_kindFrom c_kindTo c_side c_across c_down c_count c_flats c_crowded c_kinds c_first c_second c_pairs c_pairsWith c_voted c_ways c_shcount c_numberOfWay c_list 0 c_regions_2 c_left_3 c_open c_frows c_fshift c_fdx c_fdy c_fleastPlace c_fpairs c_foffset c_fplacesFirst c_fplaces) H → va_D A (sW ap ad la fa ra kc c_greys c_remembered c_columns c_rows c_settings c_reached c_order c_merged c_least c_greatest c_role c_head c_tail c_rank c_kindFrom c_kindTo c_side c_across c_down c_count c_flats c_crowded c_kinds c_first c_second c_pairs c_pairsWith c_voted c_ways c_shcount c_numberOfWay c_list 0 c_regions_2 c_left_3 c_open c_frows c_fshift c_fdx c_fdy c_fleastPlace c_fpairs c_foffset c_fplacesFirst c_fplaces) → va_S A s.heap H locs → lv_has ls 4 [(0, .ref (ad 20)), (1, .ref (ad 13))] → k x2_1 c_regions_2 c_left_3 = some (c_list', c_fcount', c_regions', c_left', c_frows', c_fshift', c_fdx', c_fdy', c_fleastPlace', c_fpairs') → WW p l e (rmq 4 98) s m args below meth c Q H locs 35 ls []) h ?_ ?_
  · intro x2_1 c_regions_2 c_left_3 H locs ls hP hD hS hl h
    refine lv_iconst (v := 0) hx hb dX1_gather_35 (by decide) ?_
    refine lv_istore_n (lv' := [(2, .int 0), (0, .ref (ad 20)), (1, .ref (ad 13))]) hx hb dX1_gather_36 rfl hl (by decide) rfl (fun ls hl => ?_)
    refine jn_w (t := fun k => f_X1_gather_L37 FU c_first c_second c_pairs c_numberOfWay k FU 0 c_left_3) (fun (k : Int32 → (Nat → Nat → Int32) → Option ((Nat → Nat) × Int32 × (Nat → Int32) × (Nat → Nat → Int32) × (Nat → Nat → Int32) × (Nat → Int32) × (Nat → Int32) × (Nat → Int32) × (Nat → Int32) × (Nat → Int32))) => ∀ (x2_7 : Int32) (c_left_8 : (Nat → Nat → Int32)) (H : Heap) (locs : List Loc) (ls : Array Slot), VP G (sW ap ad la fa ra kc c_greys c_remembered c_columns c_rows c_settings c_reached c_order c_merged c_least c_greatest c_role c_head c_tail c_rank c_kindFrom c_kindTo c_side c_across c_down c_count c_flats c_crowded c_kinds c_first c_second c_pairs c_pairsWith c_voted c_ways c_shcount c_numberOfWay c_list 0 c_regions_2 c_left_8 c_open c_frows c_fshift c_fdx c_fdy c_fleastPlace c_fpairs c_foffset c_fplacesFirst c_fplaces) H → va_D A (sW ap ad la fa ra kc c_greys c_remembered c_columns c_rows c_settings c_reached c_order c_merged c_least c_greatest c_role c_head c_tail c_rank c_kindFrom c_kindTo c_side c_across c_down c_count c_flats c_crowded c_kinds c_first c_second c_pairs c_pairsWith c_voted c_ways c_shcount c_numberOfWay c_list 0 c_regions_2 c_left_8 c_open c_frows c_fshift c_fdx c_fdy c_fleastPlace c_fpairs c_foffset c_fplacesFirst c_fplaces) → va_S A s.heap H locs → lv_has ls 4 [(0, .ref (ad 20)), (1, .ref (ad 13))] → k x2_7 c_left_8 = some (c_list', c_fcount', c_regions', c_left', c_frows', c_fshift', c_fdx', c_fdy', c_fleastPlace', c_fpairs') → WW p l e (rmq 4 98) s m args below meth c Q H locs 97 ls []) h ?_ ?_
    · intro x2_7 c_left_8 H locs ls hP hD hS hl h
      refine lv_iconst (v := 0) hx hb dX1_gather_97 (by decide) ?_
      refine lv_istore_n (lv' := [(2, .int 0), (0, .ref (ad 20)), (1, .ref (ad 13))]) hx hb dX1_gather_98 rfl hl (by decide) rfl (fun ls hl => ?_)
      refine jn_w (t := fun k => f_X1_gather_L99 FU c_ways c_shcount c_fplaces k FU 0 c_list 0 c_regions_2 c_left_8 c_frows c_fshift c_fdx c_fdy c_fleastPlace c_fpairs) (fun (k : Int32 → (Nat → Nat) → Int32 → (Nat → Int32) → (Nat → Nat → Int32) → (Nat → Nat → Int32) → (Nat → Int32) → (Nat → Int32) → (Nat → Int32) → (Nat → Int32) → (Nat → Int32) → Option ((Nat → Nat) × Int32 × (Nat → Int32) × (Nat → Nat → Int32) × (Nat → Nat → Int32) × (Nat → Int32) × (Nat → Int32) × (Nat → Int32) × (Nat → Int32) × (Nat → Int32))) => ∀ (x2_12 : Int32) (c_list_13 : (Nat → Nat)) (c_fcount_14 : Int32) (c_regions_15 : (Nat → Int32)) (c_left_16 : (Nat → Nat → Int32)) (c_frows_17 : (Nat → Nat → Int32)) (c_fshift_18 : (Nat → Int32)) (c_fdx_19 : (Nat → Int32)) (c_fdy_20 : (Nat → Int32)) (c_fleastPlace_21 : (Nat → Int32)) (c_fpairs_22 : (Nat → Int32)) (H : Heap) (locs : List Loc) (ls : Array Slot), VP G (sW ap ad la fa ra kc c_greys c_remembered c_columns c_rows c_settings c_reached c_order c_merged c_least c_greatest c_role c_head c_tail c_rank c_kindFrom c_kindTo c_side c_across c_down c_count c_flats c_crowded c_kinds c_first c_second c_pairs c_pairsWith c_voted c_ways c_shcount c_numberOfWay c_list_13 c_fcount_14 c_regions_15 c_left_16 c_open c_frows_17 c_fshift_18 c_fdx_19 c_fdy_20 c_fleastPlace_21 c_fpairs_22 c_foffset c_fplacesFirst c_fplaces) H → va_D A (sW ap ad la fa ra kc c_greys c_remembered c_columns c_rows c_settings c_reached c_order c_merged c_least c_greatest c_role c_head c_tail c_rank c_kindFrom c_kindTo c_side c_across c_down c_count c_flats c_crowded c_kinds c_first c_second c_pairs c_pairsWith c_voted c_ways c_shcount c_numberOfWay c_list_13 c_fcount_14 c_regions_15 c_left_16 c_open c_frows_17 c_fshift_18 c_fdx_19 c_fdy_20 c_fleastPlace_21 c_fpairs_22 c_foffset c_fplacesFirst c_fplaces) → va_S A s.heap H locs → lv_has ls 4 [] → k x2_12 c_list_13 c_fcount_14 c_regions_15 c_left_16 c_frows_17 c_fshift_18 c_fdx_19 c_fdy_20 c_fleastPlace_21 c_fpairs_22 = some (c_list', c_fcount', c_regions', c_left', c_frows', c_fshift', c_fdx', c_fdy', c_fleastPlace', c_fpairs') → WW p l e (rmq 4 98) s m args below meth c Q H locs 161 ls []) h ?_ ?_
      · intro x2_12 c_list_13 c_fcount_14 c_regions_15 c_left_16 c_frows_17 c_fshift_18 c_fdx_19 c_fdy_20 c_fleastPlace_21 c_fpairs_22 H locs ls hP hD hS hl h
        cases h
        exact ret_v hx hb hr hQ hlocks hK hP hD hS dX1_gather_161
      · intro k_23 K_24 h
        have L_25 : ∀ (n : Nat) (x2_12 : Int32) (c_list_13 : (Nat → Nat)) (c_fcount_14 : Int32) (c_regions_15 : (Nat → Int32)) (c_left_16 : (Nat → Nat → Int32)) (c_frows_17 : (Nat → Nat → Int32)) (c_fshift_18 : (Nat → Int32)) (c_fdx_19 : (Nat → Int32)) (c_fdy_20 : (Nat → Int32)) (c_fleastPlace_21 : (Nat → Int32)) (c_fpairs_22 : (Nat → Int32)) (H : Heap) (locs : List Loc) (ls : Array Slot), VP G (sW ap ad la fa ra kc c_greys c_remembered c_columns c_rows c_settings c_reached c_order c_merged c_least c_greatest c_role c_head c_tail c_rank c_kindFrom c_kindTo c_side c_across c_down c_count c_flats c_crowded c_kinds c_first c_second c_pairs c_pairsWith c_voted c_ways c_shcount c_numberOfWay c_list_13 c_fcount_14 c_regions_15 c_left_16 c_open c_frows_17 c_fshift_18 c_fdx_19 c_fdy_20 c_fleastPlace_21 c_fpairs_22 c_foffset c_fplacesFirst c_fplaces) H → va_D A (sW ap ad la fa ra kc c_greys c_remembered c_columns c_rows c_settings c_reached c_order c_merged c_least c_greatest c_role c_head c_tail c_rank c_kindFrom c_kindTo c_side c_across c_down c_count c_flats c_crowded c_kinds c_first c_second c_pairs c_pairsWith c_voted c_ways c_shcount c_numberOfWay c_list_13 c_fcount_14 c_regions_15 c_left_16 c_open c_frows_17 c_fshift_18 c_fdx_19 c_fdy_20 c_fleastPlace_21 c_fpairs_22 c_foffset c_fplacesFirst c_fplaces) → va_S A s.heap H locs → lv_has ls 4 [(0, .ref (ad 20)), (1, .ref (ad 13)), (2, .int x2_12)] → f_X1_gather_L99 FU c_ways c_shcount c_fplaces k_23 n x2_12 c_list_13 c_fcount_14 c_regions_15 c_left_16 c_frows_17 c_fshift_18 c_fdx_19 c_fdy_20 c_fleastPlace_21 c_fpairs_22 = some (c_list', c_fcount', c_regions', c_left', c_frows', c_fshift', c_fdx', c_fdy', c_fleastPlace', c_fpairs') → WW p l e (rmq 4 98) s m args below meth c Q H locs 99 ls [] := by
          intro n
          induction n with
          | zero => intro x2_12 c_list_13 c_fcount_14 c_regions_15 c_left_16 c_frows_17 c_fshift_18 c_fdx_19 c_fdy_20 c_fleastPlace_21 c_fpairs_22 H locs ls hP hD hS hl h; rw [f_X1_gather_L99] at h; cases h
          | succ n ih =>
            intro x2_12 c_list_13 c_fcount_14 c_regions_15 c_left_16 c_frows_17 c_fshift_18 c_fdx_19 c_fdy_20 c_fleastPlace_21 c_fpairs_22 H locs ls hP hD hS hl h
            rw [f_X1_gather_L99] at h
            refine lv_iload_n hx hb dX1_gather_99 rfl (lv_at hl 2 rfl) ?_
            refine lv_aload_n hx hb dX1_gather_100 rfl (lv_at hl 1 rfl) ?_
            refine r_get S gf_X1_56 hK hP 16 rfl rfl dX1_gather_101 ?_
            refine lv_icmp_ge (tgt := 161) hx hb dX1_gather_104 (by decide) (fun q_55 => ?_) (fun q_55 => ?_)
            · have h := it_t q_55 h
              exact K_24 x2_12 c_list_13 c_fcount_14 c_regions_15 c_left_16 c_frows_17 c_fshift_18 c_fdx_19 c_fdy_20 c_fleastPlace_21 c_fpairs_22 _ _ _ hP hD hS (lv_sub hl [] rfl) h
            · have h := it_f q_55 h
              refine lv_iconst (v := 0) hx hb dX1_gather_107 (by decide) ?_
              refine lv_istore_n (lv' := [(3, .int 0), (0, .ref (ad 20)), (1, .ref (ad 13)), (2, .int x2_12)]) hx hb dX1_gather_108 rfl hl (by decide) rfl (fun ls hl => ?_)
              refine jn_w (t := fun k => f_X1_gather_L109 FU x2_12 c_ways c_fplaces k FU 0 c_list_13 c_fcount_14 c_regions_15 c_left_16 c_frows_17 c_fshift_18 c_fdx_19 c_fdy_20 c_fleastPlace_21 c_fpairs_22) (fun (k : Int32 → (Nat → Nat) → Int32 → (Nat → Int32) → (Nat → Nat → Int32) → (Nat → Nat → Int32) → (Nat → Int32) → (Nat → Int32) → (Nat → Int32) → (Nat → Int32) → (Nat → Int32) → Option ((Nat → Nat) × Int32 × (Nat → Int32) × (Nat → Nat → Int32) × (Nat → Nat → Int32) × (Nat → Int32) × (Nat → Int32) × (Nat → Int32) × (Nat → Int32) × (Nat → Int32))) => ∀ (x3_26 : Int32) (c_list_27 : (Nat → Nat)) (c_fcount_28 : Int32) (c_regions_29 : (Nat → Int32)) (c_left_30 : (Nat → Nat → Int32)) (c_frows_31 : (Nat → Nat → Int32)) (c_fshift_32 : (Nat → Int32)) (c_fdx_33 : (Nat → Int32)) (c_fdy_34 : (Nat → Int32)) (c_fleastPlace_35 : (Nat → Int32)) (c_fpairs_36 : (Nat → Int32)) (H : Heap) (locs : List Loc) (ls : Array Slot), VP G (sW ap ad la fa ra kc c_greys c_remembered c_columns c_rows c_settings c_reached c_order c_merged c_least c_greatest c_role c_head c_tail c_rank c_kindFrom c_kindTo c_side c_across c_down c_count c_flats c_crowded c_kinds c_first c_second c_pairs c_pairsWith c_voted c_ways c_shcount c_numberOfWay c_list_27 c_fcount_28 c_regions_29 c_left_30 c_open c_frows_31 c_fshift_32 c_fdx_33 c_fdy_34 c_fleastPlace_35 c_fpairs_36 c_foffset c_fplacesFirst c_fplaces) H → va_D A (sW ap ad la fa ra kc c_greys c_remembered c_columns c_rows c_settings c_reached c_order c_merged c_least c_greatest c_role c_head c_tail c_rank c_kindFrom c_kindTo c_side c_across c_down c_count c_flats c_crowded c_kinds c_first c_second c_pairs c_pairsWith c_voted c_ways c_shcount c_numberOfWay c_list_27 c_fcount_28 c_regions_29 c_left_30 c_open c_frows_31 c_fshift_32 c_fdx_33 c_fdy_34 c_fleastPlace_35 c_fpairs_36 c_foffset c_fplacesFirst c_fplaces) → va_S A s.heap H locs → lv_has ls 4 [(0, .ref (ad 20)), (1, .ref (ad 13)), (2, .int x2_12)] → k x3_26 c_list_27 c_fcount_28 c_regions_29 c_left_30 c_frows_31 c_fshift_32 c_fdx_33 c_fdy_34 c_fleastPlace_35 c_fpairs_36 = some (c_list', c_fcount', c_regions', c_left', c_frows', c_fshift', c_fdx', c_fdy', c_fleastPlace', c_fpairs') → WW p l e (rmq 4 98) s m args below meth c Q H locs 155 ls []) h ?_ ?_
              · intro x3_26 c_list_27 c_fcount_28 c_regions_29 c_left_30 c_frows_31 c_fshift_32 c_fdx_33 c_fdy_34 c_fleastPlace_35 c_fpairs_36 H locs ls hP hD hS hl h
                refine lv_iinc (v := (x2_12 + 1)) (lv' := [(2, .int (x2_12 + 1)), (0, .ref (ad 20)), (1, .ref (ad 13))]) hx hb dX1_gather_155 hl (k := 2) rfl rfl (by decide) rfl (fun ls hl => ?_)
                refine lv_goto (tgt := 99) hx hb dX1_gather_158 (by decide) ?_
                exact ih (x2_12 + 1) c_list_27 c_fcount_28 c_regions_29 c_left_30 c_frows_31 c_fshift_32 c_fdx_33 c_fdy_34 c_fleastPlace_35 c_fpairs_36 _ _ _ hP hD hS (lv_sub hl [1, 2, 0] rfl) h
              · intro k_37 K_38 h
                have L_39 : ∀ (n : Nat) (x3_26 : Int32) (c_list_27 : (Nat → Nat)) (c_fcount_28 : Int32) (c_regions_29 : (Nat → Int32)) (c_left_30 : (Nat → Nat → Int32)) (c_frows_31 : (Nat → Nat → Int32)) (c_fshift_32 : (Nat → Int32)) (c_fdx_33 : (Nat → Int32)) (c_fdy_34 : (Nat → Int32)) (c_fleastPlace_35 : (Nat → Int32)) (c_fpairs_36 : (Nat → Int32)) (H : Heap) (locs : List Loc) (ls : Array Slot), VP G (sW ap ad la fa ra kc c_greys c_remembered c_columns c_rows c_settings c_reached c_order c_merged c_least c_greatest c_role c_head c_tail c_rank c_kindFrom c_kindTo c_side c_across c_down c_count c_flats c_crowded c_kinds c_first c_second c_pairs c_pairsWith c_voted c_ways c_shcount c_numberOfWay c_list_27 c_fcount_28 c_regions_29 c_left_30 c_open c_frows_31 c_fshift_32 c_fdx_33 c_fdy_34 c_fleastPlace_35 c_fpairs_36 c_foffset c_fplacesFirst c_fplaces) H → va_D A (sW ap ad la fa ra kc c_greys c_remembered c_columns c_rows c_settings c_reached c_order c_merged c_least c_greatest c_role c_head c_tail c_rank c_kindFrom c_kindTo c_side c_across c_down c_count c_flats c_crowded c_kinds c_first c_second c_pairs c_pairsWith c_voted c_ways c_shcount c_numberOfWay c_list_27 c_fcount_28 c_regions_29 c_left_30 c_open c_frows_31 c_fshift_32 c_fdx_33 c_fdy_34 c_fleastPlace_35 c_fpairs_36 c_foffset c_fplacesFirst c_fplaces) → va_S A s.heap H locs → lv_has ls 4 [(0, .ref (ad 20)), (1, .ref (ad 13)), (2, .int x2_12), (3, .int x3_26)] → f_X1_gather_L109 FU x2_12 c_ways c_fplaces k_37 n x3_26 c_list_27 c_fcount_28 c_regions_29 c_left_30 c_frows_31 c_fshift_32 c_fdx_33 c_fdy_34 c_fleastPlace_35 c_fpairs_36 = some (c_list', c_fcount', c_regions', c_left', c_frows', c_fshift', c_fdx', c_fdy', c_fleastPlace', c_fpairs') → WW p l e (rmq 4 98) s m args below meth c Q H locs 109 ls [] := by
                  intro n
                  induction n with
                  | zero => intro x3_26 c_list_27 c_fcount_28 c_regions_29 c_left_30 c_frows_31 c_fshift_32 c_fdx_33 c_fdy_34 c_fleastPlace_35 c_fpairs_36 H locs ls hP hD hS hl h; rw [f_X1_gather_L109] at h; cases h
                  | succ n ih =>
                    intro x3_26 c_list_27 c_fcount_28 c_regions_29 c_left_30 c_frows_31 c_fshift_32 c_fdx_33 c_fdy_34 c_fleastPlace_35 c_fpairs_36 H locs ls hP hD hS hl h
                    rw [f_X1_gather_L109] at h
                    refine lv_iload_n hx hb dX1_gather_109 rfl (lv_at hl 3 rfl) ?_
                    refine lv_sipush (v := 256) hx hb dX1_gather_110 (by decide) ?_
                    refine lv_icmp_ge (tgt := 155) hx hb dX1_gather_113 (by decide) (fun q_54 => ?_) (fun q_54 => ?_)
                    · have h := it_t q_54 h
                      exact K_38 x3_26 c_list_27 c_fcount_28 c_regions_29 c_left_30 c_frows_31 c_fshift_32 c_fdx_33 c_fdy_34 c_fleastPlace_35 c_fpairs_36 _ _ _ hP hD hS (lv_sub hl [0, 1, 2] rfl) h
                    · have h := it_f q_54 h
                      refine lv_aload_n hx hb dX1_gather_116 rfl (lv_at hl 0 rfl) ?_
                      refine r_get S gf_X1_23 hK hP 23 rfl rfl dX1_gather_117 ?_
                      refine lv_iload_n hx hb dX1_gather_120 rfl (lv_at hl 2 rfl) ?_
                      refine r_aldl (la := la) hx hb hK hP 26 rfl dX1_gather_121 h (fun s_40 h => ?_)
                      obtain ⟨hs_40, h⟩ := lt25_e h
                      refine lv_iload_n hx hb dX1_gather_122 rfl (lv_at hl 3 rfl) ?_
                      refine lv_bipush (v := 16) hx hb dX1_gather_123 (by decide) ?_
                      refine lv_idiv hx hb dX1_gather_125 (by decide) ?_
                      refine r_iald hx hb hK hP (28 + s_40) (sW_l hs_40) dX1_gather_126 h (fun y_41 h => ?_)
                      refine lv_iload_n hx hb dX1_gather_127 rfl (lv_at hl 3 rfl) ?_
                      refine lv_bipush (v := 16) hx hb dX1_gather_128 (by decide) ?_
                      refine lv_irem hx hb dX1_gather_130 (by decide) ?_
                      refine lv_ishr hx hb dX1_gather_131 ?_
                      refine lv_iconst (v := 1) hx hb dX1_gather_132 (by decide) ?_
                      refine lv_iand hx hb dX1_gather_133 ?_
                      refine lv_if_eq (tgt := 149) hx hb dX1_gather_134 (by decide) (fun q_53 => ?_) (fun q_53 => ?_)
                      · have h := it_t q_53 h
                        refine lv_iinc (v := (x3_26 + 1)) (lv' := [(3, .int (x3_26 + 1)), (0, .ref (ad 20)), (1, .ref (ad 13)), (2, .int x2_12)]) hx hb dX1_gather_149 hl (k := 3) rfl rfl (by decide) rfl (fun ls hl => ?_)
                        refine lv_goto (tgt := 109) hx hb dX1_gather_152 (by decide) ?_
                        exact ih (x3_26 + 1) c_list_27 c_fcount_28 c_regions_29 c_left_30 c_frows_31 c_fshift_32 c_fdx_33 c_fdy_34 c_fleastPlace_35 c_fpairs_36 _ _ _ hP hD hS (lv_sub hl [1, 2, 3, 0] rfl) h
                      · have h := it_f q_53 h
                        refine lv_aload_n hx hb dX1_gather_137 rfl (lv_at hl 0 rfl) ?_
                        refine lv_iload_n hx hb dX1_gather_138 rfl (lv_at hl 2 rfl) ?_
                        refine lv_aload_n hx hb dX1_gather_139 rfl (lv_at hl 1 rfl) ?_
                        refine r_get S gf_X1_57 hK hP 16 rfl rfl dX1_gather_140 ?_
                        refine lv_iload_n hx hb dX1_gather_143 rfl (lv_at hl 2 rfl) ?_
                        refine r_iald hx hb hK hP 21 rfl dX1_gather_144 h (fun y_42 h => ?_)
                        refine lv_iload_n hx hb dX1_gather_145 rfl (lv_at hl 3 rfl) ?_
                        obtain ⟨c_list_43, c_fcount_44, c_regions_45, c_left_46, c_frows_47, c_fshift_48, c_fdx_49, c_fdy_50, c_fleastPlace_51, c_fpairs_52, hq, h⟩ := bd10_e h
                        refine cs_Vv (rest := []) (ci := 1) S hN cb_X1_addRegion ml_X1_60 ⟨Nat.le_of_ble_eq_true rfl, Nat.le_of_ble_eq_true rfl⟩ (c_X1_addRegion l G kc ap ad la fa ra x2_12 y_42 x3_26  hq) hK hP hD hS hA 23 rfl rfl rfl rfl rfl (Nat.le_of_ble_eq_true rfl) hl.1 dX1_gather_146 (fun H locs hP hD hS => ?_)
                        refine lv_iinc (v := (x3_26 + 1)) (lv' := [(3, .int (x3_26 + 1)), (0, .ref (ad 20)), (1, .ref (ad 13)), (2, .int x2_12)]) hx hb dX1_gather_149 hl (k := 3) rfl rfl (by decide) rfl (fun ls hl => ?_)
                        refine lv_goto (tgt := 109) hx hb dX1_gather_152 (by decide) ?_
                        exact ih (x3_26 + 1) c_list_43 c_fcount_44 c_regions_45 c_left_46 c_frows_47 c_fshift_48 c_fdx_49 c_fdy_50 c_fleastPlace_51 c_fpairs_52 _ _ _ hP hD hS (lv_sub hl [1, 2, 3, 0] rfl) h
                exact L_39 FU 0 c_list_13 c_fcount_14 c_regions_15 c_left_16 c_frows_17 c_fshift_18 c_fdx_19 c_fdy_20 c_fleastPlace_21 c_fpairs_22 _ _ _ hP hD hS (lv_sub hl [1, 2, 3, 0] rfl) h
        exact L_25 FU 0 c_list 0 c_regions_2 c_left_8 c_frows c_fshift c_fdx c_fdy c_fleastPlace c_fpairs _ _ _ hP hD hS (lv_sub hl [1, 2, 0] rfl) h
    · intro k_9 K_10 h
      have L_11 : ∀ (n : Nat) (x2_7 : Int32) (c_left_8 : (Nat → Nat → Int32)) (H : Heap) (locs : List Loc) (ls : Array Slot), VP G (sW ap ad la fa ra kc c_greys c_remembered c_columns c_rows c_settings c_reached c_order c_merged c_least c_greatest c_role c_head c_tail c_rank c_kindFrom c_kindTo c_side c_across c_down c_count c_flats c_crowded c_kinds c_first c_second c_pairs c_pairsWith c_voted c_ways c_shcount c_numberOfWay c_list 0 c_regions_2 c_left_8 c_open c_frows c_fshift c_fdx c_fdy c_fleastPlace c_fpairs c_foffset c_fplacesFirst c_fplaces) H → va_D A (sW ap ad la fa ra kc c_greys c_remembered c_columns c_rows c_settings c_reached c_order c_merged c_least c_greatest c_role c_head c_tail c_rank c_kindFrom c_kindTo c_side c_across c_down c_count c_flats c_crowded c_kinds c_first c_second c_pairs c_pairsWith c_voted c_ways c_shcount c_numberOfWay c_list 0 c_regions_2 c_left_8 c_open c_frows c_fshift c_fdx c_fdy c_fleastPlace c_fpairs c_foffset c_fplacesFirst c_fplaces) → va_S A s.heap H locs → lv_has ls 4 [(0, .ref (ad 20)), (1, .ref (ad 13)), (2, .int x2_7)] → f_X1_gather_L37 FU c_first c_second c_pairs c_numberOfWay k_9 n x2_7 c_left_8 = some (c_list', c_fcount', c_regions', c_left', c_frows', c_fshift', c_fdx', c_fdy', c_fleastPlace', c_fpairs') → WW p l e (rmq 4 98) s m args below meth c Q H locs 37 ls [] := by
        intro n
        induction n with
        | zero => intro x2_7 c_left_8 H locs ls hP hD hS hl h; rw [f_X1_gather_L37] at h; cases h
        | succ n ih =>
          intro x2_7 c_left_8 H locs ls hP hD hS hl h
          rw [f_X1_gather_L37] at h
          refine lv_iload_n hx hb dX1_gather_37 rfl (lv_at hl 2 rfl) ?_
          refine lv_aload_n hx hb dX1_gather_38 rfl (lv_at hl 1 rfl) ?_
          refine r_get S gf_X1_40 hK hP 16 rfl rfl dX1_gather_39 ?_
          refine lv_icmp_ge (tgt := 97) hx hb dX1_gather_42 (by decide) (fun q_64 => ?_) (fun q_64 => ?_)
          · have h := it_t q_64 h
            exact K_10 x2_7 c_left_8 _ _ _ hP hD hS (lv_sub hl [0, 1] rfl) h
          · have h := it_f q_64 h
            refine lv_aload_n hx hb dX1_gather_45 rfl (lv_at hl 1 rfl) ?_
            refine lv_iload_n hx hb dX1_gather_46 rfl (lv_at hl 2 rfl) ?_
            obtain ⟨r_56, hq, h⟩ := bd1_e h
            refine cs_Vi (rest := []) (ci := 3) S hN cb_X4_shiftOfPair ml_X1_45 ⟨Nat.le_of_ble_eq_true rfl, Nat.le_of_ble_eq_true rfl⟩ (c_X4_shiftOfPair l G kc ap ad la fa ra x2_7  hq) hK hP hD hS hA 16 rfl rfl rfl rfl rfl (Nat.le_of_ble_eq_true rfl) hl.1 dX1_gather_47 (fun H locs hP hD hS => ?_)
            refine lv_istore_n (lv' := [(3, .int r_56), (0, .ref (ad 20)), (1, .ref (ad 13)), (2, .int x2_7)]) hx hb dX1_gather_50 rfl hl (by decide) rfl (fun ls hl => ?_)
            refine lv_iload_n hx hb dX1_gather_51 rfl (lv_at hl 0 rfl) ?_
            refine lv_iconst (v := 0) hx hb dX1_gather_52 (by decide) ?_
            refine lv_bipush (v := 7) hx hb dX1_gather_53 (by decide) ?_
            obtain ⟨r_57, hq, h⟩ := bd1_e h
            refine cn_Si (rest := []) S hN cb_X7_isWithin mn_X1_49 ⟨Nat.le_of_ble_eq_true rfl, Nat.le_of_ble_eq_true rfl⟩ (c_X7_isWithin l G kc r_56 0 7 hq) hK hP hD hS hA rfl rfl (Nat.le_of_ble_eq_true rfl) hl.1 dX1_gather_55 (fun H locs hP hD hS => ?_)
            refine lv_if_eq (tgt := 91) hx hb dX1_gather_58 (by decide) (fun q_63 => ?_) (fun q_63 => ?_)
            · have h := it_t q_63 h
              refine lv_iinc (v := (x2_7 + 1)) (lv' := [(2, .int (x2_7 + 1)), (3, .int r_56), (0, .ref (ad 20)), (1, .ref (ad 13))]) hx hb dX1_gather_91 hl (k := 3) rfl rfl (by decide) rfl (fun ls hl => ?_)
              refine lv_goto (tgt := 37) hx hb dX1_gather_94 (by decide) ?_
              exact ih (x2_7 + 1) c_left_8 _ _ _ hP hD hS (lv_sub hl [2, 3, 0] rfl) h
            · have h := it_f q_63 h
              refine lv_aload_n hx hb dX1_gather_61 rfl (lv_at hl 1 rfl) ?_
              refine r_get S gf_X1_23 hK hP 23 rfl rfl dX1_gather_62 ?_
              refine lv_iload_n hx hb dX1_gather_65 rfl (lv_at hl 0 rfl) ?_
              refine r_aldl (la := la) hx hb hK hP 26 rfl dX1_gather_66 h (fun s_58 h => ?_)
              obtain ⟨hs_58, h⟩ := lt25_e h
              refine lv_aload_n hx hb dX1_gather_67 rfl (lv_at hl 2 rfl) ?_
              refine r_get S gf_X1_53 hK hP 16 rfl rfl dX1_gather_68 ?_
              refine lv_iload_n hx hb dX1_gather_71 rfl (lv_at hl 3 rfl) ?_
              refine r_iald hx hb hK hP 17 rfl dX1_gather_72 h (fun y_59 h => ?_)
              refine lv_bipush (v := 16) hx hb dX1_gather_73 (by decide) ?_
              refine lv_idiv hx hb dX1_gather_75 (by decide) ?_
              refine lv_dup2_11 hx hb dX1_gather_76 rfl rfl ?_
              refine r_iald hx hb hK hP (28 + s_58) (sW_l hs_58) dX1_gather_77 h (fun y_60 h => ?_)
              refine lv_iconst (v := 1) hx hb dX1_gather_78 (by decide) ?_
              refine lv_aload_n hx hb dX1_gather_79 rfl (lv_at hl 2 rfl) ?_
              refine r_get S gf_X1_53 hK hP 16 rfl rfl dX1_gather_80 ?_
              refine lv_iload_n hx hb dX1_gather_83 rfl (lv_at hl 3 rfl) ?_
              refine r_iald hx hb hK hP 17 rfl dX1_gather_84 h (fun y_61 h => ?_)
              refine lv_bipush (v := 16) hx hb dX1_gather_85 (by decide) ?_
              refine lv_irem hx hb dX1_gather_87 (by decide) ?_
              refine lv_ishl hx hb dX1_gather_88 ?_
              refine lv_ior hx hb dX1_gather_89 ?_
              refine r_iast hx hb hK hP hD hS (28 + s_58) (sW_l hs_58) dX1_gather_90 h (fun g_62 H locs hP hD hS h => ?_)
              have hP : VP G (sW ap ad la fa ra kc c_greys c_remembered c_columns c_rows c_settings c_reached c_order c_merged c_least c_greatest c_role c_head c_tail c_rank c_kindFrom c_kindTo c_side c_across c_down c_count c_flats c_crowded c_kinds c_first c_second c_pairs c_pairsWith c_voted c_ways c_shcount c_numberOfWay c_list 0 c_regions_2 (va_up c_left_8 s_58 g_62) c_open c_frows c_fshift c_fdx c_fdy c_fleastPlace c_fpairs c_foffset c_fplacesFirst c_fplaces) H := eqP (sW_ls hs_58) hP
              have hD : va_D A (sW ap ad la fa ra kc c_greys c_remembered c_columns c_rows c_settings c_reached c_order c_merged c_least c_greatest c_role c_head c_tail c_rank c_kindFrom c_kindTo c_side c_across c_down c_count c_flats c_crowded c_kinds c_first c_second c_pairs c_pairsWith c_voted c_ways c_shcount c_numberOfWay c_list 0 c_regions_2 (va_up c_left_8 s_58 g_62) c_open c_frows c_fshift c_fdx c_fdy c_fleastPlace c_fpairs c_foffset c_fplacesFirst c_fplaces) := eqD (sW_ls hs_58) hD
              refine lv_iinc (v := (x2_7 + 1)) (lv' := [(2, .int (x2_7 + 1)), (3, .int r_56), (0, .ref (ad 20)), (1, .ref (ad 13))]) hx hb dX1_gather_91 hl (k := 3) rfl rfl (by decide) rfl (fun ls hl => ?_)
              refine lv_goto (tgt := 37) hx hb dX1_gather_94 (by decide) ?_
              exact ih (x2_7 + 1) (va_up c_left_8 s_58 g_62) _ _ _ hP hD hS (lv_sub hl [2, 3, 0] rfl) h
      exact L_11 FU 0 c_left_3 _ _ _ hP hD hS (lv_sub hl [1, 2, 0] rfl) h
  · intro k_4 K_5 h
    have L_6 : ∀ (n : Nat) (x2_1 : Int32) (c_regions_2 : (Nat → Int32)) (c_left_3 : (Nat → Nat → Int32)) (H : Heap) (locs : List Loc) (ls : Array Slot), VP G (sW ap ad la fa ra kc c_greys c_remembered c_columns c_rows c_settings c_reached c_order c_merged c_least c_greatest c_role c_head c_tail c_rank c_kindFrom c_kindTo c_side c_across c_down c_count c_flats c_crowded c_kinds c_first c_second c_pairs c_pairsWith c_voted c_ways c_shcount c_numberOfWay c_list 0 c_regions_2 c_left_3 c_open c_frows c_fshift c_fdx c_fdy c_fleastPlace c_fpairs c_foffset c_fplacesFirst c_fplaces) H → va_D A (sW ap ad la fa ra kc c_greys c_remembered c_columns c_rows c_settings c_reached c_order c_merged c_least c_greatest c_role c_head c_tail c_rank c_kindFrom c_kindTo c_side c_across c_down c_count c_flats c_crowded c_kinds c_first c_second c_pairs c_pairsWith c_voted c_ways c_shcount c_numberOfWay c_list 0 c_regions_2 c_left_3 c_open c_frows c_fshift c_fdx c_fdy c_fleastPlace c_fpairs c_foffset c_fplacesFirst c_fplaces) → va_S A s.heap H locs → lv_has ls 4 [(0, .ref (ad 20)), (1, .ref (ad 13)), (2, .int x2_1)] → f_X1_gather_L7 FU  k_4 n x2_1 c_regions_2 c_left_3 = some (c_list', c_fcount', c_regions', c_left', c_frows', c_fshift', c_fdx', c_fdy', c_fleastPlace', c_fpairs') → WW p l e (rmq 4 98) s m args below meth c Q H locs 7 ls [] := by
      intro n
      induction n with
      | zero => intro x2_1 c_regions_2 c_left_3 H locs ls hP hD hS hl h; rw [f_X1_gather_L7] at h; cases h
      | succ n ih =>
        intro x2_1 c_regions_2 c_left_3 H locs ls hP hD hS hl h
        rw [f_X1_gather_L7] at h
        refine lv_iload_n hx hb dX1_gather_7 rfl (lv_at hl 2 rfl) ?_
        refine lv_bipush (v := 8) hx hb dX1_gather_8 (by decide) ?_
        refine lv_icmp_ge (tgt := 35) hx hb dX1_gather_10 (by decide) (fun q_68 => ?_) (fun q_68 => ?_)
        · have h := it_t q_68 h
          exact K_5 x2_1 c_regions_2 c_left_3 _ _ _ hP hD hS (lv_sub hl [0, 1] rfl) h
        · have h := it_f q_68 h
          refine lv_aload_n hx hb dX1_gather_13 rfl (lv_at hl 0 rfl) ?_
          refine r_get S gf_X1_17 hK hP 23 rfl rfl dX1_gather_14 ?_
          refine lv_iload_n hx hb dX1_gather_17 rfl (lv_at hl 2 rfl) ?_
          refine lv_iconst (v := 0) hx hb dX1_gather_18 (by decide) ?_
          refine r_iast hx hb hK hP hD hS 25 rfl dX1_gather_19 h (fun c_regions_65 H locs hP hD hS h => ?_)
          have hP : VP G (sW ap ad la fa ra kc c_greys c_remembered c_columns c_rows c_settings c_reached c_order c_merged c_least c_greatest c_role c_head c_tail c_rank c_kindFrom c_kindTo c_side c_across c_down c_count c_flats c_crowded c_kinds c_first c_second c_pairs c_pairsWith c_voted c_ways c_shcount c_numberOfWay c_list 0 c_regions_65 c_left_3 c_open c_frows c_fshift c_fdx c_fdy c_fleastPlace c_fpairs c_foffset c_fplacesFirst c_fplaces) H := hP
          have hD : va_D A (sW ap ad la fa ra kc c_greys c_remembered c_columns c_rows c_settings c_reached c_order c_merged c_least c_greatest c_role c_head c_tail c_rank c_kindFrom c_kindTo c_side c_across c_down c_count c_flats c_crowded c_kinds c_first c_second c_pairs c_pairsWith c_voted c_ways c_shcount c_numberOfWay c_list 0 c_regions_65 c_left_3 c_open c_frows c_fshift c_fdx c_fdy c_fleastPlace c_fpairs c_foffset c_fplacesFirst c_fplaces) := hD
          refine lv_aload_n hx hb dX1_gather_20 rfl (lv_at hl 0 rfl) ?_
          refine r_get S gf_X1_23 hK hP 23 rfl rfl dX1_gather_21 ?_
          refine lv_iload_n hx hb dX1_gather_24 rfl (lv_at hl 2 rfl) ?_
          refine r_aldl (la := la) hx hb hK hP 26 rfl dX1_gather_25 h (fun s_66 h => ?_)
          obtain ⟨hs_66, h⟩ := lt25_e h
          obtain ⟨g_67, hq, h⟩ := bd1_e h
          refine cp_Sv (rest := []) [(28 + s_66)] S hN cb_X3_clear ml_X1_34 ⟨Nat.le_of_ble_eq_true rfl, Nat.le_of_ble_eq_true rfl⟩ (c_X3_clear l G kc (la s_66)  hq) hK hP hD hS hA (l1 (sW_l hs_66)) nd1 rfl rfl rfl (Nat.le_of_ble_eq_true rfl) hl.1 dX1_gather_26 (fun H locs hP hD hS => ?_)
          have hP : VP G (sW ap ad la fa ra kc c_greys c_remembered c_columns c_rows c_settings c_reached c_order c_merged c_least c_greatest c_role c_head c_tail c_rank c_kindFrom c_kindTo c_side c_across c_down c_count c_flats c_crowded c_kinds c_first c_second c_pairs c_pairsWith c_voted c_ways c_shcount c_numberOfWay c_list 0 c_regions_65 (va_up c_left_3 s_66 g_67) c_open c_frows c_fshift c_fdx c_fdy c_fleastPlace c_fpairs c_foffset c_fplacesFirst c_fplaces) H := eqP (sW_ls hs_66) hP
          have hD : va_D A (sW ap ad la fa ra kc c_greys c_remembered c_columns c_rows c_settings c_reached c_order c_merged c_least c_greatest c_role c_head c_tail c_rank c_kindFrom c_kindTo c_side c_across c_down c_count c_flats c_crowded c_kinds c_first c_second c_pairs c_pairsWith c_voted c_ways c_shcount c_numberOfWay c_list 0 c_regions_65 (va_up c_left_3 s_66 g_67) c_open c_frows c_fshift c_fdx c_fdy c_fleastPlace c_fpairs c_foffset c_fplacesFirst c_fplaces) := eqD (sW_ls hs_66) hD
          refine lv_iinc (v := (x2_1 + 1)) (lv' := [(2, .int (x2_1 + 1)), (0, .ref (ad 20)), (1, .ref (ad 13))]) hx hb dX1_gather_29 hl (k := 2) rfl rfl (by decide) rfl (fun ls hl => ?_)
          refine lv_goto (tgt := 7) hx hb dX1_gather_32 (by decide) ?_
          exact ih (x2_1 + 1) c_regions_65 (va_up c_left_3 s_66 g_67) _ _ _ hP hD hS (lv_sub hl [1, 2, 0] rfl) h
    exact L_6 FU 0 c_regions c_left _ _ _ hP hD hS (lv_sub hl [1, 2, 0] rfl) h
set_option maxHeartbeats 1000000 in
set_option maxRecDepth 100000 in
theorem c_X1_grow (l : Launch) (G : va_G) (kc : Nat → ClassId) (ap ad la fa ra : Nat → Nat) {c_greys : (Nat → Int32)} {c_remembered : (Nat → Int32)} {c_columns : Int32} {c_rows : Int32} {c_settings : (Nat → Int32)} {c_reached : Int32} {c_order : (Nat → Int32)} {c_merged : (Nat → Int32)} {c_least : (Nat → Int32)} {c_greatest : (Nat → Int32)} {c_role : (Nat → Int32)} {c_head : (Nat → Int64)} {c_tail : (Nat → Int64)} {c_rank : (Nat → Int32)} {c_kindFrom : (Nat → Int32)} {c_kindTo : (Nat → Int32)} {c_side : Int32} {c_across : Int32} {c_down : Int32} {c_count : Int32} {c_flats : Int32} {c_crowded : Int32} {c_kinds : Int32} {c_first : (Nat → Int32)} {c_second : (Nat → Int32)} {c_pairs : Int32} {c_pairsWith : (Nat → Int32)} {c_voted : (Nat → Int32)} {c_ways : (Nat → Int32)} {c_shcount : Int32} {c_numberOfWay : (Nat → Int32)} {c_list : (Nat → Nat)} {c_fcount : Int32} {c_regions : (Nat → Int32)} {c_left : (Nat → Nat → Int32)} {c_open : (Nat → Int32)} {c_frows : (Nat → Nat → Int32)} {c_fshift : (Nat → Int32)} {c_fdx : (Nat → Int32)} {c_fdy : (Nat → Int32)} {c_fleastPlace : (Nat → Int32)} {c_fpairs : (Nat → Int32)} {c_foffset : (Nat → Int32)} {c_fplacesFirst : (Nat → Int32)} {c_fplaces : (Nat → Int32)}  {c_list' : (Nat → Nat)} {c_open' : (Nat → Int32)} {c_frows' : (Nat → Nat → Int32)} {c_foffset' : (Nat → Int32)} {c_fplacesFirst' : (Nat → Int32)} {c_fplaces' : (Nat → Int32)} {FU : Nat} (h : f_X1_grow FU c_greys c_columns c_rows c_settings c_least c_list c_fcount c_open c_frows c_fshift c_fdx c_fdy c_fleastPlace c_fpairs c_foffset c_fplacesFirst c_fplaces = some (c_list', c_open', c_frows', c_foffset', c_fplacesFirst', c_fplaces')) : CTv l G kc yX1_grow cX1_grow 5 none (rmq 3 76) [.ref (ad 20), .ref (ap 0), .ref (ad 2), .ref (ad 1)] (sW ap ad la fa ra kc c_greys c_remembered c_columns c_rows c_settings c_reached c_order c_merged c_least c_greatest c_role c_head c_tail c_rank c_kindFrom c_kindTo c_side c_across c_down c_count c_flats c_crowded c_kinds c_first c_second c_pairs c_pairsWith c_voted c_ways c_shcount c_numberOfWay c_list c_fcount c_regions c_left c_open c_frows c_fshift c_fdx c_fdy c_fleastPlace c_fpairs c_foffset c_fplacesFirst c_fplaces) (sW ap ad la fa ra kc c_greys c_remembered c_columns c_rows c_settings c_reached c_order c_merged c_least c_greatest c_role c_head c_tail c_rank c_kindFrom c_kindTo c_side c_across c_down c_count c_flats c_crowded c_kinds c_first c_second c_pairs c_pairsWith c_voted c_ways c_shcount c_numberOfWay (c_list') c_fcount c_regions c_left (c_open') (c_frows') c_fshift c_fdx c_fdy c_fleastPlace c_fpairs (c_foffset') (c_fplacesFirst') (c_fplaces')) := by
  refine CTv.mk (by decide) (Nat.le_of_ble_eq_true rfl) ?_
  intro p e s m args below meth c A ls Q hQ S hr hlocks hN hA hK hl hP hD hS
  have hx := S.1
  have hb := S.2.1
  have hl : lv_has ls 5 [(0, .ref (ad 20)), (1, .ref (ap 0)), (2, .ref (ad 2)), (3, .ref (ad 1))] := hl
  unfold f_X1_grow at h
  refine lv_iconst (v := 0) hx hb dX1_grow_0 (by decide) ?_
  refine lv_istore (lv' := [(4, .int 0), (0, .ref (ad 20)), (1, .ref (ap 0)), (2, .ref (ad 2)), (3, .ref (ad 1))]) hx hb dX1_grow_1 hl (by decide) rfl (fun ls hl => ?_)
  refine jn_w (t := fun k => f_X1_grow_L3 FU c_greys c_columns c_rows c_settings c_least c_fcount c_fshift c_fdx c_fdy c_fleastPlace c_fpairs k FU 0 c_list c_open c_frows c_foffset c_fplacesFirst c_fplaces) (fun (k : Int32 → (Nat → Nat) → (Nat → Int32) → (Nat → Nat → Int32) → (Nat → Int32) → (Nat → Int32) → (Nat → Int32) → Option ((Nat → Nat) × (Nat → Int32) × (Nat → Nat → Int32) × (Nat → Int32) × (Nat → Int32) × (Nat → Int32))) => ∀ (x4_1 : Int32) (c_list_2 : (Nat → Nat)) (c_open_3 : (Nat → Int32)) (c_frows_4 : (Nat → Nat → Int32)) (c_foffset_5 : (Nat → Int32)) (c_fplacesFirst_6 : (Nat → Int32)) (c_fplaces_7 : (Nat → Int32)) (H : Heap) (locs : List Loc) (ls : Array Slot), VP G (sW ap ad la fa ra kc c_greys c_remembered c_columns c_rows c_settings c_reached c_order c_merged c_least c_greatest c_role c_head c_tail c_rank c_kindFrom c_kindTo c_side c_across c_down c_count c_flats c_crowded c_kinds c_first c_second c_pairs c_pairsWith c_voted c_ways c_shcount c_numberOfWay c_list_2 c_fcount c_regions c_left c_open_3 c_frows_4 c_fshift c_fdx c_fdy c_fleastPlace c_fpairs c_foffset_5 c_fplacesFirst_6 c_fplaces_7) H → va_D A (sW ap ad la fa ra kc c_greys c_remembered c_columns c_rows c_settings c_reached c_order c_merged c_least c_greatest c_role c_head c_tail c_rank c_kindFrom c_kindTo c_side c_across c_down c_count c_flats c_crowded c_kinds c_first c_second c_pairs c_pairsWith c_voted c_ways c_shcount c_numberOfWay c_list_2 c_fcount c_regions c_left c_open_3 c_frows_4 c_fshift c_fdx c_fdy c_fleastPlace c_fpairs c_foffset_5 c_fplacesFirst_6 c_fplaces_7) → va_S A s.heap H locs → lv_has ls 5 [] → k x4_1 c_list_2 c_open_3 c_frows_4 c_foffset_5 c_fplacesFirst_6 c_fplaces_7 = some (c_list', c_open', c_frows', c_foffset', c_fplacesFirst', c_fplaces') → WW p l e (rmq 3 76) s m args below meth c Q H locs 61 ls []) h ?_ ?_
  · intro x4_1 c_list_2 c_open_3 c_frows_4 c_foffset_5 c_fplacesFirst_6 c_fplaces_7 H locs ls hP hD hS hl h
    cases h
    exact ret_v hx hb hr hQ hlocks hK hP hD hS dX1_grow_61
  · intro k_8 K_9 h
    have L_10 : ∀ (n : Nat) (x4_1 : Int32) (c_list_2 : (Nat → Nat)) (c_open_3 : (Nat → Int32)) (c_frows_4 : (Nat → Nat → Int32)) (c_foffset_5 : (Nat → Int32)) (c_fplacesFirst_6 : (Nat → Int32)) (c_fplaces_7 : (Nat → Int32)) (H : Heap) (locs : List Loc) (ls : Array Slot), VP G (sW ap ad la fa ra kc c_greys c_remembered c_columns c_rows c_settings c_reached c_order c_merged c_least c_greatest c_role c_head c_tail c_rank c_kindFrom c_kindTo c_side c_across c_down c_count c_flats c_crowded c_kinds c_first c_second c_pairs c_pairsWith c_voted c_ways c_shcount c_numberOfWay c_list_2 c_fcount c_regions c_left c_open_3 c_frows_4 c_fshift c_fdx c_fdy c_fleastPlace c_fpairs c_foffset_5 c_fplacesFirst_6 c_fplaces_7) H → va_D A (sW ap ad la fa ra kc c_greys c_remembered c_columns c_rows c_settings c_reached c_order c_merged c_least c_greatest c_role c_head c_tail c_rank c_kindFrom c_kindTo c_side c_across c_down c_count c_flats c_crowded c_kinds c_first c_second c_pairs c_pairsWith c_voted c_ways c_shcount c_numberOfWay c_list_2 c_fcount c_regions c_left c_open_3 c_frows_4 c_fshift c_fdx c_fdy c_fleastPlace c_fpairs c_foffset_5 c_fplacesFirst_6 c_fplaces_7) → va_S A s.heap H locs → lv_has ls 5 [(0, .ref (ad 20)), (1, .ref (ap 0)), (2, .ref (ad 2)), (3, .ref (ad 1)), (4, .int x4_1)] → f_X1_grow_L3 FU c_greys c_columns c_rows c_settings c_least c_fcount c_fshift c_fdx c_fdy c_fleastPlace c_fpairs k_8 n x4_1 c_list_2 c_open_3 c_frows_4 c_foffset_5 c_fplacesFirst_6 c_fplaces_7 = some (c_list', c_open', c_frows', c_foffset', c_fplacesFirst', c_fplaces') → WW p l e (rmq 3 76) s m args below meth c Q H locs 3 ls [] := by
      intro n
      induction n with
      | zero => intro x4_1 c_list_2 c_open_3 c_frows_4 c_foffset_5 c_fplacesFirst_6 c_fplaces_7 H locs ls hP hD hS hl h; rw [f_X1_grow_L3] at h; cases h
      | succ n ih =>
        intro x4_1 c_list_2 c_open_3 c_frows_4 c_foffset_5 c_fplacesFirst_6 c_fplaces_7 H locs ls hP hD hS hl h
        rw [f_X1_grow_L3] at h
        refine lv_iload hx hb dX1_grow_3 (lv_at hl 4 rfl) ?_
        refine lv_aload_n hx hb dX1_grow_5 rfl (lv_at hl 0 rfl) ?_
        refine r_get S gf_X1_30 hK hP 23 rfl rfl dX1_grow_6 ?_
        refine lv_icmp_ge (tgt := 61) hx hb dX1_grow_9 (by decide) (fun q_22 => ?_) (fun q_22 => ?_)
        · have h := it_t q_22 h
          exact K_9 x4_1 c_list_2 c_open_3 c_frows_4 c_foffset_5 c_fplacesFirst_6 c_fplaces_7 _ _ _ hP hD hS (lv_sub hl [] rfl) h
        · have h := it_f q_22 h
          refine lv_aload_n hx hb dX1_grow_12 rfl (lv_at hl 0 rfl) ?_
          refine r_get S gf_X1_11 hK hP 23 rfl rfl dX1_grow_13 ?_
          refine lv_iload hx hb dX1_grow_16 (lv_at hl 4 rfl) ?_
          refine r_aldq (fa := fa) hx hb hK hP 24 rfl dX1_grow_18 h (fun j_11 h => ?_)
          obtain ⟨hj_11, h⟩ := lt25_e h
          refine lv_aload_n hx hb dX1_grow_19 rfl (lv_at hl 2 rfl) ?_
          refine lv_aload_n hx hb dX1_grow_20 rfl (lv_at hl 3 rfl) ?_
          refine lv_iconst (v := 2) hx hb dX1_grow_21 (by decide) ?_
          refine r_iald hx hb hK hP 4 rfl dX1_grow_22 h (fun y_12 h => ?_)
          obtain ⟨c_foffset_13, hq, h⟩ := bd1_e h
          refine cs_Vv (rest := []) (ci := 0) S hN cb_X0_lift ml_X1_78 ⟨Nat.le_of_ble_eq_true rfl, Nat.le_of_ble_eq_true rfl⟩ (c_X0_lift l G kc ap ad la fa ra y_12 hj_11 hq) hK hP hD hS hA (36 + j_11) rfl rfl (sW_f hj_11) rfl rfl (Nat.le_of_ble_eq_true rfl) hl.1 dX1_grow_23 (fun H locs hP hD hS => ?_)
          refine lv_aload_n hx hb dX1_grow_26 rfl (lv_at hl 0 rfl) ?_
          refine r_get S gf_X1_11 hK hP 23 rfl rfl dX1_grow_27 ?_
          refine lv_iload hx hb dX1_grow_30 (lv_at hl 4 rfl) ?_
          refine r_aldq (fa := fa) hx hb hK hP 24 rfl dX1_grow_32 h (fun j_14 h => ?_)
          obtain ⟨hj_14, h⟩ := lt25_e h
          refine lv_aload_n hx hb dX1_grow_33 rfl (lv_at hl 1 rfl) ?_
          refine lv_aload_n hx hb dX1_grow_34 rfl (lv_at hl 3 rfl) ?_
          refine lv_iconst (v := 0) hx hb dX1_grow_35 (by decide) ?_
          refine r_iald hx hb hK hP 4 rfl dX1_grow_36 h (fun y_15 h => ?_)
          refine lv_aload_n hx hb dX1_grow_37 rfl (lv_at hl 3 rfl) ?_
          refine lv_bipush (v := 7) hx hb dX1_grow_38 (by decide) ?_
          refine r_iald hx hb hK hP 4 rfl dX1_grow_40 h (fun y_16 h => ?_)
          refine lv_aload_n hx hb dX1_grow_41 rfl (lv_at hl 0 rfl) ?_
          refine r_get S gf_X1_26 hK hP 23 rfl rfl dX1_grow_42 ?_
          obtain ⟨c_open_17, c_frows_18, c_fplacesFirst_19, c_fplaces_20, hq, h⟩ := bd4_e h
          refine cs_Vv (rest := []) (ci := 0) S hN cb_X0_grow ml_X1_82 ⟨Nat.le_of_ble_eq_true rfl, Nat.le_of_ble_eq_true rfl⟩ (c_X0_grow l G kc ap ad la fa ra y_15 y_16 hj_14 hq) hK hP hD hS hA (36 + j_14) rfl rfl (sW_f hj_14) rfl rfl (Nat.le_of_ble_eq_true rfl) hl.1 dX1_grow_45 (fun H locs hP hD hS => ?_)
          refine lv_aload_n hx hb dX1_grow_48 rfl (lv_at hl 0 rfl) ?_
          refine lv_iload hx hb dX1_grow_49 (lv_at hl 4 rfl) ?_
          refine lv_iconst (v := 1) hx hb dX1_grow_51 (by decide) ?_
          obtain ⟨c_list_21, hq, h⟩ := bd1_e h
          refine cs_Vv (rest := []) (ci := 1) S hN cb_X1_settle ml_X1_68 ⟨Nat.le_of_ble_eq_true rfl, Nat.le_of_ble_eq_true rfl⟩ (c_X1_settle l G kc ap ad la fa ra x4_1 1  hq) hK hP hD hS hA 23 rfl rfl rfl rfl rfl (Nat.le_of_ble_eq_true rfl) hl.1 dX1_grow_52 (fun H locs hP hD hS => ?_)
          refine lv_iinc (v := (x4_1 + 1)) (lv' := [(4, .int (x4_1 + 1)), (0, .ref (ad 20)), (1, .ref (ap 0)), (2, .ref (ad 2)), (3, .ref (ad 1))]) hx hb dX1_grow_55 hl (k := 4) rfl rfl (by decide) rfl (fun ls hl => ?_)
          refine lv_goto (tgt := 3) hx hb dX1_grow_58 (by decide) ?_
          exact ih (x4_1 + 1) c_list_21 c_open_17 c_frows_18 c_foffset_13 c_fplacesFirst_19 c_fplaces_20 _ _ _ hP hD hS (lv_sub hl [1, 2, 3, 4, 0] rfl) h
    exact L_10 FU 0 c_list c_open c_frows c_foffset c_fplacesFirst c_fplaces _ _ _ hP hD hS (lv_sub hl [1, 2, 3, 4, 0] rfl) h
