set_option maxHeartbeats 1000000 in
set_option maxRecDepth 100000 in
theorem c_X6_howMany (l : Launch) (G : va_G) (kc : Nat → ClassId) (ap ad la fa ra : Nat → Nat) {c_greys : (Nat → Int32)} {c_remembered : (Nat → Int32)} {c_columns : Int32} {c_rows : Int32} {c_settings : (Nat → Int32)} {c_reached : Int32} {c_order : (Nat → Int32)} {c_merged : (Nat → Int32)} {c_least : (Nat → Int32)} {c_greatest : (Nat → Int32)} {c_role : (Nat → Int32)} {c_head : (Nat → Int64)} {c_tail : (Nat → Int64)} {c_rank : (Nat → Int32)} {c_kindFrom : (Nat → Int32)} {c_kindTo : (Nat → Int32)} {c_side : Int32} {c_across : Int32} {c_down : Int32} {c_count : Int32} {c_flats : Int32} {c_crowded : Int32} {c_kinds : Int32} {c_first : (Nat → Int32)} {c_second : (Nat → Int32)} {c_pairs : Int32} {c_pairsWith : (Nat → Int32)} {c_voted : (Nat → Int32)} {c_ways : (Nat → Int32)} {c_shcount : Int32} {c_numberOfWay : (Nat → Int32)} {c_list : (Nat → Nat)} {c_fcount : Int32} {c_regions : (Nat → Int32)} {c_left : (Nat → Nat → Int32)} {c_open : (Nat → Int32)} {c_frows : (Nat → Nat → Int32)} {c_fshift : (Nat → Int32)} {c_fdx : (Nat → Int32)} {c_fdy : (Nat → Int32)} {c_fleastPlace : (Nat → Int32)} {c_fpairs : (Nat → Int32)} {c_foffset : (Nat → Int32)} {c_fplacesFirst : (Nat → Int32)} {c_fplaces : (Nat → Int32)} (x1 : Int32) {r : Int32} {FU : Nat} (h : f_X6_howMany FU c_count c_flats c_crowded c_kinds c_pairs c_shcount c_list c_fcount c_frows c_fdx c_fdy x1 = some r) : CTi l G kc yX6_howMany cX6_howMany 2 (some .int) (rmq 5 111) [.ref (ad 0), .int x1] (sW ap ad la fa ra kc c_greys c_remembered c_columns c_rows c_settings c_reached c_order c_merged c_least c_greatest c_role c_head c_tail c_rank c_kindFrom c_kindTo c_side c_across c_down c_count c_flats c_crowded c_kinds c_first c_second c_pairs c_pairsWith c_voted c_ways c_shcount c_numberOfWay c_list c_fcount c_regions c_left c_open c_frows c_fshift c_fdx c_fdy c_fleastPlace c_fpairs c_foffset c_fplacesFirst c_fplaces) (sW ap ad la fa ra kc c_greys c_remembered c_columns c_rows c_settings c_reached c_order c_merged c_least c_greatest c_role c_head c_tail c_rank c_kindFrom c_kindTo c_side c_across c_down c_count c_flats c_crowded c_kinds c_first c_second c_pairs c_pairsWith c_voted c_ways c_shcount c_numberOfWay c_list c_fcount c_regions c_left c_open c_frows c_fshift c_fdx c_fdy c_fleastPlace c_fpairs c_foffset c_fplacesFirst c_fplaces) r := by
  refine CTi.mk (by decide) (Nat.le_of_ble_eq_true rfl) ?_
  intro p e s m args below meth c A ls Q hQ S hr hlocks hN hA hK hl hP hD hS
  have hx := S.1
  have hb := S.2.1
  have hl : lv_has ls 2 [(0, .ref (ad 0)), (1, .int x1)] := hl
  unfold f_X6_howMany at h
  refine lv_iload_n hx hb dX6_howMany_0 rfl (lv_at hl 1 rfl) ?_
  by_cases q_1 : x1 = 0
  · have h := it_t q_1 h
    refine lv_tableIn (off := 43) (tgt := 44) hx hb dX6_howMany_1 (by rw [q_1]; decide) (by rw [q_1]; decide) (by rw [q_1]; rfl) (by decide) ?_
    refine lv_aload_n hx hb dX6_howMany_44 rfl (lv_at hl 0 rfl) ?_
    refine r_get S gf_X6_18 hK hP 3 rfl rfl dX6_howMany_45 ?_
    refine r_get S gf_X6_62 hK hP 5 rfl rfl dX6_howMany_48 ?_
    cases h
    exact ret_i hx hb hr rfl hQ hlocks hK hP hD hS dX6_howMany_51
  · have h := it_f q_1 h
    by_cases q_2 : x1 = 1
    · have h := it_t q_2 h
      refine lv_tableIn (off := 51) (tgt := 52) hx hb dX6_howMany_1 (by rw [q_2]; decide) (by rw [q_2]; decide) (by rw [q_2]; rfl) (by decide) ?_
      refine lv_aload_n hx hb dX6_howMany_52 rfl (lv_at hl 0 rfl) ?_
      refine r_get S gf_X6_18 hK hP 3 rfl rfl dX6_howMany_53 ?_
      refine r_get S gf_X6_65 hK hP 5 rfl rfl dX6_howMany_56 ?_
      cases h
      exact ret_i hx hb hr rfl hQ hlocks hK hP hD hS dX6_howMany_59
    · have h := it_f q_2 h
      by_cases q_3 : x1 = 2
      · have h := it_t q_3 h
        refine lv_tableIn (off := 59) (tgt := 60) hx hb dX6_howMany_1 (by rw [q_3]; decide) (by rw [q_3]; decide) (by rw [q_3]; rfl) (by decide) ?_
        refine lv_aload_n hx hb dX6_howMany_60 rfl (lv_at hl 0 rfl) ?_
        refine r_get S gf_X6_18 hK hP 3 rfl rfl dX6_howMany_61 ?_
        refine r_get S gf_X6_68 hK hP 5 rfl rfl dX6_howMany_64 ?_
        cases h
        exact ret_i hx hb hr rfl hQ hlocks hK hP hD hS dX6_howMany_67
      · have h := it_f q_3 h
        by_cases q_4 : x1 = 3
        · have h := it_t q_4 h
          refine lv_tableIn (off := 67) (tgt := 68) hx hb dX6_howMany_1 (by rw [q_4]; decide) (by rw [q_4]; decide) (by rw [q_4]; rfl) (by decide) ?_
          refine lv_aload_n hx hb dX6_howMany_68 rfl (lv_at hl 0 rfl) ?_
          refine r_get S gf_X6_18 hK hP 3 rfl rfl dX6_howMany_69 ?_
          refine r_get S gf_X6_71 hK hP 5 rfl rfl dX6_howMany_72 ?_
          cases h
          exact ret_i hx hb hr rfl hQ hlocks hK hP hD hS dX6_howMany_75
        · have h := it_f q_4 h
          by_cases q_5 : x1 = 4
          · have h := it_t q_5 h
            refine lv_tableIn (off := 75) (tgt := 76) hx hb dX6_howMany_1 (by rw [q_5]; decide) (by rw [q_5]; decide) (by rw [q_5]; rfl) (by decide) ?_
            refine lv_aload_n hx hb dX6_howMany_76 rfl (lv_at hl 0 rfl) ?_
            refine r_get S gf_X6_25 hK hP 3 rfl rfl dX6_howMany_77 ?_
            refine r_get S gf_X6_74 hK hP 16 rfl rfl dX6_howMany_80 ?_
            cases h
            exact ret_i hx hb hr rfl hQ hlocks hK hP hD hS dX6_howMany_83
          · have h := it_f q_5 h
            by_cases q_6 : x1 = 5
            · have h := it_t q_6 h
              refine lv_tableIn (off := 83) (tgt := 84) hx hb dX6_howMany_1 (by rw [q_6]; decide) (by rw [q_6]; decide) (by rw [q_6]; rfl) (by decide) ?_
              refine lv_aload_n hx hb dX6_howMany_84 rfl (lv_at hl 0 rfl) ?_
              refine r_get S gf_X6_25 hK hP 3 rfl rfl dX6_howMany_85 ?_
              refine r_get S gf_X6_77 hK hP 16 rfl rfl dX6_howMany_88 ?_
              cases h
              exact ret_i hx hb hr rfl hQ hlocks hK hP hD hS dX6_howMany_91
            · have h := it_f q_6 h
              by_cases q_7 : x1 = 6
              · have h := it_t q_7 h
                refine lv_tableIn (off := 91) (tgt := 92) hx hb dX6_howMany_1 (by rw [q_7]; decide) (by rw [q_7]; decide) (by rw [q_7]; rfl) (by decide) ?_
                refine lv_aload_n hx hb dX6_howMany_92 rfl (lv_at hl 0 rfl) ?_
                refine r_get S gf_X6_32 hK hP 3 rfl rfl dX6_howMany_93 ?_
                refine r_get S gf_X6_78 hK hP 23 rfl rfl dX6_howMany_96 ?_
                cases h
                exact ret_i hx hb hr rfl hQ hlocks hK hP hD hS dX6_howMany_99
              · have h := it_f q_7 h
                have nq_1 := lv_neT (a := 0) q_1 (by decide)
                have nq_2 := lv_neT (a := 1) q_2 (by decide)
                have nq_3 := lv_neT (a := 2) q_3 (by decide)
                have nq_4 := lv_neT (a := 3) q_4 (by decide)
                have nq_5 := lv_neT (a := 4) q_5 (by decide)
                have nq_6 := lv_neT (a := 5) q_6 (by decide)
                have nq_7 := lv_neT (a := 6) q_7 (by decide)
                refine lv_tableOut (tgt := 100) hx hb dX6_howMany_1 (by omega) (by decide) ?_
                refine lv_aload_n hx hb dX6_howMany_100 rfl (lv_at hl 0 rfl) ?_
                refine r_get S gf_X6_32 hK hP 3 rfl rfl dX6_howMany_101 ?_
                obtain ⟨r_8, hq, h⟩ := bd1_e h
                refine cs_Vi (rest := []) (ci := 1) S hN cb_X1_placesSeen ml_X6_79 ⟨Nat.le_of_ble_eq_true rfl, Nat.le_of_ble_eq_true rfl⟩ (c_X1_placesSeen l G kc ap ad la fa ra   hq) hK hP hD hS hA 23 rfl rfl rfl rfl rfl (Nat.le_of_ble_eq_true rfl) hl.1 dX6_howMany_104 (fun H locs hP hD hS => ?_)
                cases h
                exact ret_i hx hb hr rfl hQ hlocks hK hP hD hS dX6_howMany_107
set_option maxHeartbeats 1000000 in
set_option maxRecDepth 100000 in
theorem c_X7_stageOfCount (l : Launch) (G : va_G) (kc : Nat → ClassId)   (x0 : Int32) {r : Int32} {FU : Nat} (h : f_X7_stageOfCount FU x0 = some r) : CTi l G kc yX7_stageOfCount cX7_stageOfCount 1 (some .int) (rmq 0 0) [.int x0] ([]) ([]) r := by
  refine CTi.mk (by decide) (Nat.le_of_ble_eq_true rfl) ?_
  intro p e s m args below meth c A ls Q hQ S hr hlocks hN hA hK hl hP hD hS
  have hx := S.1
  have hb := S.2.1
  have hl : lv_has ls 1 [(0, .int x0)] := hl
  unfold f_X7_stageOfCount at h
  refine lv_iload_n hx hb dX7_stageOfCount_0 rfl (lv_at hl 0 rfl) ?_
  refine lv_iconst (v := 3) hx hb dX7_stageOfCount_1 (by decide) ?_
  refine lv_icmp_gt (tgt := 7) hx hb dX7_stageOfCount_2 (by decide) (fun q_2 => ?_) (fun q_2 => ?_)
  · have h := it_t q_2 h
    refine lv_iload_n hx hb dX7_stageOfCount_7 rfl (lv_at hl 0 rfl) ?_
    refine lv_iconst (v := 5) hx hb dX7_stageOfCount_8 (by decide) ?_
    refine lv_icmp_gt (tgt := 16) hx hb dX7_stageOfCount_9 (by decide) (fun q_1 => ?_) (fun q_1 => ?_)
    · have h := it_t q_1 h
      refine lv_iconst (v := 3) hx hb dX7_stageOfCount_16 (by decide) ?_
      cases h
      exact ret_i hx hb hr rfl hQ hlocks hK hP hD hS dX7_stageOfCount_17
    · have h := it_f q_1 h
      refine lv_iconst (v := 2) hx hb dX7_stageOfCount_12 (by decide) ?_
      refine lv_goto (tgt := 17) hx hb dX7_stageOfCount_13 (by decide) ?_
      cases h
      exact ret_i hx hb hr rfl hQ hlocks hK hP hD hS dX7_stageOfCount_17
  · have h := it_f q_2 h
    refine lv_iconst (v := 1) hx hb dX7_stageOfCount_5 (by decide) ?_
    cases h
    exact ret_i hx hb hr rfl hQ hlocks hK hP hD hS dX7_stageOfCount_6
