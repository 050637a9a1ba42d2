theorem in_X0 : ∀ w ∈ u_ws RX0 TX0 9, w ∈ gwl := fun w h => gw_t ((by decide +kernel : ∀ w ∈ u_ws RX0 TX0 9, w ∈ tables_1) w h) ((by decide +kernel : ∀ w ∈ u_ws RX0 TX0 9, goodWord w = true) w h)
theorem in_X1 : ∀ w ∈ u_ws RX1 TX1 5, w ∈ gwl := fun w h => gw_t ((by decide +kernel : ∀ w ∈ u_ws RX1 TX1 5, w ∈ tables_1) w h) ((by decide +kernel : ∀ w ∈ u_ws RX1 TX1 5, goodWord w = true) w h)
theorem in_X2 : ∀ w ∈ u_ws RX2 TX2 4, w ∈ gwl := fun w h => gw_t ((by decide +kernel : ∀ w ∈ u_ws RX2 TX2 4, w ∈ tables_1) w h) ((by decide +kernel : ∀ w ∈ u_ws RX2 TX2 4, goodWord w = true) w h)
theorem in_X4 : ∀ w ∈ u_ws RX4 TX4 8, w ∈ gwl := fun w h => gw_t ((by decide +kernel : ∀ w ∈ u_ws RX4 TX4 8, w ∈ tables_1) w h) ((by decide +kernel : ∀ w ∈ u_ws RX4 TX4 8, goodWord w = true) w h)
theorem in_X5 : ∀ w ∈ u_ws RX5 TX5 17, w ∈ gwl := fun w h => gw_t ((by decide +kernel : ∀ w ∈ u_ws RX5 TX5 17, w ∈ tables_1) w h) ((by decide +kernel : ∀ w ∈ u_ws RX5 TX5 17, goodWord w = true) w h)
theorem in_X6 : ∀ w ∈ u_ws RX6 TX6 6, w ∈ gwl := fun w h => gw_t ((by decide +kernel : ∀ w ∈ u_ws RX6 TX6 6, w ∈ tables_1) w h) ((by decide +kernel : ∀ w ∈ u_ws RX6 TX6 6, goodWord w = true) w h)
theorem cb_J6_bitCount_0f7a4 : CBS yJ6_bitCount_0f7a4 cJ6_bitCount_0f7a4 1 (some .int) 1 := ⟨gw_t (List.mem_of_getElem? (i := 469) (by decide +kernel)) rfl, gw_t (List.mem_of_getElem? (i := 12) (by decide +kernel)) rfl, gw_t (List.mem_of_getElem? (i := 470) (by decide +kernel)) rfl, by decide +kernel⟩
theorem cb_X0_begin : CBV yX0_begin cX0_begin 6 none 4 := ⟨gw_t (List.mem_of_getElem? (i := 453) (by decide +kernel)) rfl, gw_t (List.mem_of_getElem? (i := 454) (by decide +kernel)) rfl, gw_t (List.mem_of_getElem? (i := 7) (by decide +kernel)) rfl, gw_t (List.mem_of_getElem? (i := 455) (by decide +kernel)) rfl, by decide +kernel⟩
theorem cb_X0_copyRowOf : CBV yX0_copyRowOf cX0_copyRowOf 3 (some .int) 1 := ⟨gw_t (List.mem_of_getElem? (i := 574) (by decide +kernel)) rfl, gw_t (List.mem_of_getElem? (i := 575) (by decide +kernel)) rfl, gw_t (List.mem_of_getElem? (i := 7) (by decide +kernel)) rfl, gw_t (List.mem_of_getElem? (i := 576) (by decide +kernel)) rfl, by decide +kernel⟩
theorem cb_X0_grow : CBV yX0_grow cX0_grow 7 none 4 := ⟨gw_t (List.mem_of_getElem? (i := 493) (by decide +kernel)) rfl, gw_t (List.mem_of_getElem? (i := 494) (by decide +kernel)) rfl, gw_t (List.mem_of_getElem? (i := 7) (by decide +kernel)) rfl, gw_t (List.mem_of_getElem? (i := 495) (by decide +kernel)) rfl, by decide +kernel⟩
theorem cb_X0_isAhead : CBV yX0_isAhead cX0_isAhead 5 (some .boolean) 2 := ⟨gw_t (List.mem_of_getElem? (i := 479) (by decide +kernel)) rfl, gw_t (List.mem_of_getElem? (i := 480) (by decide +kernel)) rfl, gw_t (List.mem_of_getElem? (i := 7) (by decide +kernel)) rfl, gw_t (List.mem_of_getElem? (i := 481) (by decide +kernel)) rfl, by decide +kernel⟩
theorem cb_X0_lift : CBV yX0_lift cX0_lift 5 none 2 := ⟨gw_t (List.mem_of_getElem? (i := 488) (by decide +kernel)) rfl, gw_t (List.mem_of_getElem? (i := 489) (by decide +kernel)) rfl, gw_t (List.mem_of_getElem? (i := 7) (by decide +kernel)) rfl, gw_t (List.mem_of_getElem? (i := 490) (by decide +kernel)) rfl, by decide +kernel⟩
theorem cb_X0_missOf : CBV yX0_missOf cX0_missOf 6 (some .int) 3 := ⟨gw_t (List.mem_of_getElem? (i := 501) (by decide +kernel)) rfl, gw_s (List.mem_of_getElem? (i := 15) (by decide +kernel)) rfl, gw_t (List.mem_of_getElem? (i := 7) (by decide +kernel)) rfl, gw_t (List.mem_of_getElem? (i := 502) (by decide +kernel)) rfl, by decide +kernel⟩
theorem cb_X0_rowOf : CBV yX0_rowOf cX0_rowOf 2 (some .int) 1 := ⟨gw_t (List.mem_of_getElem? (i := 570) (by decide +kernel)) rfl, gw_t (List.mem_of_getElem? (i := 571) (by decide +kernel)) rfl, gw_t (List.mem_of_getElem? (i := 7) (by decide +kernel)) rfl, gw_t (List.mem_of_getElem? (i := 572) (by decide +kernel)) rfl, by decide +kernel⟩
theorem cb_X1_addRegion : CBV yX1_addRegion cX1_addRegion 4 none 3 := ⟨gw_t (List.mem_of_getElem? (i := 450) (by decide +kernel)) rfl, gw_s (List.mem_of_getElem? (i := 13) (by decide +kernel)) rfl, gw_t (List.mem_of_getElem? (i := 6) (by decide +kernel)) rfl, gw_t (List.mem_of_getElem? (i := 451) (by decide +kernel)) rfl, by decide +kernel⟩
theorem cb_X1_columnsOf : CBV yX1_columnsOf cX1_columnsOf 5 (some .int) 2 := ⟨gw_t (List.mem_of_getElem? (i := 583) (by decide +kernel)) rfl, gw_t (List.mem_of_getElem? (i := 584) (by decide +kernel)) rfl, gw_t (List.mem_of_getElem? (i := 6) (by decide +kernel)) rfl, gw_t (List.mem_of_getElem? (i := 585) (by decide +kernel)) rfl, by decide +kernel⟩
theorem cb_X1_gather : CBV yX1_gather cX1_gather 4 none 1 := ⟨gw_t (List.mem_of_getElem? (i := 437) (by decide +kernel)) rfl, gw_t (List.mem_of_getElem? (i := 438) (by decide +kernel)) rfl, gw_t (List.mem_of_getElem? (i := 6) (by decide +kernel)) rfl, gw_t (List.mem_of_getElem? (i := 439) (by decide +kernel)) rfl, by decide +kernel⟩
theorem cb_X1_grow : CBV yX1_grow cX1_grow 5 none 3 := ⟨gw_t (List.mem_of_getElem? (i := 484) (by decide +kernel)) rfl, gw_t (List.mem_of_getElem? (i := 485) (by decide +kernel)) rfl, gw_t (List.mem_of_getElem? (i := 6) (by decide +kernel)) rfl, gw_t (List.mem_of_getElem? (i := 486) (by decide +kernel)) rfl, by decide +kernel⟩
theorem cb_X1_placesSeen : CBV yX1_placesSeen cX1_placesSeen 3 (some .int) 0 := ⟨gw_t (List.mem_of_getElem? (i := 601) (by decide +kernel)) rfl, gw_t (List.mem_of_getElem? (i := 602) (by decide +kernel)) rfl, gw_t (List.mem_of_getElem? (i := 6) (by decide +kernel)) rfl, gw_t (List.mem_of_getElem? (i := 603) (by decide +kernel)) rfl, by decide +kernel⟩
theorem cb_X1_settle : CBV yX1_settle cX1_settle 5 none 2 := ⟨gw_t (List.mem_of_getElem? (i := 476) (by decide +kernel)) rfl, gw_s (List.mem_of_getElem? (i := 14) (by decide +kernel)) rfl, gw_t (List.mem_of_getElem? (i := 6) (by decide +kernel)) rfl, gw_t (List.mem_of_getElem? (i := 477) (by decide +kernel)) rfl, by decide +kernel⟩
theorem cb_X2_greyOf : CBV yX2_greyOf cX2_greyOf 3 (some .int) 2 := ⟨gw_t (List.mem_of_getElem? (i := 299) (by decide +kernel)) rfl, gw_t (List.mem_of_getElem? (i := 300) (by decide +kernel)) rfl, gw_t (List.mem_of_getElem? (i := 2) (by decide +kernel)) rfl, gw_t (List.mem_of_getElem? (i := 301) (by decide +kernel)) rfl, by decide +kernel⟩
theorem cb_X2_has : CBV yX2_has cX2_has 3 (some .boolean) 2 := ⟨gw_t (List.mem_of_getElem? (i := 295) (by decide +kernel)) rfl, gw_t (List.mem_of_getElem? (i := 296) (by decide +kernel)) rfl, gw_t (List.mem_of_getElem? (i := 2) (by decide +kernel)) rfl, gw_t (List.mem_of_getElem? (i := 297) (by decide +kernel)) rfl, by decide +kernel⟩
theorem cb_X3_clear : CBS yX3_clear cX3_clear 2 none 1 := ⟨gw_t (List.mem_of_getElem? (i := 441) (by decide +kernel)) rfl, gw_t (List.mem_of_getElem? (i := 11) (by decide +kernel)) rfl, gw_t (List.mem_of_getElem? (i := 442) (by decide +kernel)) rfl, by decide +kernel⟩
theorem cb_X3_columns : CBS yX3_columns cX3_columns 3 (some .int) 1 := ⟨gw_t (List.mem_of_getElem? (i := 549) (by decide +kernel)) rfl, gw_t (List.mem_of_getElem? (i := 11) (by decide +kernel)) rfl, gw_t (List.mem_of_getElem? (i := 550) (by decide +kernel)) rfl, by decide +kernel⟩
theorem cb_X3_size : CBS yX3_size cX3_size 3 (some .int) 1 := ⟨gw_t (List.mem_of_getElem? (i := 466) (by decide +kernel)) rfl, gw_t (List.mem_of_getElem? (i := 11) (by decide +kernel)) rfl, gw_t (List.mem_of_getElem? (i := 467) (by decide +kernel)) rfl, by decide +kernel⟩
theorem cb_X3_spread : CBS yX3_spread cX3_spread 4 none 2 := ⟨gw_t (List.mem_of_getElem? (i := 460) (by decide +kernel)) rfl, gw_t (List.mem_of_getElem? (i := 11) (by decide +kernel)) rfl, gw_t (List.mem_of_getElem? (i := 461) (by decide +kernel)) rfl, by decide +kernel⟩
theorem cb_X3_spreadOnce : CBS yX3_spreadOnce cX3_spreadOnce 8 (some .boolean) 2 := ⟨gw_t (List.mem_of_getElem? (i := 463) (by decide +kernel)) rfl, gw_t (List.mem_of_getElem? (i := 11) (by decide +kernel)) rfl, gw_t (List.mem_of_getElem? (i := 464) (by decide +kernel)) rfl, by decide +kernel⟩
theorem cb_X3_widen : CBS yX3_widen cX3_widen 5 none 2 := ⟨gw_t (List.mem_of_getElem? (i := 497) (by decide +kernel)) rfl, gw_t (List.mem_of_getElem? (i := 11) (by decide +kernel)) rfl, gw_t (List.mem_of_getElem? (i := 498) (by decide +kernel)) rfl, by decide +kernel⟩
theorem cb_X4_addPair : CBV yX4_addPair cX4_addPair 7 none 3 := ⟨gw_t (List.mem_of_getElem? (i := 409) (by decide +kernel)) rfl, gw_s (List.mem_of_getElem? (i := 9) (by decide +kernel)) rfl, gw_t (List.mem_of_getElem? (i := 5) (by decide +kernel)) rfl, gw_t (List.mem_of_getElem? (i := 410) (by decide +kernel)) rfl, by decide +kernel⟩
theorem cb_X4_choose : CBV yX4_choose cX4_choose 3 none 1 := ⟨gw_t (List.mem_of_getElem? (i := 419) (by decide +kernel)) rfl, gw_s (List.mem_of_getElem? (i := 10) (by decide +kernel)) rfl, gw_t (List.mem_of_getElem? (i := 5) (by decide +kernel)) rfl, gw_t (List.mem_of_getElem? (i := 420) (by decide +kernel)) rfl, by decide +kernel⟩
theorem cb_X4_gather : CBV yX4_gather cX4_gather 5 none 2 := ⟨gw_t (List.mem_of_getElem? (i := 400) (by decide +kernel)) rfl, gw_t (List.mem_of_getElem? (i := 401) (by decide +kernel)) rfl, gw_t (List.mem_of_getElem? (i := 5) (by decide +kernel)) rfl, gw_t (List.mem_of_getElem? (i := 402) (by decide +kernel)) rfl, by decide +kernel⟩
theorem cb_X4_isAhead : CBV yX4_isAhead cX4_isAhead 5 (some .boolean) 2 := ⟨gw_t (List.mem_of_getElem? (i := 427) (by decide +kernel)) rfl, gw_s (List.mem_of_getElem? (i := 12) (by decide +kernel)) rfl, gw_t (List.mem_of_getElem? (i := 5) (by decide +kernel)) rfl, gw_t (List.mem_of_getElem? (i := 428) (by decide +kernel)) rfl, by decide +kernel⟩
theorem cb_X4_pairUp : CBV yX4_pairUp cX4_pairUp 6 none 3 := ⟨gw_t (List.mem_of_getElem? (i := 405) (by decide +kernel)) rfl, gw_s (List.mem_of_getElem? (i := 8) (by decide +kernel)) rfl, gw_t (List.mem_of_getElem? (i := 5) (by decide +kernel)) rfl, gw_t (List.mem_of_getElem? (i := 406) (by decide +kernel)) rfl, by decide +kernel⟩
theorem cb_X4_settle : CBV yX4_settle cX4_settle 4 none 1 := ⟨gw_t (List.mem_of_getElem? (i := 423) (by decide +kernel)) rfl, gw_s (List.mem_of_getElem? (i := 11) (by decide +kernel)) rfl, gw_t (List.mem_of_getElem? (i := 5) (by decide +kernel)) rfl, gw_t (List.mem_of_getElem? (i := 424) (by decide +kernel)) rfl, by decide +kernel⟩
theorem cb_X4_shiftOfPair : CBV yX4_shiftOfPair cX4_shiftOfPair 4 (some .int) 1 := ⟨gw_t (List.mem_of_getElem? (i := 444) (by decide +kernel)) rfl, gw_t (List.mem_of_getElem? (i := 445) (by decide +kernel)) rfl, gw_t (List.mem_of_getElem? (i := 5) (by decide +kernel)) rfl, gw_t (List.mem_of_getElem? (i := 446) (by decide +kernel)) rfl, by decide +kernel⟩
theorem cb_X5_areAlike : CBV yX5_areAlike cX5_areAlike 3 (some .boolean) 2 := ⟨gw_t (List.mem_of_getElem? (i := 393) (by decide +kernel)) rfl, gw_s (List.mem_of_getElem? (i := 6) (by decide +kernel)) rfl, gw_t (List.mem_of_getElem? (i := 4) (by decide +kernel)) rfl, gw_t (List.mem_of_getElem? (i := 394) (by decide +kernel)) rfl, by decide +kernel⟩
theorem cb_X5_isBefore : CBV yX5_isBefore cX5_isBefore 3 (some .boolean) 2 := ⟨gw_t (List.mem_of_getElem? (i := 384) (by decide +kernel)) rfl, gw_s (List.mem_of_getElem? (i := 4) (by decide +kernel)) rfl, gw_t (List.mem_of_getElem? (i := 4) (by decide +kernel)) rfl, gw_t (List.mem_of_getElem? (i := 385) (by decide +kernel)) rfl, by decide +kernel⟩
theorem cb_X5_measure : CBV yX5_measure cX5_measure 10 none 4 := ⟨gw_t (List.mem_of_getElem? (i := 366) (by decide +kernel)) rfl, gw_s (List.mem_of_getElem? (i := 0) (by decide +kernel)) rfl, gw_t (List.mem_of_getElem? (i := 4) (by decide +kernel)) rfl, gw_t (List.mem_of_getElem? (i := 367) (by decide +kernel)) rfl, by decide +kernel⟩
theorem cb_X5_merge : CBV yX5_merge cX5_merge 8 none 3 := ⟨gw_t (List.mem_of_getElem? (i := 380) (by decide +kernel)) rfl, gw_s (List.mem_of_getElem? (i := 3) (by decide +kernel)) rfl, gw_t (List.mem_of_getElem? (i := 4) (by decide +kernel)) rfl, gw_t (List.mem_of_getElem? (i := 381) (by decide +kernel)) rfl, by decide +kernel⟩
theorem cb_X5_noteKind : CBV yX5_noteKind cX5_noteKind 7 none 3 := ⟨gw_t (List.mem_of_getElem? (i := 397) (by decide +kernel)) rfl, gw_s (List.mem_of_getElem? (i := 7) (by decide +kernel)) rfl, gw_t (List.mem_of_getElem? (i := 4) (by decide +kernel)) rfl, gw_t (List.mem_of_getElem? (i := 398) (by decide +kernel)) rfl, by decide +kernel⟩
theorem cb_X5_numberOf : CBV yX5_numberOf cX5_numberOf 5 (some .int) 2 := ⟨gw_t (List.mem_of_getElem? (i := 514) (by decide +kernel)) rfl, gw_t (List.mem_of_getElem? (i := 515) (by decide +kernel)) rfl, gw_t (List.mem_of_getElem? (i := 4) (by decide +kernel)) rfl, gw_t (List.mem_of_getElem? (i := 516) (by decide +kernel)) rfl, by decide +kernel⟩
theorem cb_X5_read : CBV yX5_read cX5_read 5 none 2 := ⟨gw_t (List.mem_of_getElem? (i := 360) (by decide +kernel)) rfl, gw_t (List.mem_of_getElem? (i := 361) (by decide +kernel)) rfl, gw_t (List.mem_of_getElem? (i := 4) (by decide +kernel)) rfl, gw_t (List.mem_of_getElem? (i := 362) (by decide +kernel)) rfl, by decide +kernel⟩
theorem cb_X5_readNumbers : CBV yX5_readNumbers cX5_readNumbers 16 none 4 := ⟨gw_t (List.mem_of_getElem? (i := 372) (by decide +kernel)) rfl, gw_s (List.mem_of_getElem? (i := 1) (by decide +kernel)) rfl, gw_t (List.mem_of_getElem? (i := 4) (by decide +kernel)) rfl, gw_t (List.mem_of_getElem? (i := 373) (by decide +kernel)) rfl, by decide +kernel⟩
theorem cb_X5_sort : CBV yX5_sort cX5_sort 3 none 0 := ⟨gw_t (List.mem_of_getElem? (i := 376) (by decide +kernel)) rfl, gw_s (List.mem_of_getElem? (i := 2) (by decide +kernel)) rfl, gw_t (List.mem_of_getElem? (i := 4) (by decide +kernel)) rfl, gw_t (List.mem_of_getElem? (i := 377) (by decide +kernel)) rfl, by decide +kernel⟩
theorem cb_X5_splitKinds : CBV yX5_splitKinds cX5_splitKinds 4 none 1 := ⟨gw_t (List.mem_of_getElem? (i := 389) (by decide +kernel)) rfl, gw_s (List.mem_of_getElem? (i := 5) (by decide +kernel)) rfl, gw_t (List.mem_of_getElem? (i := 4) (by decide +kernel)) rfl, gw_t (List.mem_of_getElem? (i := 390) (by decide +kernel)) rfl, by decide +kernel⟩
theorem cb_X7_acrossOf : CBS yX7_acrossOf cX7_acrossOf 1 (some .int) 1 := ⟨gw_t (List.mem_of_getElem? (i := 430) (by decide +kernel)) rfl, gw_t (List.mem_of_getElem? (i := 1) (by decide +kernel)) rfl, gw_t (List.mem_of_getElem? (i := 431) (by decide +kernel)) rfl, by decide +kernel⟩
theorem cb_X7_downOf : CBS yX7_downOf cX7_downOf 1 (some .int) 1 := ⟨gw_t (List.mem_of_getElem? (i := 433) (by decide +kernel)) rfl, gw_t (List.mem_of_getElem? (i := 1) (by decide +kernel)) rfl, gw_t (List.mem_of_getElem? (i := 434) (by decide +kernel)) rfl, by decide +kernel⟩
theorem cb_X7_isWithin : CBS yX7_isWithin cX7_isWithin 3 (some .boolean) 3 := ⟨gw_t (List.mem_of_getElem? (i := 280) (by decide +kernel)) rfl, gw_t (List.mem_of_getElem? (i := 1) (by decide +kernel)) rfl, gw_t (List.mem_of_getElem? (i := 281) (by decide +kernel)) rfl, by decide +kernel⟩
theorem cb_X7_wayOf : CBS yX7_wayOf cX7_wayOf 2 (some .int) 2 := ⟨gw_t (List.mem_of_getElem? (i := 415) (by decide +kernel)) rfl, gw_t (List.mem_of_getElem? (i := 1) (by decide +kernel)) rfl, gw_t (List.mem_of_getElem? (i := 416) (by decide +kernel)) rfl, by decide +kernel⟩
theorem kn_J6_265 : Cond.constant RJ6 265 (1431655765) ∈ gwl := gw_t (List.mem_of_getElem? (i := 471) (by decide +kernel)) rfl
theorem kn_J6_266 : Cond.constant RJ6 266 (858993459) ∈ gwl := gw_t (List.mem_of_getElem? (i := 472) (by decide +kernel)) rfl
theorem kn_J6_267 : Cond.constant RJ6 267 (252645135) ∈ gwl := gw_t (List.mem_of_getElem? (i := 473) (by decide +kernel)) rfl
theorem gf_X0_15 : GF RX0 15 0 1 := GF.mk (C := RX0) (T := TX0) (N := 9) rfl (by decide) in_X0 (gw_t (List.mem_of_getElem? (i := 188) (by decide +kernel)) rfl)
theorem gf_X0_23 : GF RX0 23 0 2 := GF.mk (C := RX0) (T := TX0) (N := 9) rfl (by decide) in_X0 (gw_t (List.mem_of_getElem? (i := 190) (by decide +kernel)) rfl)
theorem gf_X0_29 : GF RX0 29 0 3 := GF.mk (C := RX0) (T := TX0) (N := 9) rfl (by decide) in_X0 (gw_t (List.mem_of_getElem? (i := 191) (by decide +kernel)) rfl)
theorem gf_X0_32 : GF RX0 32 0 4 := GF.mk (C := RX0) (T := TX0) (N := 9) rfl (by decide) in_X0 (gw_t (List.mem_of_getElem? (i := 192) (by decide +kernel)) rfl)
theorem gf_X0_49 : GF RX0 49 0 5 := GF.mk (C := RX0) (T := TX0) (N := 9) rfl (by decide) in_X0 (gw_t (List.mem_of_getElem? (i := 193) (by decide +kernel)) rfl)
theorem gf_X0_56 : GF RX0 56 4 2 := GF.mk (C := RX5) (T := TX5) (N := 17) rfl (by decide) in_X5 (gw_t (List.mem_of_getElem? (i := 61) (by decide +kernel)) rfl)
theorem gf_X0_61 : GF RX0 61 0 6 := GF.mk (C := RX0) (T := TX0) (N := 9) rfl (by decide) in_X0 (gw_t (List.mem_of_getElem? (i := 195) (by decide +kernel)) rfl)
theorem gf_X0_75 : GF RX0 75 0 8 := GF.mk (C := RX0) (T := TX0) (N := 9) rfl (by decide) in_X0 (gw_t (List.mem_of_getElem? (i := 199) (by decide +kernel)) rfl)
theorem gf_X0_84 : GF RX0 84 2 0 := GF.mk (C := RX2) (T := TX2) (N := 4) rfl (by decide) in_X2 (gw_t (List.mem_of_getElem? (i := 28) (by decide +kernel)) rfl)
theorem gf_X0_9 : GF RX0 9 0 0 := GF.mk (C := RX0) (T := TX0) (N := 9) rfl (by decide) in_X0 (gw_t (List.mem_of_getElem? (i := 186) (by decide +kernel)) rfl)
theorem gf_X1_11 : GF RX1 11 1 0 := GF.mk (C := RX1) (T := TX1) (N := 5) rfl (by decide) in_X1 (gw_t (List.mem_of_getElem? (i := 220) (by decide +kernel)) rfl)
theorem gf_X1_17 : GF RX1 17 1 2 := GF.mk (C := RX1) (T := TX1) (N := 5) rfl (by decide) in_X1 (gw_t (List.mem_of_getElem? (i := 225) (by decide +kernel)) rfl)
theorem gf_X1_23 : GF RX1 23 1 3 := GF.mk (C := RX1) (T := TX1) (N := 5) rfl (by decide) in_X1 (gw_t (List.mem_of_getElem? (i := 227) (by decide +kernel)) rfl)
theorem gf_X1_26 : GF RX1 26 1 4 := GF.mk (C := RX1) (T := TX1) (N := 5) rfl (by decide) in_X1 (gw_t (List.mem_of_getElem? (i := 228) (by decide +kernel)) rfl)
theorem gf_X1_30 : GF RX1 30 1 1 := GF.mk (C := RX1) (T := TX1) (N := 5) rfl (by decide) in_X1 (gw_t (List.mem_of_getElem? (i := 222) (by decide +kernel)) rfl)
theorem gf_X1_40 : GF RX1 40 3 2 := GF.mk (C := RX4) (T := TX4) (N := 8) rfl (by decide) in_X4 (gw_t (List.mem_of_getElem? (i := 139) (by decide +kernel)) rfl)
theorem gf_X1_53 : GF RX1 53 3 0 := GF.mk (C := RX4) (T := TX4) (N := 8) rfl (by decide) in_X4 (gw_t (List.mem_of_getElem? (i := 134) (by decide +kernel)) rfl)
theorem gf_X1_56 : GF RX1 56 3 6 := GF.mk (C := RX4) (T := TX4) (N := 8) rfl (by decide) in_X4 (gw_t (List.mem_of_getElem? (i := 149) (by decide +kernel)) rfl)
theorem gf_X1_57 : GF RX1 57 3 5 := GF.mk (C := RX4) (T := TX4) (N := 8) rfl (by decide) in_X4 (gw_t (List.mem_of_getElem? (i := 147) (by decide +kernel)) rfl)
theorem gf_X2_15 : GF RX2 15 2 1 := GF.mk (C := RX2) (T := TX2) (N := 4) rfl (by decide) in_X2 (gw_t (List.mem_of_getElem? (i := 29) (by decide +kernel)) rfl)
theorem gf_X2_18 : GF RX2 18 2 2 := GF.mk (C := RX2) (T := TX2) (N := 4) rfl (by decide) in_X2 (gw_t (List.mem_of_getElem? (i := 30) (by decide +kernel)) rfl)
theorem gf_X2_22 : GF RX2 22 2 3 := GF.mk (C := RX2) (T := TX2) (N := 4) rfl (by decide) in_X2 (gw_t (List.mem_of_getElem? (i := 32) (by decide +kernel)) rfl)
theorem gf_X2_9 : GF RX2 9 2 0 := GF.mk (C := RX2) (T := TX2) (N := 4) rfl (by decide) in_X2 (gw_t (List.mem_of_getElem? (i := 27) (by decide +kernel)) rfl)
theorem gf_X4_15 : GF RX4 15 3 1 := GF.mk (C := RX4) (T := TX4) (N := 8) rfl (by decide) in_X4 (gw_t (List.mem_of_getElem? (i := 136) (by decide +kernel)) rfl)
theorem gf_X4_18 : GF RX4 18 3 3 := GF.mk (C := RX4) (T := TX4) (N := 8) rfl (by decide) in_X4 (gw_t (List.mem_of_getElem? (i := 142) (by decide +kernel)) rfl)
theorem gf_X4_21 : GF RX4 21 3 4 := GF.mk (C := RX4) (T := TX4) (N := 8) rfl (by decide) in_X4 (gw_t (List.mem_of_getElem? (i := 144) (by decide +kernel)) rfl)
theorem gf_X4_24 : GF RX4 24 3 5 := GF.mk (C := RX4) (T := TX4) (N := 8) rfl (by decide) in_X4 (gw_t (List.mem_of_getElem? (i := 146) (by decide +kernel)) rfl)
theorem gf_X4_27 : GF RX4 27 3 7 := GF.mk (C := RX4) (T := TX4) (N := 8) rfl (by decide) in_X4 (gw_t (List.mem_of_getElem? (i := 153) (by decide +kernel)) rfl)
theorem gf_X4_30 : GF RX4 30 3 2 := GF.mk (C := RX4) (T := TX4) (N := 8) rfl (by decide) in_X4 (gw_t (List.mem_of_getElem? (i := 138) (by decide +kernel)) rfl)
theorem gf_X4_34 : GF RX4 34 4 12 := GF.mk (C := RX5) (T := TX5) (N := 17) rfl (by decide) in_X5 (gw_t (List.mem_of_getElem? (i := 81) (by decide +kernel)) rfl)
theorem gf_X4_39 : GF RX4 39 4 11 := GF.mk (C := RX5) (T := TX5) (N := 17) rfl (by decide) in_X5 (gw_t (List.mem_of_getElem? (i := 79) (by decide +kernel)) rfl)
theorem gf_X4_50 : GF RX4 50 4 4 := GF.mk (C := RX5) (T := TX5) (N := 17) rfl (by decide) in_X5 (gw_t (List.mem_of_getElem? (i := 66) (by decide +kernel)) rfl)
theorem gf_X4_53 : GF RX4 53 4 7 := GF.mk (C := RX5) (T := TX5) (N := 17) rfl (by decide) in_X5 (gw_t (List.mem_of_getElem? (i := 71) (by decide +kernel)) rfl)
theorem gf_X4_56 : GF RX4 56 4 9 := GF.mk (C := RX5) (T := TX5) (N := 17) rfl (by decide) in_X5 (gw_t (List.mem_of_getElem? (i := 75) (by decide +kernel)) rfl)
theorem gf_X4_59 : GF RX4 59 4 0 := GF.mk (C := RX5) (T := TX5) (N := 17) rfl (by decide) in_X5 (gw_t (List.mem_of_getElem? (i := 57) (by decide +kernel)) rfl)
theorem gf_X4_76 : GF RX4 76 3 6 := GF.mk (C := RX4) (T := TX4) (N := 8) rfl (by decide) in_X4 (gw_t (List.mem_of_getElem? (i := 151) (by decide +kernel)) rfl)
theorem gf_X4_9 : GF RX4 9 3 0 := GF.mk (C := RX4) (T := TX4) (N := 8) rfl (by decide) in_X4 (gw_t (List.mem_of_getElem? (i := 133) (by decide +kernel)) rfl)
theorem gf_X5_111 : GF RX5 111 4 16 := GF.mk (C := RX5) (T := TX5) (N := 17) rfl (by decide) in_X5 (gw_t (List.mem_of_getElem? (i := 90) (by decide +kernel)) rfl)
theorem gf_X5_114 : GF RX5 114 4 15 := GF.mk (C := RX5) (T := TX5) (N := 17) rfl (by decide) in_X5 (gw_t (List.mem_of_getElem? (i := 88) (by decide +kernel)) rfl)
theorem gf_X5_15 : GF RX5 15 4 1 := GF.mk (C := RX5) (T := TX5) (N := 17) rfl (by decide) in_X5 (gw_t (List.mem_of_getElem? (i := 59) (by decide +kernel)) rfl)
theorem gf_X5_18 : GF RX5 18 4 2 := GF.mk (C := RX5) (T := TX5) (N := 17) rfl (by decide) in_X5 (gw_t (List.mem_of_getElem? (i := 60) (by decide +kernel)) rfl)
theorem gf_X5_21 : GF RX5 21 4 3 := GF.mk (C := RX5) (T := TX5) (N := 17) rfl (by decide) in_X5 (gw_t (List.mem_of_getElem? (i := 63) (by decide +kernel)) rfl)
theorem gf_X5_24 : GF RX5 24 4 4 := GF.mk (C := RX5) (T := TX5) (N := 17) rfl (by decide) in_X5 (gw_t (List.mem_of_getElem? (i := 65) (by decide +kernel)) rfl)
theorem gf_X5_27 : GF RX5 27 4 5 := GF.mk (C := RX5) (T := TX5) (N := 17) rfl (by decide) in_X5 (gw_t (List.mem_of_getElem? (i := 68) (by decide +kernel)) rfl)
theorem gf_X5_31 : GF RX5 31 4 6 := GF.mk (C := RX5) (T := TX5) (N := 17) rfl (by decide) in_X5 (gw_t (List.mem_of_getElem? (i := 69) (by decide +kernel)) rfl)
theorem gf_X5_34 : GF RX5 34 4 7 := GF.mk (C := RX5) (T := TX5) (N := 17) rfl (by decide) in_X5 (gw_t (List.mem_of_getElem? (i := 70) (by decide +kernel)) rfl)
theorem gf_X5_37 : GF RX5 37 4 8 := GF.mk (C := RX5) (T := TX5) (N := 17) rfl (by decide) in_X5 (gw_t (List.mem_of_getElem? (i := 72) (by decide +kernel)) rfl)
theorem gf_X5_40 : GF RX5 40 4 9 := GF.mk (C := RX5) (T := TX5) (N := 17) rfl (by decide) in_X5 (gw_t (List.mem_of_getElem? (i := 74) (by decide +kernel)) rfl)
theorem gf_X5_43 : GF RX5 43 4 11 := GF.mk (C := RX5) (T := TX5) (N := 17) rfl (by decide) in_X5 (gw_t (List.mem_of_getElem? (i := 78) (by decide +kernel)) rfl)
theorem gf_X5_47 : GF RX5 47 4 12 := GF.mk (C := RX5) (T := TX5) (N := 17) rfl (by decide) in_X5 (gw_t (List.mem_of_getElem? (i := 80) (by decide +kernel)) rfl)
theorem gf_X5_50 : GF RX5 50 4 10 := GF.mk (C := RX5) (T := TX5) (N := 17) rfl (by decide) in_X5 (gw_t (List.mem_of_getElem? (i := 77) (by decide +kernel)) rfl)
theorem gf_X5_53 : GF RX5 53 2 2 := GF.mk (C := RX2) (T := TX2) (N := 4) rfl (by decide) in_X2 (gw_t (List.mem_of_getElem? (i := 31) (by decide +kernel)) rfl)
theorem gf_X5_64 : GF RX5 64 2 3 := GF.mk (C := RX2) (T := TX2) (N := 4) rfl (by decide) in_X2 (gw_t (List.mem_of_getElem? (i := 33) (by decide +kernel)) rfl)
theorem gf_X5_67 : GF RX5 67 4 13 := GF.mk (C := RX5) (T := TX5) (N := 17) rfl (by decide) in_X5 (gw_t (List.mem_of_getElem? (i := 82) (by decide +kernel)) rfl)
theorem gf_X5_70 : GF RX5 70 4 14 := GF.mk (C := RX5) (T := TX5) (N := 17) rfl (by decide) in_X5 (gw_t (List.mem_of_getElem? (i := 85) (by decide +kernel)) rfl)
theorem gf_X5_9 : GF RX5 9 4 0 := GF.mk (C := RX5) (T := TX5) (N := 17) rfl (by decide) in_X5 (gw_t (List.mem_of_getElem? (i := 56) (by decide +kernel)) rfl)
theorem gf_X6_18 : GF RX6 18 5 2 := GF.mk (C := RX6) (T := TX6) (N := 6) rfl (by decide) in_X6 (gw_t (List.mem_of_getElem? (i := 245) (by decide +kernel)) rfl)
theorem gf_X6_25 : GF RX6 25 5 3 := GF.mk (C := RX6) (T := TX6) (N := 6) rfl (by decide) in_X6 (gw_t (List.mem_of_getElem? (i := 247) (by decide +kernel)) rfl)
theorem gf_X6_32 : GF RX6 32 5 4 := GF.mk (C := RX6) (T := TX6) (N := 6) rfl (by decide) in_X6 (gw_t (List.mem_of_getElem? (i := 249) (by decide +kernel)) rfl)
theorem gf_X6_36 : GF RX6 36 5 0 := GF.mk (C := RX6) (T := TX6) (N := 6) rfl (by decide) in_X6 (gw_t (List.mem_of_getElem? (i := 242) (by decide +kernel)) rfl)
theorem gf_X6_43 : GF RX6 43 5 5 := GF.mk (C := RX6) (T := TX6) (N := 6) rfl (by decide) in_X6 (gw_t (List.mem_of_getElem? (i := 251) (by decide +kernel)) rfl)
theorem gf_X6_62 : GF RX6 62 4 13 := GF.mk (C := RX5) (T := TX5) (N := 17) rfl (by decide) in_X5 (gw_t (List.mem_of_getElem? (i := 83) (by decide +kernel)) rfl)
theorem gf_X6_65 : GF RX6 65 4 14 := GF.mk (C := RX5) (T := TX5) (N := 17) rfl (by decide) in_X5 (gw_t (List.mem_of_getElem? (i := 86) (by decide +kernel)) rfl)
theorem gf_X6_68 : GF RX6 68 4 15 := GF.mk (C := RX5) (T := TX5) (N := 17) rfl (by decide) in_X5 (gw_t (List.mem_of_getElem? (i := 87) (by decide +kernel)) rfl)
theorem gf_X6_71 : GF RX6 71 4 16 := GF.mk (C := RX5) (T := TX5) (N := 17) rfl (by decide) in_X5 (gw_t (List.mem_of_getElem? (i := 89) (by decide +kernel)) rfl)
theorem gf_X6_74 : GF RX6 74 3 2 := GF.mk (C := RX4) (T := TX4) (N := 8) rfl (by decide) in_X4 (gw_t (List.mem_of_getElem? (i := 140) (by decide +kernel)) rfl)
theorem gf_X6_77 : GF RX6 77 3 6 := GF.mk (C := RX4) (T := TX4) (N := 8) rfl (by decide) in_X4 (gw_t (List.mem_of_getElem? (i := 150) (by decide +kernel)) rfl)
theorem gf_X6_78 : GF RX6 78 1 1 := GF.mk (C := RX1) (T := TX1) (N := 5) rfl (by decide) in_X1 (gw_t (List.mem_of_getElem? (i := 223) (by decide +kernel)) rfl)
theorem gf_X6_9 : GF RX6 9 5 1 := GF.mk (C := RX6) (T := TX6) (N := 6) rfl (by decide) in_X6 (gw_t (List.mem_of_getElem? (i := 243) (by decide +kernel)) rfl)
theorem mm_X0_87 : Cond.methodLink RX0 87 Lib.Math.abs.name ∈ gwl := gw_t (List.mem_of_getElem? (i := 504) (by decide +kernel)) rfl
theorem mm_X0_92 : Cond.methodLink RX0 92 Lib.Math.max.name ∈ gwl := gw_t (List.mem_of_getElem? (i := 564) (by decide +kernel)) rfl
theorem mm_X1_72 : Cond.methodLink RX1 72 Lib.Math.min.name ∈ gwl := gw_t (List.mem_of_getElem? (i := 482) (by decide +kernel)) rfl
theorem mm_X4_66 : Cond.methodLink RX4 66 Lib.Math.abs.name ∈ gwl := gw_t (List.mem_of_getElem? (i := 411) (by decide +kernel)) rfl
theorem mm_X4_82 : Cond.methodLink RX4 82 Lib.Math.min.name ∈ gwl := gw_t (List.mem_of_getElem? (i := 435) (by decide +kernel)) rfl
theorem mm_X5_58 : Cond.methodLink RX5 58 Lib.Math.max.name ∈ gwl := gw_t (List.mem_of_getElem? (i := 363) (by decide +kernel)) rfl
theorem mm_X5_91 : Cond.methodLink RX5 91 Lib.Math.min.name ∈ gwl := gw_t (List.mem_of_getElem? (i := 369) (by decide +kernel)) rfl
theorem ml_X0_35 : Cond.methodLink RX0 35 yX3_clear ∈ gwl := gw_t (List.mem_of_getElem? (i := 458) (by decide +kernel)) rfl
theorem ml_X0_41 : Cond.methodLink RX0 41 yX3_spread ∈ gwl := gw_t (List.mem_of_getElem? (i := 459) (by decide +kernel)) rfl
theorem ml_X0_45 : Cond.methodLink RX0 45 yX3_size ∈ gwl := gw_t (List.mem_of_getElem? (i := 465) (by decide +kernel)) rfl
theorem ml_X0_64 : Cond.methodLink RX0 64 yX3_widen ∈ gwl := gw_t (List.mem_of_getElem? (i := 496) (by decide +kernel)) rfl
theorem ml_X0_71 : Cond.methodLink RX0 71 yX0_missOf ∈ gwl := gw_t (List.mem_of_getElem? (i := 499) (by decide +kernel)) rfl
theorem ml_X0_78 : Cond.methodLink RX0 78 yX2_has ∈ gwl := gw_t (List.mem_of_getElem? (i := 503) (by decide +kernel)) rfl
theorem ml_X0_96 : Cond.methodLink RX0 96 yX0_rowOf ∈ gwl := gw_t (List.mem_of_getElem? (i := 577) (by decide +kernel)) rfl
theorem ml_X1_34 : Cond.methodLink RX1 34 yX3_clear ∈ gwl := gw_t (List.mem_of_getElem? (i := 440) (by decide +kernel)) rfl
theorem ml_X1_45 : Cond.methodLink RX1 45 yX4_shiftOfPair ∈ gwl := gw_t (List.mem_of_getElem? (i := 443) (by decide +kernel)) rfl
theorem ml_X1_60 : Cond.methodLink RX1 60 yX1_addRegion ∈ gwl := gw_t (List.mem_of_getElem? (i := 448) (by decide +kernel)) rfl
theorem ml_X1_64 : Cond.methodLink RX1 64 yX0_begin ∈ gwl := gw_t (List.mem_of_getElem? (i := 452) (by decide +kernel)) rfl
theorem ml_X1_68 : Cond.methodLink RX1 68 yX1_settle ∈ gwl := gw_t (List.mem_of_getElem? (i := 474) (by decide +kernel)) rfl
theorem ml_X1_78 : Cond.methodLink RX1 78 yX0_lift ∈ gwl := gw_t (List.mem_of_getElem? (i := 487) (by decide +kernel)) rfl
theorem ml_X1_82 : Cond.methodLink RX1 82 yX0_grow ∈ gwl := gw_t (List.mem_of_getElem? (i := 492) (by decide +kernel)) rfl
theorem ml_X1_86 : Cond.methodLink RX1 86 yX0_isAhead ∈ gwl := gw_t (List.mem_of_getElem? (i := 478) (by decide +kernel)) rfl
theorem ml_X1_90 : Cond.methodLink RX1 90 yX0_rowOf ∈ gwl := gw_t (List.mem_of_getElem? (i := 586) (by decide +kernel)) rfl
theorem ml_X1_93 : Cond.methodLink RX1 93 yX0_copyRowOf ∈ gwl := gw_t (List.mem_of_getElem? (i := 587) (by decide +kernel)) rfl
theorem ml_X1_96 : Cond.methodLink RX1 96 yX1_columnsOf ∈ gwl := gw_t (List.mem_of_getElem? (i := 604) (by decide +kernel)) rfl
theorem ml_X1_99 : Cond.methodLink RX1 99 yJ6_bitCount_0f7a4 ∈ gwl := gw_t (List.mem_of_getElem? (i := 605) (by decide +kernel)) rfl
theorem ml_X2_25 : Cond.methodLink RX2 25 yX2_has ∈ gwl := gw_t (List.mem_of_getElem? (i := 302) (by decide +kernel)) rfl
theorem ml_X3_15 : Cond.methodLink RX3 15 yX3_spreadOnce ∈ gwl := gw_t (List.mem_of_getElem? (i := 462) (by decide +kernel)) rfl
theorem ml_X3_21 : Cond.methodLink RX3 21 yX3_columns ∈ gwl := gw_t (List.mem_of_getElem? (i := 548) (by decide +kernel)) rfl
theorem ml_X3_9 : Cond.methodLink RX3 9 yJ6_bitCount_0f7a4 ∈ gwl := gw_t (List.mem_of_getElem? (i := 468) (by decide +kernel)) rfl
theorem ml_X4_42 : Cond.methodLink RX4 42 yX4_pairUp ∈ gwl := gw_t (List.mem_of_getElem? (i := 403) (by decide +kernel)) rfl
theorem ml_X4_46 : Cond.methodLink RX4 46 yX4_choose ∈ gwl := gw_t (List.mem_of_getElem? (i := 417) (by decide +kernel)) rfl
theorem ml_X4_62 : Cond.methodLink RX4 62 yX4_addPair ∈ gwl := gw_t (List.mem_of_getElem? (i := 407) (by decide +kernel)) rfl
theorem ml_X4_79 : Cond.methodLink RX4 79 yX4_settle ∈ gwl := gw_t (List.mem_of_getElem? (i := 421) (by decide +kernel)) rfl
theorem ml_X4_85 : Cond.methodLink RX4 85 yX4_isAhead ∈ gwl := gw_t (List.mem_of_getElem? (i := 425) (by decide +kernel)) rfl
theorem ml_X5_107 : Cond.methodLink RX5 107 yX5_isBefore ∈ gwl := gw_t (List.mem_of_getElem? (i := 382) (by decide +kernel)) rfl
theorem ml_X5_117 : Cond.methodLink RX5 117 yX5_areAlike ∈ gwl := gw_t (List.mem_of_getElem? (i := 391) (by decide +kernel)) rfl
theorem ml_X5_120 : Cond.methodLink RX5 120 yX5_noteKind ∈ gwl := gw_t (List.mem_of_getElem? (i := 395) (by decide +kernel)) rfl
theorem ml_X5_73 : Cond.methodLink RX5 73 yX5_measure ∈ gwl := gw_t (List.mem_of_getElem? (i := 364) (by decide +kernel)) rfl
theorem ml_X5_77 : Cond.methodLink RX5 77 yX5_readNumbers ∈ gwl := gw_t (List.mem_of_getElem? (i := 370) (by decide +kernel)) rfl
theorem ml_X5_81 : Cond.methodLink RX5 81 yX5_sort ∈ gwl := gw_t (List.mem_of_getElem? (i := 374) (by decide +kernel)) rfl
theorem ml_X5_84 : Cond.methodLink RX5 84 yX5_splitKinds ∈ gwl := gw_t (List.mem_of_getElem? (i := 387) (by decide +kernel)) rfl
theorem ml_X5_88 : Cond.methodLink RX5 88 yX2_greyOf ∈ gwl := gw_t (List.mem_of_getElem? (i := 368) (by decide +kernel)) rfl
theorem ml_X5_94 : Cond.methodLink RX5 94 yX5_numberOf ∈ gwl := gw_t (List.mem_of_getElem? (i := 513) (by decide +kernel)) rfl
theorem ml_X5_97 : Cond.methodLink RX5 97 yX5_merge ∈ gwl := gw_t (List.mem_of_getElem? (i := 378) (by decide +kernel)) rfl
theorem ml_X6_47 : Cond.methodLink RX6 47 yX5_read ∈ gwl := gw_t (List.mem_of_getElem? (i := 359) (by decide +kernel)) rfl
theorem ml_X6_51 : Cond.methodLink RX6 51 yX4_gather ∈ gwl := gw_t (List.mem_of_getElem? (i := 399) (by decide +kernel)) rfl
theorem ml_X6_55 : Cond.methodLink RX6 55 yX1_gather ∈ gwl := gw_t (List.mem_of_getElem? (i := 436) (by decide +kernel)) rfl
theorem ml_X6_58 : Cond.methodLink RX6 58 yX1_grow ∈ gwl := gw_t (List.mem_of_getElem? (i := 483) (by decide +kernel)) rfl
theorem ml_X6_79 : Cond.methodLink RX6 79 yX1_placesSeen ∈ gwl := gw_t (List.mem_of_getElem? (i := 600) (by decide +kernel)) rfl
theorem mn_X0_19 : Cond.methodLinkNest RX0 19 yX7_acrossOf "CopiedPatches" ∈ tables_1 := List.mem_of_getElem? (i := 456) (by decide +kernel)
theorem mn_X0_26 : Cond.methodLinkNest RX0 26 yX7_downOf "CopiedPatches" ∈ tables_1 := List.mem_of_getElem? (i := 457) (by decide +kernel)
theorem mn_X0_52 : Cond.methodLinkNest RX0 52 yX7_isWithin "CopiedPatches" ∈ tables_1 := List.mem_of_getElem? (i := 491) (by decide +kernel)
theorem mn_X1_49 : Cond.methodLinkNest RX1 49 yX7_isWithin "CopiedPatches" ∈ tables_1 := List.mem_of_getElem? (i := 447) (by decide +kernel)
theorem mn_X4_72 : Cond.methodLinkNest RX4 72 yX7_wayOf "CopiedPatches" ∈ tables_1 := List.mem_of_getElem? (i := 414) (by decide +kernel)
theorem mn_X4_89 : Cond.methodLinkNest RX4 89 yX7_acrossOf "CopiedPatches" ∈ tables_1 := List.mem_of_getElem? (i := 429) (by decide +kernel)
theorem mn_X4_92 : Cond.methodLinkNest RX4 92 yX7_downOf "CopiedPatches" ∈ tables_1 := List.mem_of_getElem? (i := 432) (by decide +kernel)
theorem pf_X0_15 : PF RX0 15 0 1 := ⟨RX0, TX0, 9, tyX0, rfl, by decide, in_X0, gw_t (List.mem_of_getElem? (i := 188) (by decide +kernel)) rfl, tyX0_ok, nmX0, rfl, by decide +kernel⟩
theorem pf_X0_23 : PF RX0 23 0 2 := ⟨RX0, TX0, 9, tyX0, rfl, by decide, in_X0, gw_t (List.mem_of_getElem? (i := 190) (by decide +kernel)) rfl, tyX0_ok, nmX0, rfl, by decide +kernel⟩
theorem pf_X0_29 : PF RX0 29 0 3 := ⟨RX0, TX0, 9, tyX0, rfl, by decide, in_X0, gw_t (List.mem_of_getElem? (i := 191) (by decide +kernel)) rfl, tyX0_ok, nmX0, rfl, by decide +kernel⟩
theorem pf_X0_32 : PF RX0 32 0 4 := ⟨RX0, TX0, 9, tyX0, rfl, by decide, in_X0, gw_t (List.mem_of_getElem? (i := 192) (by decide +kernel)) rfl, tyX0_ok, nmX0, rfl, by decide +kernel⟩
theorem pf_X0_49 : PF RX0 49 0 5 := ⟨RX0, TX0, 9, tyX0, rfl, by decide, in_X0, gw_t (List.mem_of_getElem? (i := 193) (by decide +kernel)) rfl, tyX0_ok, nmX0, rfl, by decide +kernel⟩
theorem pf_X0_61 : PF RX0 61 0 6 := ⟨RX0, TX0, 9, tyX0, rfl, by decide, in_X0, gw_t (List.mem_of_getElem? (i := 195) (by decide +kernel)) rfl, tyX0_ok, nmX0, rfl, by decide +kernel⟩
theorem pf_X0_68 : PF RX0 68 0 7 := ⟨RX0, TX0, 9, tyX0, rfl, by decide, in_X0, gw_t (List.mem_of_getElem? (i := 197) (by decide +kernel)) rfl, tyX0_ok, nmX0, rfl, by decide +kernel⟩
theorem pf_X0_75 : PF RX0 75 0 8 := ⟨RX0, TX0, 9, tyX0, rfl, by decide, in_X0, gw_t (List.mem_of_getElem? (i := 199) (by decide +kernel)) rfl, tyX0_ok, nmX0, rfl, by decide +kernel⟩
theorem pf_X1_30 : PF RX1 30 1 1 := ⟨RX1, TX1, 5, tyX1, rfl, by decide, in_X1, gw_t (List.mem_of_getElem? (i := 222) (by decide +kernel)) rfl, tyX1_ok, nmX1, rfl, by decide +kernel⟩
theorem pf_X2_18 : PF RX2 18 2 2 := ⟨RX2, TX2, 4, tyX2, rfl, by decide, in_X2, gw_t (List.mem_of_getElem? (i := 30) (by decide +kernel)) rfl, tyX2_ok, nmX2, rfl, by decide +kernel⟩
theorem pf_X2_22 : PF RX2 22 2 3 := ⟨RX2, TX2, 4, tyX2, rfl, by decide, in_X2, gw_t (List.mem_of_getElem? (i := 32) (by decide +kernel)) rfl, tyX2_ok, nmX2, rfl, by decide +kernel⟩
theorem pf_X4_30 : PF RX4 30 3 2 := ⟨RX4, TX4, 8, tyX4, rfl, by decide, in_X4, gw_t (List.mem_of_getElem? (i := 138) (by decide +kernel)) rfl, tyX4_ok, nmX4, rfl, by decide +kernel⟩
theorem pf_X4_76 : PF RX4 76 3 6 := ⟨RX4, TX4, 8, tyX4, rfl, by decide, in_X4, gw_t (List.mem_of_getElem? (i := 151) (by decide +kernel)) rfl, tyX4_ok, nmX4, rfl, by decide +kernel⟩
theorem pf_X5_111 : PF RX5 111 4 16 := ⟨RX5, TX5, 17, tyX5, rfl, by decide, in_X5, gw_t (List.mem_of_getElem? (i := 90) (by decide +kernel)) rfl, tyX5_ok, nmX5, rfl, by decide +kernel⟩
theorem pf_X5_114 : PF RX5 114 4 15 := ⟨RX5, TX5, 17, tyX5, rfl, by decide, in_X5, gw_t (List.mem_of_getElem? (i := 88) (by decide +kernel)) rfl, tyX5_ok, nmX5, rfl, by decide +kernel⟩
theorem pf_X5_43 : PF RX5 43 4 11 := ⟨RX5, TX5, 17, tyX5, rfl, by decide, in_X5, gw_t (List.mem_of_getElem? (i := 78) (by decide +kernel)) rfl, tyX5_ok, nmX5, rfl, by decide +kernel⟩
theorem pf_X5_47 : PF RX5 47 4 12 := ⟨RX5, TX5, 17, tyX5, rfl, by decide, in_X5, gw_t (List.mem_of_getElem? (i := 80) (by decide +kernel)) rfl, tyX5_ok, nmX5, rfl, by decide +kernel⟩
theorem pf_X5_50 : PF RX5 50 4 10 := ⟨RX5, TX5, 17, tyX5, rfl, by decide, in_X5, gw_t (List.mem_of_getElem? (i := 77) (by decide +kernel)) rfl, tyX5_ok, nmX5, rfl, by decide +kernel⟩
theorem pf_X5_67 : PF RX5 67 4 13 := ⟨RX5, TX5, 17, tyX5, rfl, by decide, in_X5, gw_t (List.mem_of_getElem? (i := 82) (by decide +kernel)) rfl, tyX5_ok, nmX5, rfl, by decide +kernel⟩
theorem pf_X5_70 : PF RX5 70 4 14 := ⟨RX5, TX5, 17, tyX5, rfl, by decide, in_X5, gw_t (List.mem_of_getElem? (i := 85) (by decide +kernel)) rfl, tyX5_ok, nmX5, rfl, by decide +kernel⟩
theorem pf_X6_43 : PF RX6 43 5 5 := ⟨RX6, TX6, 6, tyX6, rfl, by decide, in_X6, gw_t (List.mem_of_getElem? (i := 251) (by decide +kernel)) rfl, tyX6_ok, nmX6, rfl, by decide +kernel⟩
theorem cp_X2_29 : Cond.methodLink RX2 29 arraycopyName ∈ gwl := gw_t (List.mem_of_getElem? (i := 333) (by decide +kernel)) rfl
theorem cp_X5_101 : Cond.methodLink RX5 101 arraycopyName ∈ gwl := gw_t (List.mem_of_getElem? (i := 386) (by decide +kernel)) rfl
