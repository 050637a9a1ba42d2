theorem in_X7 : ∀ w ∈ u_ws RX7 TX7 3, w ∈ gwl := fun w h => gw_t ((by decide +kernel : ∀ w ∈ u_ws RX7 TX7 3, w ∈ tables_1) w h) ((by decide +kernel : ∀ w ∈ u_ws RX7 TX7 3, goodWord w = true) w h)
theorem cb_X0_missesTogether : CBV yX0_missesTogether cX0_missesTogether 5 (some .int) 1 := ⟨gw_t (List.mem_of_getElem? (i := 561) (by decide +kernel)) rfl, gw_t (List.mem_of_getElem? (i := 562) (by decide +kernel)) rfl, gw_t (List.mem_of_getElem? (i := 7) (by decide +kernel)) rfl, gw_t (List.mem_of_getElem? (i := 563) (by decide +kernel)) rfl, by decide +kernel⟩
theorem cb_X2_change : CBV yX2_change cX2_change 4 (some .int) 3 := ⟨gw_t (List.mem_of_getElem? (i := 304) (by decide +kernel)) rfl, gw_t (List.mem_of_getElem? (i := 305) (by decide +kernel)) rfl, gw_t (List.mem_of_getElem? (i := 2) (by decide +kernel)) rfl, gw_t (List.mem_of_getElem? (i := 306) (by decide +kernel)) rfl, by decide +kernel⟩
theorem cb_X2_hasFrom : CBV yX2_hasFrom cX2_hasFrom 5 (some .boolean) 4 := ⟨gw_t (List.mem_of_getElem? (i := 316) (by decide +kernel)) rfl, gw_t (List.mem_of_getElem? (i := 317) (by decide +kernel)) rfl, gw_t (List.mem_of_getElem? (i := 2) (by decide +kernel)) rfl, gw_t (List.mem_of_getElem? (i := 318) (by decide +kernel)) rfl, by decide +kernel⟩
theorem cb_X2_remember : CBV yX2_remember cX2_remember 1 none 0 := ⟨gw_t (List.mem_of_getElem? (i := 330) (by decide +kernel)) rfl, gw_t (List.mem_of_getElem? (i := 331) (by decide +kernel)) rfl, gw_t (List.mem_of_getElem? (i := 2) (by decide +kernel)) rfl, gw_t (List.mem_of_getElem? (i := 332) (by decide +kernel)) rfl, by decide +kernel⟩
theorem cb_X2_rememberedOf : CBV yX2_rememberedOf cX2_rememberedOf 3 (some .int) 2 := ⟨gw_t (List.mem_of_getElem? (i := 337) (by decide +kernel)) rfl, gw_t (List.mem_of_getElem? (i := 338) (by decide +kernel)) rfl, gw_t (List.mem_of_getElem? (i := 2) (by decide +kernel)) rfl, gw_t (List.mem_of_getElem? (i := 339) (by decide +kernel)) rfl, by decide +kernel⟩
theorem cb_X2_renew : CBV yX2_renew cX2_renew 4 (some .int) 2 := ⟨gw_t (List.mem_of_getElem? (i := 287) (by decide +kernel)) rfl, gw_t (List.mem_of_getElem? (i := 288) (by decide +kernel)) rfl, gw_t (List.mem_of_getElem? (i := 2) (by decide +kernel)) rfl, gw_t (List.mem_of_getElem? (i := 289) (by decide +kernel)) rfl, by decide +kernel⟩
theorem cb_X3_greatestColumn : CBS yX3_greatestColumn cX3_greatestColumn 3 (some .int) 1 := ⟨gw_t (List.mem_of_getElem? (i := 552) (by decide +kernel)) rfl, gw_t (List.mem_of_getElem? (i := 11) (by decide +kernel)) rfl, gw_t (List.mem_of_getElem? (i := 553) (by decide +kernel)) rfl, by decide +kernel⟩
theorem cb_X3_greatestRow : CBS yX3_greatestRow cX3_greatestRow 2 (some .int) 1 := ⟨gw_t (List.mem_of_getElem? (i := 558) (by decide +kernel)) rfl, gw_t (List.mem_of_getElem? (i := 11) (by decide +kernel)) rfl, gw_t (List.mem_of_getElem? (i := 559) (by decide +kernel)) rfl, by decide +kernel⟩
theorem cb_X3_leastColumn : CBS yX3_leastColumn cX3_leastColumn 3 (some .int) 1 := ⟨gw_t (List.mem_of_getElem? (i := 546) (by decide +kernel)) rfl, gw_t (List.mem_of_getElem? (i := 11) (by decide +kernel)) rfl, gw_t (List.mem_of_getElem? (i := 547) (by decide +kernel)) rfl, by decide +kernel⟩
theorem cb_X3_leastRow : CBS yX3_leastRow cX3_leastRow 2 (some .int) 1 := ⟨gw_t (List.mem_of_getElem? (i := 555) (by decide +kernel)) rfl, gw_t (List.mem_of_getElem? (i := 11) (by decide +kernel)) rfl, gw_t (List.mem_of_getElem? (i := 556) (by decide +kernel)) rfl, by decide +kernel⟩
theorem cb_X5_has : CBV yX5_has cX5_has 3 (some .boolean) 2 := ⟨gw_t (List.mem_of_getElem? (i := 506) (by decide +kernel)) rfl, gw_t (List.mem_of_getElem? (i := 507) (by decide +kernel)) rfl, gw_t (List.mem_of_getElem? (i := 4) (by decide +kernel)) rfl, gw_t (List.mem_of_getElem? (i := 508) (by decide +kernel)) rfl, by decide +kernel⟩
theorem cb_X5_markOf : CBV yX5_markOf cX5_markOf 4 (some .int) 1 := ⟨gw_t (List.mem_of_getElem? (i := 510) (by decide +kernel)) rfl, gw_t (List.mem_of_getElem? (i := 511) (by decide +kernel)) rfl, gw_t (List.mem_of_getElem? (i := 4) (by decide +kernel)) rfl, gw_t (List.mem_of_getElem? (i := 512) (by decide +kernel)) rfl, by decide +kernel⟩
theorem cb_X6_forget : CBV yX6_forget cX6_forget 1 none 0 := ⟨gw_t (List.mem_of_getElem? (i := 283) (by decide +kernel)) rfl, gw_t (List.mem_of_getElem? (i := 284) (by decide +kernel)) rfl, gw_t (List.mem_of_getElem? (i := 3) (by decide +kernel)) rfl, gw_t (List.mem_of_getElem? (i := 285) (by decide +kernel)) rfl, by decide +kernel⟩
theorem cb_X6_howMany : CBV yX6_howMany cX6_howMany 2 (some .int) 1 := ⟨gw_t (List.mem_of_getElem? (i := 597) (by decide +kernel)) rfl, gw_t (List.mem_of_getElem? (i := 598) (by decide +kernel)) rfl, gw_t (List.mem_of_getElem? (i := 3) (by decide +kernel)) rfl, gw_t (List.mem_of_getElem? (i := 599) (by decide +kernel)) rfl, by decide +kernel⟩
theorem cb_X6_reach : CBV yX6_reach cX6_reach 2 none 1 := ⟨gw_t (List.mem_of_getElem? (i := 356) (by decide +kernel)) rfl, gw_t (List.mem_of_getElem? (i := 357) (by decide +kernel)) rfl, gw_t (List.mem_of_getElem? (i := 3) (by decide +kernel)) rfl, gw_t (List.mem_of_getElem? (i := 358) (by decide +kernel)) rfl, by decide +kernel⟩
theorem cb_X7_isSetting : CBS yX7_isSetting cX7_isSetting 2 (some .boolean) 2 := ⟨gw_t (List.mem_of_getElem? (i := 345) (by decide +kernel)) rfl, gw_t (List.mem_of_getElem? (i := 1) (by decide +kernel)) rfl, gw_t (List.mem_of_getElem? (i := 346) (by decide +kernel)) rfl, by decide +kernel⟩
theorem cb_X7_stageOfCount : CBS yX7_stageOfCount cX7_stageOfCount 1 (some .int) 1 := ⟨gw_t (List.mem_of_getElem? (i := 594) (by decide +kernel)) rfl, gw_t (List.mem_of_getElem? (i := 1) (by decide +kernel)) rfl, gw_t (List.mem_of_getElem? (i := 595) (by decide +kernel)) rfl, by decide +kernel⟩
theorem gf_X7_102 : GF RX7 102 4 9 := GF.mk (C := RX5) (T := TX5) (N := 17) rfl (by decide) in_X5 (gw_t (List.mem_of_getElem? (i := 76) (by decide +kernel)) rfl)
theorem gf_X7_105 : GF RX7 105 4 8 := GF.mk (C := RX5) (T := TX5) (N := 17) rfl (by decide) in_X5 (gw_t (List.mem_of_getElem? (i := 73) (by decide +kernel)) rfl)
theorem gf_X7_108 : GF RX7 108 5 3 := GF.mk (C := RX6) (T := TX6) (N := 6) rfl (by decide) in_X6 (gw_t (List.mem_of_getElem? (i := 248) (by decide +kernel)) rfl)
theorem gf_X7_112 : GF RX7 112 3 3 := GF.mk (C := RX4) (T := TX4) (N := 8) rfl (by decide) in_X4 (gw_t (List.mem_of_getElem? (i := 143) (by decide +kernel)) rfl)
theorem gf_X7_117 : GF RX7 117 4 13 := GF.mk (C := RX5) (T := TX5) (N := 17) rfl (by decide) in_X5 (gw_t (List.mem_of_getElem? (i := 84) (by decide +kernel)) rfl)
theorem gf_X7_12 : GF RX7 12 6 0 := GF.mk (C := RX7) (T := TX7) (N := 3) rfl (by decide) in_X7 (gw_t (List.mem_of_getElem? (i := 265) (by decide +kernel)) rfl)
theorem gf_X7_121 : GF RX7 121 4 0 := GF.mk (C := RX5) (T := TX5) (N := 17) rfl (by decide) in_X5 (gw_t (List.mem_of_getElem? (i := 58) (by decide +kernel)) rfl)
theorem gf_X7_124 : GF RX7 124 3 2 := GF.mk (C := RX4) (T := TX4) (N := 8) rfl (by decide) in_X4 (gw_t (List.mem_of_getElem? (i := 141) (by decide +kernel)) rfl)
theorem gf_X7_127 : GF RX7 127 3 0 := GF.mk (C := RX4) (T := TX4) (N := 8) rfl (by decide) in_X4 (gw_t (List.mem_of_getElem? (i := 135) (by decide +kernel)) rfl)
theorem gf_X7_130 : GF RX7 130 3 1 := GF.mk (C := RX4) (T := TX4) (N := 8) rfl (by decide) in_X4 (gw_t (List.mem_of_getElem? (i := 137) (by decide +kernel)) rfl)
theorem gf_X7_133 : GF RX7 133 3 4 := GF.mk (C := RX4) (T := TX4) (N := 8) rfl (by decide) in_X4 (gw_t (List.mem_of_getElem? (i := 145) (by decide +kernel)) rfl)
theorem gf_X7_139 : GF RX7 139 3 6 := GF.mk (C := RX4) (T := TX4) (N := 8) rfl (by decide) in_X4 (gw_t (List.mem_of_getElem? (i := 152) (by decide +kernel)) rfl)
theorem gf_X7_140 : GF RX7 140 3 5 := GF.mk (C := RX4) (T := TX4) (N := 8) rfl (by decide) in_X4 (gw_t (List.mem_of_getElem? (i := 148) (by decide +kernel)) rfl)
theorem gf_X7_149 : GF RX7 149 5 4 := GF.mk (C := RX6) (T := TX6) (N := 6) rfl (by decide) in_X6 (gw_t (List.mem_of_getElem? (i := 250) (by decide +kernel)) rfl)
theorem gf_X7_153 : GF RX7 153 1 2 := GF.mk (C := RX1) (T := TX1) (N := 5) rfl (by decide) in_X1 (gw_t (List.mem_of_getElem? (i := 226) (by decide +kernel)) rfl)
theorem gf_X7_158 : GF RX7 158 1 1 := GF.mk (C := RX1) (T := TX1) (N := 5) rfl (by decide) in_X1 (gw_t (List.mem_of_getElem? (i := 224) (by decide +kernel)) rfl)
theorem gf_X7_159 : GF RX7 159 1 0 := GF.mk (C := RX1) (T := TX1) (N := 5) rfl (by decide) in_X1 (gw_t (List.mem_of_getElem? (i := 221) (by decide +kernel)) rfl)
theorem gf_X7_163 : GF RX7 163 0 1 := GF.mk (C := RX0) (T := TX0) (N := 9) rfl (by decide) in_X0 (gw_t (List.mem_of_getElem? (i := 189) (by decide +kernel)) rfl)
theorem gf_X7_168 : GF RX7 168 0 5 := GF.mk (C := RX0) (T := TX0) (N := 9) rfl (by decide) in_X0 (gw_t (List.mem_of_getElem? (i := 194) (by decide +kernel)) rfl)
theorem gf_X7_169 : GF RX7 169 0 7 := GF.mk (C := RX0) (T := TX0) (N := 9) rfl (by decide) in_X0 (gw_t (List.mem_of_getElem? (i := 198) (by decide +kernel)) rfl)
theorem gf_X7_172 : GF RX7 172 0 8 := GF.mk (C := RX0) (T := TX0) (N := 9) rfl (by decide) in_X0 (gw_t (List.mem_of_getElem? (i := 200) (by decide +kernel)) rfl)
theorem gf_X7_175 : GF RX7 175 0 0 := GF.mk (C := RX0) (T := TX0) (N := 9) rfl (by decide) in_X0 (gw_t (List.mem_of_getElem? (i := 187) (by decide +kernel)) rfl)
theorem gf_X7_193 : GF RX7 193 0 6 := GF.mk (C := RX0) (T := TX0) (N := 9) rfl (by decide) in_X0 (gw_t (List.mem_of_getElem? (i := 196) (by decide +kernel)) rfl)
theorem gf_X7_21 : GF RX7 21 6 1 := GF.mk (C := RX7) (T := TX7) (N := 3) rfl (by decide) in_X7 (gw_t (List.mem_of_getElem? (i := 266) (by decide +kernel)) rfl)
theorem gf_X7_25 : GF RX7 25 6 2 := GF.mk (C := RX7) (T := TX7) (N := 3) rfl (by decide) in_X7 (gw_t (List.mem_of_getElem? (i := 267) (by decide +kernel)) rfl)
theorem gf_X7_71 : GF RX7 71 5 1 := GF.mk (C := RX6) (T := TX6) (N := 6) rfl (by decide) in_X6 (gw_t (List.mem_of_getElem? (i := 244) (by decide +kernel)) rfl)
theorem gf_X7_79 : GF RX7 79 5 2 := GF.mk (C := RX6) (T := TX6) (N := 6) rfl (by decide) in_X6 (gw_t (List.mem_of_getElem? (i := 246) (by decide +kernel)) rfl)
theorem gf_X7_93 : GF RX7 93 4 2 := GF.mk (C := RX5) (T := TX5) (N := 17) rfl (by decide) in_X5 (gw_t (List.mem_of_getElem? (i := 62) (by decide +kernel)) rfl)
theorem gf_X7_96 : GF RX7 96 4 3 := GF.mk (C := RX5) (T := TX5) (N := 17) rfl (by decide) in_X5 (gw_t (List.mem_of_getElem? (i := 64) (by decide +kernel)) rfl)
theorem gf_X7_99 : GF RX7 99 4 4 := GF.mk (C := RX5) (T := TX5) (N := 17) rfl (by decide) in_X5 (gw_t (List.mem_of_getElem? (i := 67) (by decide +kernel)) rfl)
theorem mm_X7_54 : Cond.methodLink RX7 54 Lib.Math.min.name ∈ gwl := gw_t (List.mem_of_getElem? (i := 319) (by decide +kernel)) rfl
theorem mm_X7_59 : Cond.methodLink RX7 59 Lib.Math.max.name ∈ gwl := gw_t (List.mem_of_getElem? (i := 322) (by decide +kernel)) rfl
theorem ml_X7_136 : Cond.methodLink RX7 136 yX7_wayOf ∈ gwl := gw_t (List.mem_of_getElem? (i := 534) (by decide +kernel)) rfl
theorem ml_X7_143 : Cond.methodLink RX7 143 yX7_acrossOf ∈ gwl := gw_t (List.mem_of_getElem? (i := 539) (by decide +kernel)) rfl
theorem ml_X7_146 : Cond.methodLink RX7 146 yX7_downOf ∈ gwl := gw_t (List.mem_of_getElem? (i := 540) (by decide +kernel)) rfl
theorem ml_X7_178 : Cond.methodLink RX7 178 yX3_leastColumn ∈ gwl := gw_t (List.mem_of_getElem? (i := 545) (by decide +kernel)) rfl
theorem ml_X7_184 : Cond.methodLink RX7 184 yX3_greatestColumn ∈ gwl := gw_t (List.mem_of_getElem? (i := 551) (by decide +kernel)) rfl
theorem ml_X7_187 : Cond.methodLink RX7 187 yX3_leastRow ∈ gwl := gw_t (List.mem_of_getElem? (i := 554) (by decide +kernel)) rfl
theorem ml_X7_190 : Cond.methodLink RX7 190 yX3_greatestRow ∈ gwl := gw_t (List.mem_of_getElem? (i := 557) (by decide +kernel)) rfl
theorem ml_X7_196 : Cond.methodLink RX7 196 yX0_missesTogether ∈ gwl := gw_t (List.mem_of_getElem? (i := 560) (by decide +kernel)) rfl
theorem ml_X7_200 : Cond.methodLink RX7 200 yX0_rowOf ∈ gwl := gw_t (List.mem_of_getElem? (i := 569) (by decide +kernel)) rfl
theorem ml_X7_203 : Cond.methodLink RX7 203 yX0_copyRowOf ∈ gwl := gw_t (List.mem_of_getElem? (i := 573) (by decide +kernel)) rfl
theorem ml_X7_206 : Cond.methodLink RX7 206 yX1_columnsOf ∈ gwl := gw_t (List.mem_of_getElem? (i := 582) (by decide +kernel)) rfl
theorem ml_X7_215 : Cond.methodLink RX7 215 yX7_stageOfCount ∈ gwl := gw_t (List.mem_of_getElem? (i := 593) (by decide +kernel)) rfl
theorem ml_X7_218 : Cond.methodLink RX7 218 yX6_howMany ∈ gwl := gw_t (List.mem_of_getElem? (i := 596) (by decide +kernel)) rfl
theorem ml_X7_28 : Cond.methodLink RX7 28 yX7_isWithin ∈ gwl := gw_t (List.mem_of_getElem? (i := 279) (by decide +kernel)) rfl
theorem ml_X7_32 : Cond.methodLink RX7 32 yX6_forget ∈ gwl := gw_t (List.mem_of_getElem? (i := 282) (by decide +kernel)) rfl
theorem ml_X7_35 : Cond.methodLink RX7 35 yX2_renew ∈ gwl := gw_t (List.mem_of_getElem? (i := 286) (by decide +kernel)) rfl
theorem ml_X7_39 : Cond.methodLink RX7 39 yX2_has ∈ gwl := gw_t (List.mem_of_getElem? (i := 294) (by decide +kernel)) rfl
theorem ml_X7_43 : Cond.methodLink RX7 43 yX2_greyOf ∈ gwl := gw_t (List.mem_of_getElem? (i := 298) (by decide +kernel)) rfl
theorem ml_X7_46 : Cond.methodLink RX7 46 yX2_change ∈ gwl := gw_t (List.mem_of_getElem? (i := 303) (by decide +kernel)) rfl
theorem ml_X7_50 : Cond.methodLink RX7 50 yX2_hasFrom ∈ gwl := gw_t (List.mem_of_getElem? (i := 315) (by decide +kernel)) rfl
theorem ml_X7_62 : Cond.methodLink RX7 62 yX2_remember ∈ gwl := gw_t (List.mem_of_getElem? (i := 329) (by decide +kernel)) rfl
theorem ml_X7_65 : Cond.methodLink RX7 65 yX2_rememberedOf ∈ gwl := gw_t (List.mem_of_getElem? (i := 336) (by decide +kernel)) rfl
theorem ml_X7_68 : Cond.methodLink RX7 68 yX7_isSetting ∈ gwl := gw_t (List.mem_of_getElem? (i := 344) (by decide +kernel)) rfl
theorem ml_X7_75 : Cond.methodLink RX7 75 yX6_reach ∈ gwl := gw_t (List.mem_of_getElem? (i := 355) (by decide +kernel)) rfl
theorem ml_X7_83 : Cond.methodLink RX7 83 yX5_has ∈ gwl := gw_t (List.mem_of_getElem? (i := 505) (by decide +kernel)) rfl
theorem ml_X7_86 : Cond.methodLink RX7 86 yX5_markOf ∈ gwl := gw_t (List.mem_of_getElem? (i := 509) (by decide +kernel)) rfl
theorem ml_X7_90 : Cond.methodLink RX7 90 yX5_numberOf ∈ gwl := gw_t (List.mem_of_getElem? (i := 521) (by decide +kernel)) rfl
theorem cp_X7_209 : Cond.methodLink RX7 209 arraycopyName ∈ gwl := gw_t (List.mem_of_getElem? (i := 592) (by decide +kernel)) rfl
theorem fs_X7_221 : Cond.fieldLink RX7 221 RX7 "LOWEST_SETTING" "[I" ∈ gwl := gw_t (List.mem_of_getElem? (i := 347) (by decide +kernel)) rfl
theorem fs_X7_224 : Cond.fieldLink RX7 224 RX7 "HIGHEST_SETTING" "[I" ∈ gwl := gw_t (List.mem_of_getElem? (i := 349) (by decide +kernel)) rfl
