theorem oi_inst : Cond.instanceMethod objectInit ∈ gwl := gw_t (List.mem_of_getElem? (i := 19) (by decide +kernel)) rfl
theorem oi_code : Cond.code objectInit ⟨#[0xb1]⟩ 1 none ∈ gwl := gw_t (List.mem_of_getElem? (i := 20) (by decide +kernel)) rfl
theorem ac_boolean : Cond.arrayClass .boolean ∈ gwl := gw_t (List.mem_of_getElem? (i := 731) (by decide +kernel)) rfl
theorem ac_int : Cond.arrayClass .int ∈ gwl := gw_t (List.mem_of_getElem? (i := 43) (by decide +kernel)) rfl
theorem ac_long : Cond.arrayClass .long ∈ gwl := gw_t (List.mem_of_getElem? (i := 126) (by decide +kernel)) rfl
theorem ff_X0_9 : FF RX0 9 0 0 (.array .int) := ⟨RX0, TX0, 9, tyX0, rfl, by decide, in_X0, gw_t (List.mem_of_getElem? (i := 186) (by decide +kernel)) rfl, tyX0_ok, nmX0, rfl, rfl, by decide +kernel⟩
theorem ff_X2_15 : FF RX2 15 2 1 (.array .int) := ⟨RX2, TX2, 4, tyX2, rfl, by decide, in_X2, gw_t (List.mem_of_getElem? (i := 29) (by decide +kernel)) rfl, tyX2_ok, nmX2, rfl, rfl, by decide +kernel⟩
theorem ff_X2_9 : FF RX2 9 2 0 (.array .int) := ⟨RX2, TX2, 4, tyX2, rfl, by decide, in_X2, gw_t (List.mem_of_getElem? (i := 27) (by decide +kernel)) rfl, tyX2_ok, nmX2, rfl, rfl, by decide +kernel⟩
theorem ff_X4_15 : FF RX4 15 3 1 (.array .int) := ⟨RX4, TX4, 8, tyX4, rfl, by decide, in_X4, gw_t (List.mem_of_getElem? (i := 136) (by decide +kernel)) rfl, tyX4_ok, nmX4, rfl, rfl, by decide +kernel⟩
theorem ff_X4_18 : FF RX4 18 3 3 (.array .int) := ⟨RX4, TX4, 8, tyX4, rfl, by decide, in_X4, gw_t (List.mem_of_getElem? (i := 142) (by decide +kernel)) rfl, tyX4_ok, nmX4, rfl, rfl, by decide +kernel⟩
theorem ff_X4_21 : FF RX4 21 3 4 (.array .int) := ⟨RX4, TX4, 8, tyX4, rfl, by decide, in_X4, gw_t (List.mem_of_getElem? (i := 144) (by decide +kernel)) rfl, tyX4_ok, nmX4, rfl, rfl, by decide +kernel⟩
theorem ff_X4_24 : FF RX4 24 3 5 (.array .int) := ⟨RX4, TX4, 8, tyX4, rfl, by decide, in_X4, gw_t (List.mem_of_getElem? (i := 146) (by decide +kernel)) rfl, tyX4_ok, nmX4, rfl, rfl, by decide +kernel⟩
theorem ff_X4_27 : FF RX4 27 3 7 (.array .int) := ⟨RX4, TX4, 8, tyX4, rfl, by decide, in_X4, gw_t (List.mem_of_getElem? (i := 153) (by decide +kernel)) rfl, tyX4_ok, nmX4, rfl, rfl, by decide +kernel⟩
theorem ff_X4_9 : FF RX4 9 3 0 (.array .int) := ⟨RX4, TX4, 8, tyX4, rfl, by decide, in_X4, gw_t (List.mem_of_getElem? (i := 133) (by decide +kernel)) rfl, tyX4_ok, nmX4, rfl, rfl, by decide +kernel⟩
theorem ff_X5_15 : FF RX5 15 4 1 (.array .int) := ⟨RX5, TX5, 17, tyX5, rfl, by decide, in_X5, gw_t (List.mem_of_getElem? (i := 59) (by decide +kernel)) rfl, tyX5_ok, nmX5, rfl, rfl, by decide +kernel⟩
theorem ff_X5_18 : FF RX5 18 4 2 (.array .int) := ⟨RX5, TX5, 17, tyX5, rfl, by decide, in_X5, gw_t (List.mem_of_getElem? (i := 60) (by decide +kernel)) rfl, tyX5_ok, nmX5, rfl, rfl, by decide +kernel⟩
theorem ff_X5_21 : FF RX5 21 4 3 (.array .int) := ⟨RX5, TX5, 17, tyX5, rfl, by decide, in_X5, gw_t (List.mem_of_getElem? (i := 63) (by decide +kernel)) rfl, tyX5_ok, nmX5, rfl, rfl, by decide +kernel⟩
theorem ff_X5_24 : FF RX5 24 4 4 (.array .int) := ⟨RX5, TX5, 17, tyX5, rfl, by decide, in_X5, gw_t (List.mem_of_getElem? (i := 65) (by decide +kernel)) rfl, tyX5_ok, nmX5, rfl, rfl, by decide +kernel⟩
theorem ff_X5_27 : FF RX5 27 4 5 (.array .long) := ⟨RX5, TX5, 17, tyX5, rfl, by decide, in_X5, gw_t (List.mem_of_getElem? (i := 68) (by decide +kernel)) rfl, tyX5_ok, nmX5, rfl, rfl, by decide +kernel⟩
theorem ff_X5_31 : FF RX5 31 4 6 (.array .long) := ⟨RX5, TX5, 17, tyX5, rfl, by decide, in_X5, gw_t (List.mem_of_getElem? (i := 69) (by decide +kernel)) rfl, tyX5_ok, nmX5, rfl, rfl, by decide +kernel⟩
theorem ff_X5_34 : FF RX5 34 4 7 (.array .int) := ⟨RX5, TX5, 17, tyX5, rfl, by decide, in_X5, gw_t (List.mem_of_getElem? (i := 70) (by decide +kernel)) rfl, tyX5_ok, nmX5, rfl, rfl, by decide +kernel⟩
theorem ff_X5_37 : FF RX5 37 4 8 (.array .int) := ⟨RX5, TX5, 17, tyX5, rfl, by decide, in_X5, gw_t (List.mem_of_getElem? (i := 72) (by decide +kernel)) rfl, tyX5_ok, nmX5, rfl, rfl, by decide +kernel⟩
theorem ff_X5_40 : FF RX5 40 4 9 (.array .int) := ⟨RX5, TX5, 17, tyX5, rfl, by decide, in_X5, gw_t (List.mem_of_getElem? (i := 74) (by decide +kernel)) rfl, tyX5_ok, nmX5, rfl, rfl, by decide +kernel⟩
theorem ff_X5_9 : FF RX5 9 4 0 (.array .int) := ⟨RX5, TX5, 17, tyX5, rfl, by decide, in_X5, gw_t (List.mem_of_getElem? (i := 56) (by decide +kernel)) rfl, tyX5_ok, nmX5, rfl, rfl, by decide +kernel⟩
theorem ff_X8_16 : FF RX8 16 7 3 (.array .int) := ⟨RX8, TX8, 38, tyX8, rfl, by decide, in_X8, gw_t (List.mem_of_getElem? (i := 619) (by decide +kernel)) rfl, tyX8_ok, nmX8, rfl, rfl, by decide +kernel⟩
theorem ff_X8_20 : FF RX8 20 7 4 (.array .int) := ⟨RX8, TX8, 38, tyX8, rfl, by decide, in_X8, gw_t (List.mem_of_getElem? (i := 620) (by decide +kernel)) rfl, tyX8_ok, nmX8, rfl, rfl, by decide +kernel⟩
theorem ff_X8_23 : FF RX8 23 7 5 (.array .int) := ⟨RX8, TX8, 38, tyX8, rfl, by decide, in_X8, gw_t (List.mem_of_getElem? (i := 621) (by decide +kernel)) rfl, tyX8_ok, nmX8, rfl, rfl, by decide +kernel⟩
theorem ff_X8_26 : FF RX8 26 7 6 (.array .int) := ⟨RX8, TX8, 38, tyX8, rfl, by decide, in_X8, gw_t (List.mem_of_getElem? (i := 622) (by decide +kernel)) rfl, tyX8_ok, nmX8, rfl, rfl, by decide +kernel⟩
theorem ff_X8_29 : FF RX8 29 7 7 (.array .int) := ⟨RX8, TX8, 38, tyX8, rfl, by decide, in_X8, gw_t (List.mem_of_getElem? (i := 623) (by decide +kernel)) rfl, tyX8_ok, nmX8, rfl, rfl, by decide +kernel⟩
theorem ff_X8_32 : FF RX8 32 7 9 (.array .int) := ⟨RX8, TX8, 38, tyX8, rfl, by decide, in_X8, gw_t (List.mem_of_getElem? (i := 625) (by decide +kernel)) rfl, tyX8_ok, nmX8, rfl, rfl, by decide +kernel⟩
theorem ff_X8_35 : FF RX8 35 7 10 (.array .int) := ⟨RX8, TX8, 38, tyX8, rfl, by decide, in_X8, gw_t (List.mem_of_getElem? (i := 626) (by decide +kernel)) rfl, tyX8_ok, nmX8, rfl, rfl, by decide +kernel⟩
theorem ff_X8_38 : FF RX8 38 7 11 (.array .int) := ⟨RX8, TX8, 38, tyX8, rfl, by decide, in_X8, gw_t (List.mem_of_getElem? (i := 627) (by decide +kernel)) rfl, tyX8_ok, nmX8, rfl, rfl, by decide +kernel⟩
theorem ff_X8_41 : FF RX8 41 7 12 (.array .int) := ⟨RX8, TX8, 38, tyX8, rfl, by decide, in_X8, gw_t (List.mem_of_getElem? (i := 628) (by decide +kernel)) rfl, tyX8_ok, nmX8, rfl, rfl, by decide +kernel⟩
theorem ff_X8_44 : FF RX8 44 7 13 (.array .boolean) := ⟨RX8, TX8, 38, tyX8, rfl, by decide, in_X8, gw_t (List.mem_of_getElem? (i := 629) (by decide +kernel)) rfl, tyX8_ok, nmX8, rfl, rfl, by decide +kernel⟩
theorem ff_X8_48 : FF RX8 48 7 15 (.array .int) := ⟨RX8, TX8, 38, tyX8, rfl, by decide, in_X8, gw_t (List.mem_of_getElem? (i := 631) (by decide +kernel)) rfl, tyX8_ok, nmX8, rfl, rfl, by decide +kernel⟩
theorem ff_X8_51 : FF RX8 51 7 16 (.array .int) := ⟨RX8, TX8, 38, tyX8, rfl, by decide, in_X8, gw_t (List.mem_of_getElem? (i := 632) (by decide +kernel)) rfl, tyX8_ok, nmX8, rfl, rfl, by decide +kernel⟩
theorem ff_X8_54 : FF RX8 54 7 17 (.array .int) := ⟨RX8, TX8, 38, tyX8, rfl, by decide, in_X8, gw_t (List.mem_of_getElem? (i := 633) (by decide +kernel)) rfl, tyX8_ok, nmX8, rfl, rfl, by decide +kernel⟩
theorem ff_X8_57 : FF RX8 57 7 19 (.array .int) := ⟨RX8, TX8, 38, tyX8, rfl, by decide, in_X8, gw_t (List.mem_of_getElem? (i := 635) (by decide +kernel)) rfl, tyX8_ok, nmX8, rfl, rfl, by decide +kernel⟩
theorem ff_X8_60 : FF RX8 60 7 20 (.array .int) := ⟨RX8, TX8, 38, tyX8, rfl, by decide, in_X8, gw_t (List.mem_of_getElem? (i := 636) (by decide +kernel)) rfl, tyX8_ok, nmX8, rfl, rfl, by decide +kernel⟩
theorem ff_X8_63 : FF RX8 63 7 21 (.array .int) := ⟨RX8, TX8, 38, tyX8, rfl, by decide, in_X8, gw_t (List.mem_of_getElem? (i := 637) (by decide +kernel)) rfl, tyX8_ok, nmX8, rfl, rfl, by decide +kernel⟩
theorem ff_X8_66 : FF RX8 66 7 23 (.array .int) := ⟨RX8, TX8, 38, tyX8, rfl, by decide, in_X8, gw_t (List.mem_of_getElem? (i := 639) (by decide +kernel)) rfl, tyX8_ok, nmX8, rfl, rfl, by decide +kernel⟩
theorem ff_X8_69 : FF RX8 69 7 24 (.array .int) := ⟨RX8, TX8, 38, tyX8, rfl, by decide, in_X8, gw_t (List.mem_of_getElem? (i := 640) (by decide +kernel)) rfl, tyX8_ok, nmX8, rfl, rfl, by decide +kernel⟩
theorem ff_X8_72 : FF RX8 72 7 25 (.array .int) := ⟨RX8, TX8, 38, tyX8, rfl, by decide, in_X8, gw_t (List.mem_of_getElem? (i := 641) (by decide +kernel)) rfl, tyX8_ok, nmX8, rfl, rfl, by decide +kernel⟩
theorem ff_X8_75 : FF RX8 75 7 27 (.array .int) := ⟨RX8, TX8, 38, tyX8, rfl, by decide, in_X8, gw_t (List.mem_of_getElem? (i := 643) (by decide +kernel)) rfl, tyX8_ok, nmX8, rfl, rfl, by decide +kernel⟩
theorem ff_X8_78 : FF RX8 78 7 28 (.array .int) := ⟨RX8, TX8, 38, tyX8, rfl, by decide, in_X8, gw_t (List.mem_of_getElem? (i := 644) (by decide +kernel)) rfl, tyX8_ok, nmX8, rfl, rfl, by decide +kernel⟩
theorem ff_X8_81 : FF RX8 81 7 29 (.array .int) := ⟨RX8, TX8, 38, tyX8, rfl, by decide, in_X8, gw_t (List.mem_of_getElem? (i := 645) (by decide +kernel)) rfl, tyX8_ok, nmX8, rfl, rfl, by decide +kernel⟩
theorem ff_X8_84 : FF RX8 84 7 30 (.array .int) := ⟨RX8, TX8, 38, tyX8, rfl, by decide, in_X8, gw_t (List.mem_of_getElem? (i := 646) (by decide +kernel)) rfl, tyX8_ok, nmX8, rfl, rfl, by decide +kernel⟩
theorem ff_X8_87 : FF RX8 87 7 31 (.array .boolean) := ⟨RX8, TX8, 38, tyX8, rfl, by decide, in_X8, gw_t (List.mem_of_getElem? (i := 647) (by decide +kernel)) rfl, tyX8_ok, nmX8, rfl, rfl, by decide +kernel⟩
theorem ff_X8_90 : FF RX8 90 7 32 (.array .int) := ⟨RX8, TX8, 38, tyX8, rfl, by decide, in_X8, gw_t (List.mem_of_getElem? (i := 648) (by decide +kernel)) rfl, tyX8_ok, nmX8, rfl, rfl, by decide +kernel⟩
theorem oi_X0_3 : Cond.methodLink RX0 3 objectInit ∈ gwl := gw_t (List.mem_of_getElem? (i := 185) (by decide +kernel)) rfl
theorem oi_X2_3 : Cond.methodLink RX2 3 objectInit ∈ gwl := gw_t (List.mem_of_getElem? (i := 26) (by decide +kernel)) rfl
theorem oi_X4_3 : Cond.methodLink RX4 3 objectInit ∈ gwl := gw_t (List.mem_of_getElem? (i := 132) (by decide +kernel)) rfl
theorem oi_X5_3 : Cond.methodLink RX5 3 objectInit ∈ gwl := gw_t (List.mem_of_getElem? (i := 55) (by decide +kernel)) rfl
theorem oi_X8_1 : Cond.methodLink RX8 1 objectInit ∈ gwl := gw_t (List.mem_of_getElem? (i := 615) (by decide +kernel)) rfl
