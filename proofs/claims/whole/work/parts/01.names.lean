-- ===== PART A: goes FIRST, ahead of the names: the tables' words, and 'selects' of the private methods out of them =====
/-- a private method of a class that the tables say can be made, by its rows of tables_1 -/
def lw_okq (q : MethodName × Nat) : Prop := (q.1.cls ≠ "java/lang/invoke/MethodHandle" ∧ q.1.cls ≠ "java/lang/invoke/VarHandle") ∧ Cond.instantiable q.1.cls q.2 ∈ tables_1 ∧ Cond.privateMethod q.1 ∈ tables_1 ∧ Cond.instanceMethod q.1 ∈ tables_1
theorem lw_p0 : lw_okq (⟨"CopiedPatches$Squares", "measure", "(LCopiedPatches$Picture;III)V"⟩, 17) := ⟨⟨by decide +kernel, by decide +kernel⟩, List.mem_of_getElem? (i := 51) (by decide +kernel), List.mem_of_getElem? (i := 365) (by decide +kernel), List.mem_of_getElem? (i := 366) (by decide +kernel)⟩
theorem lw_p1 : lw_okq (⟨"CopiedPatches$Squares", "readNumbers", "(LCopiedPatches$Picture;II[I)V"⟩, 17) := ⟨⟨by decide +kernel, by decide +kernel⟩, List.mem_of_getElem? (i := 51) (by decide +kernel), List.mem_of_getElem? (i := 371) (by decide +kernel), List.mem_of_getElem? (i := 372) (by decide +kernel)⟩
theorem lw_p2 : lw_okq (⟨"CopiedPatches$Squares", "sort", "()V"⟩, 17) := ⟨⟨by decide +kernel, by decide +kernel⟩, List.mem_of_getElem? (i := 51) (by decide +kernel), List.mem_of_getElem? (i := 375) (by decide +kernel), List.mem_of_getElem? (i := 376) (by decide +kernel)⟩
theorem lw_p3 : lw_okq (⟨"CopiedPatches$Squares", "merge", "(III)V"⟩, 17) := ⟨⟨by decide +kernel, by decide +kernel⟩, List.mem_of_getElem? (i := 51) (by decide +kernel), List.mem_of_getElem? (i := 379) (by decide +kernel), List.mem_of_getElem? (i := 380) (by decide +kernel)⟩
theorem lw_p4 : lw_okq (⟨"CopiedPatches$Squares", "isBefore", "(II)Z"⟩, 17) := ⟨⟨by decide +kernel, by decide +kernel⟩, List.mem_of_getElem? (i := 51) (by decide +kernel), List.mem_of_getElem? (i := 383) (by decide +kernel), List.mem_of_getElem? (i := 384) (by decide +kernel)⟩
theorem lw_p5 : lw_okq (⟨"CopiedPatches$Squares", "splitKinds", "(I)V"⟩, 17) := ⟨⟨by decide +kernel, by decide +kernel⟩, List.mem_of_getElem? (i := 51) (by decide +kernel), List.mem_of_getElem? (i := 388) (by decide +kernel), List.mem_of_getElem? (i := 389) (by decide +kernel)⟩
theorem lw_p6 : lw_okq (⟨"CopiedPatches$Squares", "areAlike", "(II)Z"⟩, 17) := ⟨⟨by decide +kernel, by decide +kernel⟩, List.mem_of_getElem? (i := 51) (by decide +kernel), List.mem_of_getElem? (i := 392) (by decide +kernel), List.mem_of_getElem? (i := 393) (by decide +kernel)⟩
theorem lw_p7 : lw_okq (⟨"CopiedPatches$Squares", "noteKind", "(III)V"⟩, 17) := ⟨⟨by decide +kernel, by decide +kernel⟩, List.mem_of_getElem? (i := 51) (by decide +kernel), List.mem_of_getElem? (i := 396) (by decide +kernel), List.mem_of_getElem? (i := 397) (by decide +kernel)⟩
theorem lw_p8 : lw_okq (⟨"CopiedPatches$Shifts", "pairUp", "(LCopiedPatches$Squares;II)V"⟩, 8) := ⟨⟨by decide +kernel, by decide +kernel⟩, List.mem_of_getElem? (i := 128) (by decide +kernel), List.mem_of_getElem? (i := 404) (by decide +kernel), List.mem_of_getElem? (i := 405) (by decide +kernel)⟩
theorem lw_p9 : lw_okq (⟨"CopiedPatches$Shifts", "addPair", "(III)V"⟩, 8) := ⟨⟨by decide +kernel, by decide +kernel⟩, List.mem_of_getElem? (i := 128) (by decide +kernel), List.mem_of_getElem? (i := 408) (by decide +kernel), List.mem_of_getElem? (i := 409) (by decide +kernel)⟩
theorem lw_p10 : lw_okq (⟨"CopiedPatches$Shifts", "choose", "(I)V"⟩, 8) := ⟨⟨by decide +kernel, by decide +kernel⟩, List.mem_of_getElem? (i := 128) (by decide +kernel), List.mem_of_getElem? (i := 418) (by decide +kernel), List.mem_of_getElem? (i := 419) (by decide +kernel)⟩
theorem lw_p11 : lw_okq (⟨"CopiedPatches$Shifts", "settle", "(I)V"⟩, 8) := ⟨⟨by decide +kernel, by decide +kernel⟩, List.mem_of_getElem? (i := 128) (by decide +kernel), List.mem_of_getElem? (i := 422) (by decide +kernel), List.mem_of_getElem? (i := 423) (by decide +kernel)⟩
theorem lw_p12 : lw_okq (⟨"CopiedPatches$Shifts", "isAhead", "(II)Z"⟩, 8) := ⟨⟨by decide +kernel, by decide +kernel⟩, List.mem_of_getElem? (i := 128) (by decide +kernel), List.mem_of_getElem? (i := 426) (by decide +kernel), List.mem_of_getElem? (i := 427) (by decide +kernel)⟩
theorem lw_p13 : lw_okq (⟨"CopiedPatches$Findings", "addRegion", "(III)V"⟩, 5) := ⟨⟨by decide +kernel, by decide +kernel⟩, List.mem_of_getElem? (i := 172) (by decide +kernel), List.mem_of_getElem? (i := 449) (by decide +kernel), List.mem_of_getElem? (i := 450) (by decide +kernel)⟩
theorem lw_p14 : lw_okq (⟨"CopiedPatches$Findings", "settle", "(IZ)V"⟩, 5) := ⟨⟨by decide +kernel, by decide +kernel⟩, List.mem_of_getElem? (i := 172) (by decide +kernel), List.mem_of_getElem? (i := 475) (by decide +kernel), List.mem_of_getElem? (i := 476) (by decide +kernel)⟩
theorem lw_p15 : lw_okq (⟨"CopiedPatches$Finding", "missOf", "(LCopiedPatches$Picture;II)I"⟩, 9) := ⟨⟨by decide +kernel, by decide +kernel⟩, List.mem_of_getElem? (i := 181) (by decide +kernel), List.mem_of_getElem? (i := 500) (by decide +kernel), List.mem_of_getElem? (i := 501) (by decide +kernel)⟩
def lw_privs_1 : List (MethodName × Nat) := [(⟨"CopiedPatches$Squares", "measure", "(LCopiedPatches$Picture;III)V"⟩, 17), (⟨"CopiedPatches$Squares", "readNumbers", "(LCopiedPatches$Picture;II[I)V"⟩, 17), (⟨"CopiedPatches$Squares", "sort", "()V"⟩, 17), (⟨"CopiedPatches$Squares", "merge", "(III)V"⟩, 17), (⟨"CopiedPatches$Squares", "isBefore", "(II)Z"⟩, 17), (⟨"CopiedPatches$Squares", "splitKinds", "(I)V"⟩, 17), (⟨"CopiedPatches$Squares", "areAlike", "(II)Z"⟩, 17), (⟨"CopiedPatches$Squares", "noteKind", "(III)V"⟩, 17), (⟨"CopiedPatches$Shifts", "pairUp", "(LCopiedPatches$Squares;II)V"⟩, 8), (⟨"CopiedPatches$Shifts", "addPair", "(III)V"⟩, 8), (⟨"CopiedPatches$Shifts", "choose", "(I)V"⟩, 8), (⟨"CopiedPatches$Shifts", "settle", "(I)V"⟩, 8), (⟨"CopiedPatches$Shifts", "isAhead", "(II)Z"⟩, 8), (⟨"CopiedPatches$Findings", "addRegion", "(III)V"⟩, 5), (⟨"CopiedPatches$Findings", "settle", "(IZ)V"⟩, 5), (⟨"CopiedPatches$Finding", "missOf", "(LCopiedPatches$Picture;II)I"⟩, 9)]
theorem lw_r1 : ∀ q ∈ lw_privs_1, lw_okq q := List.forall_mem_cons.mpr ⟨lw_p0, List.forall_mem_cons.mpr ⟨lw_p1, List.forall_mem_cons.mpr ⟨lw_p2, List.forall_mem_cons.mpr ⟨lw_p3, List.forall_mem_cons.mpr ⟨lw_p4, List.forall_mem_cons.mpr ⟨lw_p5, List.forall_mem_cons.mpr ⟨lw_p6, List.forall_mem_cons.mpr ⟨lw_p7, List.forall_mem_cons.mpr ⟨lw_p8, List.forall_mem_cons.mpr ⟨lw_p9, List.forall_mem_cons.mpr ⟨lw_p10, List.forall_mem_cons.mpr ⟨lw_p11, List.forall_mem_cons.mpr ⟨lw_p12, List.forall_mem_cons.mpr ⟨lw_p13, List.forall_mem_cons.mpr ⟨lw_p14, List.forall_mem_cons.mpr ⟨lw_p15, fun _ h => absurd h List.not_mem_nil⟩⟩⟩⟩⟩⟩⟩⟩⟩⟩⟩⟩⟩⟩⟩⟩
theorem lw_p16 : lw_okq (⟨"CopiedPatchesModel", "changed", "(I)I"⟩, 38) := ⟨⟨by decide +kernel, by decide +kernel⟩, List.mem_of_getElem? (i := 611) (by decide +kernel), List.mem_of_getElem? (i := 740) (by decide +kernel), List.mem_of_getElem? (i := 741) (by decide +kernel)⟩
theorem lw_p17 : lw_okq (⟨"CopiedPatchesModel", "isPlace", "(II)Z"⟩, 38) := ⟨⟨by decide +kernel, by decide +kernel⟩, List.mem_of_getElem? (i := 611) (by decide +kernel), List.mem_of_getElem? (i := 748) (by decide +kernel), List.mem_of_getElem? (i := 749) (by decide +kernel)⟩
theorem lw_p18 : lw_okq (⟨"CopiedPatchesModel", "isPart", "(IIII)Z"⟩, 38) := ⟨⟨by decide +kernel, by decide +kernel⟩, List.mem_of_getElem? (i := 611) (by decide +kernel), List.mem_of_getElem? (i := 760) (by decide +kernel), List.mem_of_getElem? (i := 761) (by decide +kernel)⟩
theorem lw_p19 : lw_okq (⟨"CopiedPatchesModel", "isSetting", "(II)Z"⟩, 38) := ⟨⟨by decide +kernel, by decide +kernel⟩, List.mem_of_getElem? (i := 611) (by decide +kernel), List.mem_of_getElem? (i := 772) (by decide +kernel), List.mem_of_getElem? (i := 773) (by decide +kernel)⟩
theorem lw_p20 : lw_okq (⟨"CopiedPatchesModel", "squareAt", "(II)I"⟩, 38) := ⟨⟨by decide +kernel, by decide +kernel⟩, List.mem_of_getElem? (i := 611) (by decide +kernel), List.mem_of_getElem? (i := 780) (by decide +kernel), List.mem_of_getElem? (i := 781) (by decide +kernel)⟩
theorem lw_p21 : lw_okq (⟨"CopiedPatchesModel", "findSquares", "()V"⟩, 38) := ⟨⟨by decide +kernel, by decide +kernel⟩, List.mem_of_getElem? (i := 611) (by decide +kernel), List.mem_of_getElem? (i := 784) (by decide +kernel), List.mem_of_getElem? (i := 785) (by decide +kernel)⟩
theorem lw_p22 : lw_okq (⟨"CopiedPatchesModel", "numbers", "()I"⟩, 38) := ⟨⟨by decide +kernel, by decide +kernel⟩, List.mem_of_getElem? (i := 611) (by decide +kernel), List.mem_of_getElem? (i := 788) (by decide +kernel), List.mem_of_getElem? (i := 789) (by decide +kernel)⟩
theorem lw_p23 : lw_okq (⟨"CopiedPatchesModel", "greyIn", "(II)I"⟩, 38) := ⟨⟨by decide +kernel, by decide +kernel⟩, List.mem_of_getElem? (i := 611) (by decide +kernel), List.mem_of_getElem? (i := 792) (by decide +kernel), List.mem_of_getElem? (i := 793) (by decide +kernel)⟩
theorem lw_p24 : lw_okq (⟨"CopiedPatchesModel", "compared", "(II)I"⟩, 38) := ⟨⟨by decide +kernel, by decide +kernel⟩, List.mem_of_getElem? (i := 611) (by decide +kernel), List.mem_of_getElem? (i := 796) (by decide +kernel), List.mem_of_getElem? (i := 797) (by decide +kernel)⟩
theorem lw_p25 : lw_okq (⟨"CopiedPatchesModel", "numberIn", "(II)I"⟩, 38) := ⟨⟨by decide +kernel, by decide +kernel⟩, List.mem_of_getElem? (i := 611) (by decide +kernel), List.mem_of_getElem? (i := 800) (by decide +kernel), List.mem_of_getElem? (i := 801) (by decide +kernel)⟩
theorem lw_p26 : lw_okq (⟨"CopiedPatchesModel", "findPairs", "()V"⟩, 38) := ⟨⟨by decide +kernel, by decide +kernel⟩, List.mem_of_getElem? (i := 611) (by decide +kernel), List.mem_of_getElem? (i := 808) (by decide +kernel), List.mem_of_getElem? (i := 809) (by decide +kernel)⟩
theorem lw_p27 : lw_okq (⟨"CopiedPatchesModel", "findCrowds", "()V"⟩, 38) := ⟨⟨by decide +kernel, by decide +kernel⟩, List.mem_of_getElem? (i := 611) (by decide +kernel), List.mem_of_getElem? (i := 812) (by decide +kernel), List.mem_of_getElem? (i := 813) (by decide +kernel)⟩
theorem lw_p28 : lw_okq (⟨"CopiedPatchesModel", "isFlat", "(I)Z"⟩, 38) := ⟨⟨by decide +kernel, by decide +kernel⟩, List.mem_of_getElem? (i := 611) (by decide +kernel), List.mem_of_getElem? (i := 816) (by decide +kernel), List.mem_of_getElem? (i := 817) (by decide +kernel)⟩
theorem lw_p29 : lw_okq (⟨"CopiedPatchesModel", "manyLike", "(IZ)I"⟩, 38) := ⟨⟨by decide +kernel, by decide +kernel⟩, List.mem_of_getElem? (i := 611) (by decide +kernel), List.mem_of_getElem? (i := 820) (by decide +kernel), List.mem_of_getElem? (i := 821) (by decide +kernel)⟩
theorem lw_p30 : lw_okq (⟨"CopiedPatchesModel", "isPair", "(II)Z"⟩, 38) := ⟨⟨by decide +kernel, by decide +kernel⟩, List.mem_of_getElem? (i := 611) (by decide +kernel), List.mem_of_getElem? (i := 824) (by decide +kernel), List.mem_of_getElem? (i := 825) (by decide +kernel)⟩
theorem lw_p31 : lw_okq (⟨"CopiedPatchesModel", "across", "(II)I"⟩, 38) := ⟨⟨by decide +kernel, by decide +kernel⟩, List.mem_of_getElem? (i := 611) (by decide +kernel), List.mem_of_getElem? (i := 828) (by decide +kernel), List.mem_of_getElem? (i := 829) (by decide +kernel)⟩
def lw_privs_2 : List (MethodName × Nat) := [(⟨"CopiedPatchesModel", "changed", "(I)I"⟩, 38), (⟨"CopiedPatchesModel", "isPlace", "(II)Z"⟩, 38), (⟨"CopiedPatchesModel", "isPart", "(IIII)Z"⟩, 38), (⟨"CopiedPatchesModel", "isSetting", "(II)Z"⟩, 38), (⟨"CopiedPatchesModel", "squareAt", "(II)I"⟩, 38), (⟨"CopiedPatchesModel", "findSquares", "()V"⟩, 38), (⟨"CopiedPatchesModel", "numbers", "()I"⟩, 38), (⟨"CopiedPatchesModel", "greyIn", "(II)I"⟩, 38), (⟨"CopiedPatchesModel", "compared", "(II)I"⟩, 38), (⟨"CopiedPatchesModel", "numberIn", "(II)I"⟩, 38), (⟨"CopiedPatchesModel", "findPairs", "()V"⟩, 38), (⟨"CopiedPatchesModel", "findCrowds", "()V"⟩, 38), (⟨"CopiedPatchesModel", "isFlat", "(I)Z"⟩, 38), (⟨"CopiedPatchesModel", "manyLike", "(IZ)I"⟩, 38), (⟨"CopiedPatchesModel", "isPair", "(II)Z"⟩, 38), (⟨"CopiedPatchesModel", "across", "(II)I"⟩, 38)]
theorem lw_r2 : ∀ q ∈ lw_privs_2, lw_okq q := List.forall_mem_cons.mpr ⟨lw_p16, List.forall_mem_cons.mpr ⟨lw_p17, List.forall_mem_cons.mpr ⟨lw_p18, List.forall_mem_cons.mpr ⟨lw_p19, List.forall_mem_cons.mpr ⟨lw_p20, List.forall_mem_cons.mpr ⟨lw_p21, List.forall_mem_cons.mpr ⟨lw_p22, List.forall_mem_cons.mpr ⟨lw_p23, List.forall_mem_cons.mpr ⟨lw_p24, List.forall_mem_cons.mpr ⟨lw_p25, List.forall_mem_cons.mpr ⟨lw_p26, List.forall_mem_cons.mpr ⟨lw_p27, List.forall_mem_cons.mpr ⟨lw_p28, List.forall_mem_cons.mpr ⟨lw_p29, List.forall_mem_cons.mpr ⟨lw_p30, List.forall_mem_cons.mpr ⟨lw_p31, fun _ h => absurd h List.not_mem_nil⟩⟩⟩⟩⟩⟩⟩⟩⟩⟩⟩⟩⟩⟩⟩⟩
theorem lw_p32 : lw_okq (⟨"CopiedPatchesModel", "down", "(II)I"⟩, 38) := ⟨⟨by decide +kernel, by decide +kernel⟩, List.mem_of_getElem? (i := 611) (by decide +kernel), List.mem_of_getElem? (i := 835) (by decide +kernel), List.mem_of_getElem? (i := 836) (by decide +kernel)⟩
theorem lw_p33 : lw_okq (⟨"CopiedPatchesModel", "findRegions", "()V"⟩, 38) := ⟨⟨by decide +kernel, by decide +kernel⟩, List.mem_of_getElem? (i := 611) (by decide +kernel), List.mem_of_getElem? (i := 858) (by decide +kernel), List.mem_of_getElem? (i := 859) (by decide +kernel)⟩
theorem lw_p34 : lw_okq (⟨"CopiedPatchesModel", "findShifts", "()V"⟩, 38) := ⟨⟨by decide +kernel, by decide +kernel⟩, List.mem_of_getElem? (i := 611) (by decide +kernel), List.mem_of_getElem? (i := 862) (by decide +kernel), List.mem_of_getElem? (i := 863) (by decide +kernel)⟩
theorem lw_p35 : lw_okq (⟨"CopiedPatchesModel", "isShift", "(II)Z"⟩, 38) := ⟨⟨by decide +kernel, by decide +kernel⟩, List.mem_of_getElem? (i := 611) (by decide +kernel), List.mem_of_getElem? (i := 866) (by decide +kernel), List.mem_of_getElem? (i := 867) (by decide +kernel)⟩
theorem lw_p36 : lw_okq (⟨"CopiedPatchesModel", "isShiftAhead", "(IIII)Z"⟩, 38) := ⟨⟨by decide +kernel, by decide +kernel⟩, List.mem_of_getElem? (i := 611) (by decide +kernel), List.mem_of_getElem? (i := 870) (by decide +kernel), List.mem_of_getElem? (i := 871) (by decide +kernel)⟩
theorem lw_p37 : lw_okq (⟨"CopiedPatchesModel", "spreads", "(II)V"⟩, 38) := ⟨⟨by decide +kernel, by decide +kernel⟩, List.mem_of_getElem? (i := 611) (by decide +kernel), List.mem_of_getElem? (i := 874) (by decide +kernel), List.mem_of_getElem? (i := 875) (by decide +kernel)⟩
theorem lw_p38 : lw_okq (⟨"CopiedPatchesModel", "isBeside", "(III)Z"⟩, 38) := ⟨⟨by decide +kernel, by decide +kernel⟩, List.mem_of_getElem? (i := 611) (by decide +kernel), List.mem_of_getElem? (i := 878) (by decide +kernel), List.mem_of_getElem? (i := 879) (by decide +kernel)⟩
theorem lw_p39 : lw_okq (⟨"CopiedPatchesModel", "beside", "(IIII)I"⟩, 38) := ⟨⟨by decide +kernel, by decide +kernel⟩, List.mem_of_getElem? (i := 611) (by decide +kernel), List.mem_of_getElem? (i := 882) (by decide +kernel), List.mem_of_getElem? (i := 883) (by decide +kernel)⟩
theorem lw_p40 : lw_okq (⟨"CopiedPatchesModel", "findFindings", "()V"⟩, 38) := ⟨⟨by decide +kernel, by decide +kernel⟩, List.mem_of_getElem? (i := 611) (by decide +kernel), List.mem_of_getElem? (i := 890) (by decide +kernel), List.mem_of_getElem? (i := 891) (by decide +kernel)⟩
theorem lw_p41 : lw_okq (⟨"CopiedPatchesModel", "nextRegion", "()I"⟩, 38) := ⟨⟨by decide +kernel, by decide +kernel⟩, List.mem_of_getElem? (i := 611) (by decide +kernel), List.mem_of_getElem? (i := 894) (by decide +kernel), List.mem_of_getElem? (i := 895) (by decide +kernel)⟩
theorem lw_p42 : lw_okq (⟨"CopiedPatchesModel", "isTaken", "(I)Z"⟩, 38) := ⟨⟨by decide +kernel, by decide +kernel⟩, List.mem_of_getElem? (i := 611) (by decide +kernel), List.mem_of_getElem? (i := 898) (by decide +kernel), List.mem_of_getElem? (i := 899) (by decide +kernel)⟩
theorem lw_p43 : lw_okq (⟨"CopiedPatchesModel", "beginsFinding", "(I)V"⟩, 38) := ⟨⟨by decide +kernel, by decide +kernel⟩, List.mem_of_getElem? (i := 611) (by decide +kernel), List.mem_of_getElem? (i := 902) (by decide +kernel), List.mem_of_getElem? (i := 903) (by decide +kernel)⟩
theorem lw_p44 : lw_okq (⟨"CopiedPatchesModel", "shiftOf", "(I)I"⟩, 38) := ⟨⟨by decide +kernel, by decide +kernel⟩, List.mem_of_getElem? (i := 611) (by decide +kernel), List.mem_of_getElem? (i := 906) (by decide +kernel), List.mem_of_getElem? (i := 907) (by decide +kernel)⟩
theorem lw_p45 : lw_okq (⟨"CopiedPatchesModel", "copyOf", "(II)I"⟩, 38) := ⟨⟨by decide +kernel, by decide +kernel⟩, List.mem_of_getElem? (i := 611) (by decide +kernel), List.mem_of_getElem? (i := 910) (by decide +kernel), List.mem_of_getElem? (i := 911) (by decide +kernel)⟩
theorem lw_p46 : lw_okq (⟨"CopiedPatchesModel", "darkAt", "(I)I"⟩, 38) := ⟨⟨by decide +kernel, by decide +kernel⟩, List.mem_of_getElem? (i := 611) (by decide +kernel), List.mem_of_getElem? (i := 914) (by decide +kernel), List.mem_of_getElem? (i := 915) (by decide +kernel)⟩
theorem lw_p47 : lw_okq (⟨"CopiedPatchesModel", "manyIn", "(I)I"⟩, 38) := ⟨⟨by decide +kernel, by decide +kernel⟩, List.mem_of_getElem? (i := 611) (by decide +kernel), List.mem_of_getElem? (i := 918) (by decide +kernel), List.mem_of_getElem? (i := 919) (by decide +kernel)⟩
def lw_privs_3 : List (MethodName × Nat) := [(⟨"CopiedPatchesModel", "down", "(II)I"⟩, 38), (⟨"CopiedPatchesModel", "findRegions", "()V"⟩, 38), (⟨"CopiedPatchesModel", "findShifts", "()V"⟩, 38), (⟨"CopiedPatchesModel", "isShift", "(II)Z"⟩, 38), (⟨"CopiedPatchesModel", "isShiftAhead", "(IIII)Z"⟩, 38), (⟨"CopiedPatchesModel", "spreads", "(II)V"⟩, 38), (⟨"CopiedPatchesModel", "isBeside", "(III)Z"⟩, 38), (⟨"CopiedPatchesModel", "beside", "(IIII)I"⟩, 38), (⟨"CopiedPatchesModel", "findFindings", "()V"⟩, 38), (⟨"CopiedPatchesModel", "nextRegion", "()I"⟩, 38), (⟨"CopiedPatchesModel", "isTaken", "(I)Z"⟩, 38), (⟨"CopiedPatchesModel", "beginsFinding", "(I)V"⟩, 38), (⟨"CopiedPatchesModel", "shiftOf", "(I)I"⟩, 38), (⟨"CopiedPatchesModel", "copyOf", "(II)I"⟩, 38), (⟨"CopiedPatchesModel", "darkAt", "(I)I"⟩, 38), (⟨"CopiedPatchesModel", "manyIn", "(I)I"⟩, 38)]
theorem lw_r3 : ∀ q ∈ lw_privs_3, lw_okq q := List.forall_mem_cons.mpr ⟨lw_p32, List.forall_mem_cons.mpr ⟨lw_p33, List.forall_mem_cons.mpr ⟨lw_p34, List.forall_mem_cons.mpr ⟨lw_p35, List.forall_mem_cons.mpr ⟨lw_p36, List.forall_mem_cons.mpr ⟨lw_p37, List.forall_mem_cons.mpr ⟨lw_p38, List.forall_mem_cons.mpr ⟨lw_p39, List.forall_mem_cons.mpr ⟨lw_p40, List.forall_mem_cons.mpr ⟨lw_p41, List.forall_mem_cons.mpr ⟨lw_p42, List.forall_mem_cons.mpr ⟨lw_p43, List.forall_mem_cons.mpr ⟨lw_p44, List.forall_mem_cons.mpr ⟨lw_p45, List.forall_mem_cons.mpr ⟨lw_p46, List.forall_mem_cons.mpr ⟨lw_p47, fun _ h => absurd h List.not_mem_nil⟩⟩⟩⟩⟩⟩⟩⟩⟩⟩⟩⟩⟩⟩⟩⟩
theorem lw_p48 : lw_okq (⟨"CopiedPatchesModel", "grows", "(I)V"⟩, 38) := ⟨⟨by decide +kernel, by decide +kernel⟩, List.mem_of_getElem? (i := 611) (by decide +kernel), List.mem_of_getElem? (i := 922) (by decide +kernel), List.mem_of_getElem? (i := 923) (by decide +kernel)⟩
theorem lw_p49 : lw_okq (⟨"CopiedPatchesModel", "comes", "(II)Z"⟩, 38) := ⟨⟨by decide +kernel, by decide +kernel⟩, List.mem_of_getElem? (i := 611) (by decide +kernel), List.mem_of_getElem? (i := 926) (by decide +kernel), List.mem_of_getElem? (i := 927) (by decide +kernel)⟩
theorem lw_p50 : lw_okq (⟨"CopiedPatchesModel", "isHeld", "(III)Z"⟩, 38) := ⟨⟨by decide +kernel, by decide +kernel⟩, List.mem_of_getElem? (i := 611) (by decide +kernel), List.mem_of_getElem? (i := 930) (by decide +kernel), List.mem_of_getElem? (i := 931) (by decide +kernel)⟩
theorem lw_p51 : lw_okq (⟨"CopiedPatchesModel", "missOf", "(II)I"⟩, 38) := ⟨⟨by decide +kernel, by decide +kernel⟩, List.mem_of_getElem? (i := 611) (by decide +kernel), List.mem_of_getElem? (i := 934) (by decide +kernel), List.mem_of_getElem? (i := 935) (by decide +kernel)⟩
theorem lw_p52 : lw_okq (⟨"CopiedPatchesModel", "isFindingAhead", "(II)Z"⟩, 38) := ⟨⟨by decide +kernel, by decide +kernel⟩, List.mem_of_getElem? (i := 611) (by decide +kernel), List.mem_of_getElem? (i := 938) (by decide +kernel), List.mem_of_getElem? (i := 939) (by decide +kernel)⟩
theorem lw_p53 : lw_okq (⟨"CopiedPatchesModel", "measures", "(I)V"⟩, 38) := ⟨⟨by decide +kernel, by decide +kernel⟩, List.mem_of_getElem? (i := 611) (by decide +kernel), List.mem_of_getElem? (i := 942) (by decide +kernel), List.mem_of_getElem? (i := 943) (by decide +kernel)⟩
theorem lw_p54 : lw_okq (⟨"CopiedPatchesModel", "isCopy", "(III)Z"⟩, 38) := ⟨⟨by decide +kernel, by decide +kernel⟩, List.mem_of_getElem? (i := 611) (by decide +kernel), List.mem_of_getElem? (i := 950) (by decide +kernel), List.mem_of_getElem? (i := 951) (by decide +kernel)⟩
theorem lw_p55 : lw_okq (⟨"CopiedPatchesModel", "isSeen", "(III)Z"⟩, 38) := ⟨⟨by decide +kernel, by decide +kernel⟩, List.mem_of_getElem? (i := 611) (by decide +kernel), List.mem_of_getElem? (i := 958) (by decide +kernel), List.mem_of_getElem? (i := 959) (by decide +kernel)⟩
theorem lw_p56 : lw_okq (⟨"CopiedPatchesModel", "squaresThat", "(I)I"⟩, 38) := ⟨⟨by decide +kernel, by decide +kernel⟩, List.mem_of_getElem? (i := 611) (by decide +kernel), List.mem_of_getElem? (i := 970) (by decide +kernel), List.mem_of_getElem? (i := 971) (by decide +kernel)⟩
def lw_privs_4 : List (MethodName × Nat) := [(⟨"CopiedPatchesModel", "grows", "(I)V"⟩, 38), (⟨"CopiedPatchesModel", "comes", "(II)Z"⟩, 38), (⟨"CopiedPatchesModel", "isHeld", "(III)Z"⟩, 38), (⟨"CopiedPatchesModel", "missOf", "(II)I"⟩, 38), (⟨"CopiedPatchesModel", "isFindingAhead", "(II)Z"⟩, 38), (⟨"CopiedPatchesModel", "measures", "(I)V"⟩, 38), (⟨"CopiedPatchesModel", "isCopy", "(III)Z"⟩, 38), (⟨"CopiedPatchesModel", "isSeen", "(III)Z"⟩, 38), (⟨"CopiedPatchesModel", "squaresThat", "(I)I"⟩, 38)]
theorem lw_r4 : ∀ q ∈ lw_privs_4, lw_okq q := List.forall_mem_cons.mpr ⟨lw_p48, List.forall_mem_cons.mpr ⟨lw_p49, List.forall_mem_cons.mpr ⟨lw_p50, List.forall_mem_cons.mpr ⟨lw_p51, List.forall_mem_cons.mpr ⟨lw_p52, List.forall_mem_cons.mpr ⟨lw_p53, List.forall_mem_cons.mpr ⟨lw_p54, List.forall_mem_cons.mpr ⟨lw_p55, List.forall_mem_cons.mpr ⟨lw_p56, fun _ h => absurd h List.not_mem_nil⟩⟩⟩⟩⟩⟩⟩⟩⟩
def lw_privs : List (MethodName × Nat) := lw_privs_1 ++ (lw_privs_2 ++ (lw_privs_3 ++ (lw_privs_4)))
def lw_tbl : List Cond := k2_sels lw_privs ++ tables_1
theorem lw_privs_ok : ∀ q ∈ lw_privs, lw_okq q := by
  show ∀ q ∈ lw_privs_1 ++ (lw_privs_2 ++ (lw_privs_3 ++ (lw_privs_4))), lw_okq q
  exact List.forall_mem_append.mpr ⟨lw_r1, List.forall_mem_append.mpr ⟨lw_r2, List.forall_mem_append.mpr ⟨lw_r3, lw_r4⟩⟩⟩
def RX0 : String := "CopiedPatches$Finding"
def TX0 : u_T := fun k => match k with
  | 0 => ("CopiedPatches$Finding", "rows", "[I", true)
  | 1 => ("CopiedPatches$Finding", "shift", "I", false)
  | 2 => ("CopiedPatches$Finding", "dx", "I", false)
  | 3 => ("CopiedPatches$Finding", "dy", "I", false)
  | 4 => ("CopiedPatches$Finding", "leastPlace", "I", false)
  | 5 => ("CopiedPatches$Finding", "pairs", "I", false)
  | 6 => ("CopiedPatches$Finding", "offset", "I", false)
  | 7 => ("CopiedPatches$Finding", "placesFirst", "I", false)
  | _ => ("CopiedPatches$Finding", "places", "I", false)
def tyX0 : Nat → FieldType := fun k => match k with
  | 0 => .array .int
  | 1 => .int
  | 2 => .int
  | 3 => .int
  | 4 => .int
  | 5 => .int
  | 6 => .int
  | 7 => .int
  | _ => .int
theorem nmX0 : ∀ a, a < 9 → ∀ b, b < 9 → a ≠ b → (TX0 a).2.1 ≠ (TX0 b).2.1 := by decide +kernel
theorem tyX0_ok : ∀ k, k < 9 → parseFieldDescriptor (TX0 k).2.2.1 = some (tyX0 k) := by decide +kernel
abbrev cX0_init : ByteArray := prog_2_method_1_code
def yX0_init : MethodName := ⟨RX0, "<init>", "()V"⟩
abbrev cX0_begin : ByteArray := prog_2_method_2_code
def yX0_begin : MethodName := ⟨RX0, "begin", "(III[I)V"⟩
abbrev cX0_lift : ByteArray := prog_2_method_3_code
def yX0_lift : MethodName := ⟨RX0, "lift", "(LCopiedPatches$Squares;I)V"⟩
abbrev cX0_grow : ByteArray := prog_2_method_4_code
def yX0_grow : MethodName := ⟨RX0, "grow", "(LCopiedPatches$Picture;II[I)V"⟩
abbrev cX0_missOf : ByteArray := prog_2_method_5_code
def yX0_missOf : MethodName := ⟨RX0, "missOf", "(LCopiedPatches$Picture;II)I"⟩
abbrev cX0_missesTogether : ByteArray := prog_2_method_6_code
def yX0_missesTogether : MethodName := ⟨RX0, "missesTogether", "(LCopiedPatches$Picture;)I"⟩
abbrev cX0_rowOf : ByteArray := prog_2_method_7_code
def yX0_rowOf : MethodName := ⟨RX0, "rowOf", "(I)I"⟩
abbrev cX0_copyRowOf : ByteArray := prog_2_method_8_code
def yX0_copyRowOf : MethodName := ⟨RX0, "copyRowOf", "(I)I"⟩
abbrev cX0_isAhead : ByteArray := prog_2_method_9_code
def yX0_isAhead : MethodName := ⟨RX0, "isAhead", "(LCopiedPatches$Finding;Z)Z"⟩
def RX1 : String := "CopiedPatches$Findings"
def TX1 : u_T := fun k => match k with
  | 0 => ("CopiedPatches$Findings", "list", "[LCopiedPatches$Finding;", true)
  | 1 => ("CopiedPatches$Findings", "count", "I", false)
  | 2 => ("CopiedPatches$Findings", "regions", "[I", true)
  | 3 => ("CopiedPatches$Findings", "left", "[[I", true)
  | _ => ("CopiedPatches$Findings", "open", "[I", true)
def tyX1 : Nat → FieldType := fun k => match k with
  | 0 => .array (.object "CopiedPatches$Finding")
  | 1 => .int
  | 2 => .array .int
  | 3 => .array (.array .int)
  | _ => .array .int
theorem nmX1 : ∀ a, a < 5 → ∀ b, b < 5 → a ≠ b → (TX1 a).2.1 ≠ (TX1 b).2.1 := by decide +kernel
theorem tyX1_ok : ∀ k, k < 5 → parseFieldDescriptor (TX1 k).2.2.1 = some (tyX1 k) := by decide +kernel
abbrev cX1_init : ByteArray := prog_3_method_1_code
def yX1_init : MethodName := ⟨RX1, "<init>", "()V"⟩
abbrev cX1_gather : ByteArray := prog_3_method_2_code
def yX1_gather : MethodName := ⟨RX1, "gather", "(LCopiedPatches$Shifts;)V"⟩
abbrev cX1_addRegion : ByteArray := prog_3_method_3_code
def yX1_addRegion : MethodName := ⟨RX1, "addRegion", "(III)V"⟩
abbrev cX1_grow : ByteArray := prog_3_method_4_code
def yX1_grow : MethodName := ⟨RX1, "grow", "(LCopiedPatches$Picture;LCopiedPatches$Squares;[I)V"⟩
abbrev cX1_settle : ByteArray := prog_3_method_5_code
def yX1_settle : MethodName := ⟨RX1, "settle", "(IZ)V"⟩
abbrev cX1_columnsOf : ByteArray := prog_3_method_6_code
def yX1_columnsOf : MethodName := ⟨RX1, "columnsOf", "(II)I"⟩
abbrev cX1_placesSeen : ByteArray := prog_3_method_7_code
def yX1_placesSeen : MethodName := ⟨RX1, "placesSeen", "()I"⟩
def RX2 : String := "CopiedPatches$Picture"
def TX2 : u_T := fun k => match k with
  | 0 => ("CopiedPatches$Picture", "greys", "[I", true)
  | 1 => ("CopiedPatches$Picture", "remembered", "[I", true)
  | 2 => ("CopiedPatches$Picture", "columns", "I", false)
  | _ => ("CopiedPatches$Picture", "rows", "I", false)
def tyX2 : Nat → FieldType := fun k => match k with
  | 0 => .array .int
  | 1 => .array .int
  | 2 => .int
  | _ => .int
theorem nmX2 : ∀ a, a < 4 → ∀ b, b < 4 → a ≠ b → (TX2 a).2.1 ≠ (TX2 b).2.1 := by decide +kernel
theorem tyX2_ok : ∀ k, k < 4 → parseFieldDescriptor (TX2 k).2.2.1 = some (tyX2 k) := by decide +kernel
abbrev cX2_init : ByteArray := prog_4_method_1_code
def yX2_init : MethodName := ⟨RX2, "<init>", "()V"⟩
abbrev cX2_renew : ByteArray := prog_4_method_2_code
def yX2_renew : MethodName := ⟨RX2, "renew", "(II)I"⟩
abbrev cX2_has : ByteArray := prog_4_method_3_code
def yX2_has : MethodName := ⟨RX2, "has", "(II)Z"⟩
abbrev cX2_hasFrom : ByteArray := prog_4_method_4_code
def yX2_hasFrom : MethodName := ⟨RX2, "hasFrom", "(IIII)Z"⟩
abbrev cX2_greyOf : ByteArray := prog_4_method_5_code
def yX2_greyOf : MethodName := ⟨RX2, "greyOf", "(II)I"⟩
abbrev cX2_change : ByteArray := prog_4_method_6_code
def yX2_change : MethodName := ⟨RX2, "change", "(III)I"⟩
abbrev cX2_remember : ByteArray := prog_4_method_7_code
def yX2_remember : MethodName := ⟨RX2, "remember", "()V"⟩
abbrev cX2_rememberedOf : ByteArray := prog_4_method_8_code
def yX2_rememberedOf : MethodName := ⟨RX2, "rememberedOf", "(II)I"⟩
def RX3 : String := "CopiedPatches$Rows"
def TX3 : u_T := fun k => match k with
  | _ => ("", "", "", false)
def tyX3 : Nat → FieldType := fun k => match k with
  | _ => .int
theorem nmX3 : ∀ a, a < 0 → ∀ b, b < 0 → a ≠ b → (TX3 a).2.1 ≠ (TX3 b).2.1 := by decide +kernel
theorem tyX3_ok : ∀ k, k < 0 → parseFieldDescriptor (TX3 k).2.2.1 = some (tyX3 k) := by decide +kernel
abbrev cX3_clear : ByteArray := prog_5_method_2_code
def yX3_clear : MethodName := ⟨RX3, "clear", "([I)V"⟩
abbrev cX3_size : ByteArray := prog_5_method_3_code
def yX3_size : MethodName := ⟨RX3, "size", "([I)I"⟩
abbrev cX3_spread : ByteArray := prog_5_method_4_code
def yX3_spread : MethodName := ⟨RX3, "spread", "([I[I)V"⟩
abbrev cX3_spreadOnce : ByteArray := prog_5_method_5_code
def yX3_spreadOnce : MethodName := ⟨RX3, "spreadOnce", "([I[I)Z"⟩
abbrev cX3_widen : ByteArray := prog_5_method_6_code
def yX3_widen : MethodName := ⟨RX3, "widen", "([II)V"⟩
abbrev cX3_columns : ByteArray := prog_5_method_7_code
def yX3_columns : MethodName := ⟨RX3, "columns", "([I)I"⟩
abbrev cX3_leastColumn : ByteArray := prog_5_method_8_code
def yX3_leastColumn : MethodName := ⟨RX3, "leastColumn", "([I)I"⟩
abbrev cX3_greatestColumn : ByteArray := prog_5_method_9_code
def yX3_greatestColumn : MethodName := ⟨RX3, "greatestColumn", "([I)I"⟩
abbrev cX3_leastRow : ByteArray := prog_5_method_10_code
def yX3_leastRow : MethodName := ⟨RX3, "leastRow", "([I)I"⟩
abbrev cX3_greatestRow : ByteArray := prog_5_method_11_code
def yX3_greatestRow : MethodName := ⟨RX3, "greatestRow", "([I)I"⟩
def RX4 : String := "CopiedPatches$Shifts"
def TX4 : u_T := fun k => match k with
  | 0 => ("CopiedPatches$Shifts", "first", "[I", true)
  | 1 => ("CopiedPatches$Shifts", "second", "[I", true)
  | 2 => ("CopiedPatches$Shifts", "pairs", "I", false)
  | 3 => ("CopiedPatches$Shifts", "pairsWith", "[I", true)
  | 4 => ("CopiedPatches$Shifts", "voted", "[I", true)
  | 5 => ("CopiedPatches$Shifts", "ways", "[I", true)
  | 6 => ("CopiedPatches$Shifts", "count", "I", false)
  | _ => ("CopiedPatches$Shifts", "numberOfWay", "[I", true)
def tyX4 : Nat → FieldType := fun k => match k with
  | 0 => .array .int
  | 1 => .array .int
  | 2 => .int
  | 3 => .array .int
  | 4 => .array .int
  | 5 => .array .int
  | 6 => .int
  | _ => .array .int
theorem nmX4 : ∀ a, a < 8 → ∀ b, b < 8 → a ≠ b → (TX4 a).2.1 ≠ (TX4 b).2.1 := by decide +kernel
theorem tyX4_ok : ∀ k, k < 8 → parseFieldDescriptor (TX4 k).2.2.1 = some (tyX4 k) := by decide +kernel
abbrev cX4_init : ByteArray := prog_6_method_1_code
def yX4_init : MethodName := ⟨RX4, "<init>", "()V"⟩
abbrev cX4_gather : ByteArray := prog_6_method_2_code
def yX4_gather : MethodName := ⟨RX4, "gather", "(LCopiedPatches$Squares;[I)V"⟩
abbrev cX4_pairUp : ByteArray := prog_6_method_3_code
def yX4_pairUp : MethodName := ⟨RX4, "pairUp", "(LCopiedPatches$Squares;II)V"⟩
abbrev cX4_addPair : ByteArray := prog_6_method_4_code
def yX4_addPair : MethodName := ⟨RX4, "addPair", "(III)V"⟩
abbrev cX4_choose : ByteArray := prog_6_method_5_code
def yX4_choose : MethodName := ⟨RX4, "choose", "(I)V"⟩
abbrev cX4_settle : ByteArray := prog_6_method_6_code
def yX4_settle : MethodName := ⟨RX4, "settle", "(I)V"⟩
abbrev cX4_isAhead : ByteArray := prog_6_method_7_code
def yX4_isAhead : MethodName := ⟨RX4, "isAhead", "(II)Z"⟩
abbrev cX4_shiftOfPair : ByteArray := prog_6_method_8_code
def yX4_shiftOfPair : MethodName := ⟨RX4, "shiftOfPair", "(I)I"⟩
def RX5 : String := "CopiedPatches$Squares"
def TX5 : u_T := fun k => match k with
  | 0 => ("CopiedPatches$Squares", "order", "[I", true)
  | 1 => ("CopiedPatches$Squares", "merged", "[I", true)
  | 2 => ("CopiedPatches$Squares", "least", "[I", true)
  | 3 => ("CopiedPatches$Squares", "greatest", "[I", true)
  | 4 => ("CopiedPatches$Squares", "role", "[I", true)
  | 5 => ("CopiedPatches$Squares", "head", "[J", true)
  | 6 => ("CopiedPatches$Squares", "tail", "[J", true)
  | 7 => ("CopiedPatches$Squares", "rank", "[I", true)
  | 8 => ("CopiedPatches$Squares", "kindFrom", "[I", true)
  | 9 => ("CopiedPatches$Squares", "kindTo", "[I", true)
  | 10 => ("CopiedPatches$Squares", "side", "I", false)
  | 11 => ("CopiedPatches$Squares", "across", "I", false)
  | 12 => ("CopiedPatches$Squares", "down", "I", false)
  | 13 => ("CopiedPatches$Squares", "count", "I", false)
  | 14 => ("CopiedPatches$Squares", "flats", "I", false)
  | 15 => ("CopiedPatches$Squares", "crowded", "I", false)
  | _ => ("CopiedPatches$Squares", "kinds", "I", false)
def tyX5 : Nat → FieldType := fun k => match k with
  | 0 => .array .int
  | 1 => .array .int
  | 2 => .array .int
  | 3 => .array .int
  | 4 => .array .int
  | 5 => .array .long
  | 6 => .array .long
  | 7 => .array .int
  | 8 => .array .int
  | 9 => .array .int
  | 10 => .int
  | 11 => .int
  | 12 => .int
  | 13 => .int
  | 14 => .int
  | 15 => .int
  | _ => .int
theorem nmX5 : ∀ a, a < 17 → ∀ b, b < 17 → a ≠ b → (TX5 a).2.1 ≠ (TX5 b).2.1 := by decide +kernel
theorem tyX5_ok : ∀ k, k < 17 → parseFieldDescriptor (TX5 k).2.2.1 = some (tyX5 k) := by decide +kernel
abbrev cX5_init : ByteArray := prog_7_method_1_code
def yX5_init : MethodName := ⟨RX5, "<init>", "()V"⟩
abbrev cX5_has : ByteArray := prog_7_method_2_code
def yX5_has : MethodName := ⟨RX5, "has", "(II)Z"⟩
abbrev cX5_read : ByteArray := prog_7_method_3_code
def yX5_read : MethodName := ⟨RX5, "read", "(LCopiedPatches$Picture;[I)V"⟩
abbrev cX5_measure : ByteArray := prog_7_method_4_code
def yX5_measure : MethodName := ⟨RX5, "measure", "(LCopiedPatches$Picture;III)V"⟩
abbrev cX5_readNumbers : ByteArray := prog_7_method_5_code
def yX5_readNumbers : MethodName := ⟨RX5, "readNumbers", "(LCopiedPatches$Picture;II[I)V"⟩
abbrev cX5_numberOf : ByteArray := prog_7_method_6_code
def yX5_numberOf : MethodName := ⟨RX5, "numberOf", "(II)I"⟩
abbrev cX5_markOf : ByteArray := prog_7_method_7_code
def yX5_markOf : MethodName := ⟨RX5, "markOf", "(I)I"⟩
abbrev cX5_sort : ByteArray := prog_7_method_8_code
def yX5_sort : MethodName := ⟨RX5, "sort", "()V"⟩
abbrev cX5_merge : ByteArray := prog_7_method_9_code
def yX5_merge : MethodName := ⟨RX5, "merge", "(III)V"⟩
abbrev cX5_isBefore : ByteArray := prog_7_method_10_code
def yX5_isBefore : MethodName := ⟨RX5, "isBefore", "(II)Z"⟩
abbrev cX5_areAlike : ByteArray := prog_7_method_11_code
def yX5_areAlike : MethodName := ⟨RX5, "areAlike", "(II)Z"⟩
abbrev cX5_splitKinds : ByteArray := prog_7_method_12_code
def yX5_splitKinds : MethodName := ⟨RX5, "splitKinds", "(I)V"⟩
abbrev cX5_noteKind : ByteArray := prog_7_method_13_code
def yX5_noteKind : MethodName := ⟨RX5, "noteKind", "(III)V"⟩
def RX6 : String := "CopiedPatches$Survey"
def TX6 : u_T := fun k => match k with
  | 0 => ("CopiedPatches$Survey", "picture", "LCopiedPatches$Picture;", true)
  | 1 => ("CopiedPatches$Survey", "settings", "[I", true)
  | 2 => ("CopiedPatches$Survey", "squares", "LCopiedPatches$Squares;", true)
  | 3 => ("CopiedPatches$Survey", "shifts", "LCopiedPatches$Shifts;", true)
  | 4 => ("CopiedPatches$Survey", "findings", "LCopiedPatches$Findings;", true)
  | _ => ("CopiedPatches$Survey", "reached", "I", false)
def tyX6 : Nat → FieldType := fun k => match k with
  | 0 => .object "CopiedPatches$Picture"
  | 1 => .array .int
  | 2 => .object "CopiedPatches$Squares"
  | 3 => .object "CopiedPatches$Shifts"
  | 4 => .object "CopiedPatches$Findings"
  | _ => .int
theorem nmX6 : ∀ a, a < 6 → ∀ b, b < 6 → a ≠ b → (TX6 a).2.1 ≠ (TX6 b).2.1 := by decide +kernel
theorem tyX6_ok : ∀ k, k < 6 → parseFieldDescriptor (TX6 k).2.2.1 = some (tyX6 k) := by decide +kernel
abbrev cX6_init : ByteArray := prog_8_method_1_code
def yX6_init : MethodName := ⟨RX6, "<init>", "(LCopiedPatches$Picture;)V"⟩
abbrev cX6_forget : ByteArray := prog_8_method_2_code
def yX6_forget : MethodName := ⟨RX6, "forget", "()V"⟩
abbrev cX6_reach : ByteArray := prog_8_method_3_code
def yX6_reach : MethodName := ⟨RX6, "reach", "(I)V"⟩
abbrev cX6_howMany : ByteArray := prog_8_method_4_code
def yX6_howMany : MethodName := ⟨RX6, "howMany", "(I)I"⟩
def RX7 : String := "CopiedPatches"
def TX7 : u_T := fun k => match k with
  | 0 => ("CopiedPatches", "sheet", "LCopiedPatches$Picture;", true)
  | 1 => ("CopiedPatches", "now", "LCopiedPatches$Survey;", true)
  | _ => ("CopiedPatches", "other", "LCopiedPatches$Survey;", true)
def tyX7 : Nat → FieldType := fun k => match k with
  | 0 => .object "CopiedPatches$Picture"
  | 1 => .object "CopiedPatches$Survey"
  | _ => .object "CopiedPatches$Survey"
theorem nmX7 : ∀ a, a < 3 → ∀ b, b < 3 → a ≠ b → (TX7 a).2.1 ≠ (TX7 b).2.1 := by decide +kernel
theorem tyX7_ok : ∀ k, k < 3 → parseFieldDescriptor (TX7 k).2.2.1 = some (tyX7 k) := by decide +kernel
abbrev cX7_init : ByteArray := prog_1_method_1_code
def yX7_init : MethodName := ⟨RX7, "<init>", "()V"⟩
abbrev cX7_picture : ByteArray := prog_1_method_2_code
def yX7_picture : MethodName := ⟨RX7, "picture", "(II)I"⟩
abbrev cX7_dot : ByteArray := prog_1_method_3_code
def yX7_dot : MethodName := ⟨RX7, "dot", "(III)I"⟩
abbrev cX7_at : ByteArray := prog_1_method_4_code
def yX7_at : MethodName := ⟨RX7, "at", "(II)I"⟩
abbrev cX7_raise : ByteArray := prog_1_method_5_code
def yX7_raise : MethodName := ⟨RX7, "raise", "(IIIII)I"⟩
abbrev cX7_paste : ByteArray := prog_1_method_6_code
def yX7_paste : MethodName := ⟨RX7, "paste", "(IIIIII)I"⟩
abbrev cX7_tune : ByteArray := prog_1_method_7_code
def yX7_tune : MethodName := ⟨RX7, "tune", "(II)I"⟩
abbrev cX7_mark : ByteArray := prog_1_method_8_code
def yX7_mark : MethodName := ⟨RX7, "mark", "(II)I"⟩
abbrev cX7_square : ByteArray := prog_1_method_9_code
def yX7_square : MethodName := ⟨RX7, "square", "(III)I"⟩
abbrev cX7_inOrder : ByteArray := prog_1_method_10_code
def yX7_inOrder : MethodName := ⟨RX7, "inOrder", "(I)I"⟩
abbrev cX7_pair : ByteArray := prog_1_method_11_code
def yX7_pair : MethodName := ⟨RX7, "pair", "(II)I"⟩
abbrev cX7_votes : ByteArray := prog_1_method_12_code
def yX7_votes : MethodName := ⟨RX7, "votes", "(II)I"⟩
abbrev cX7_shift : ByteArray := prog_1_method_13_code
def yX7_shift : MethodName := ⟨RX7, "shift", "(II)I"⟩
abbrev cX7_finding : ByteArray := prog_1_method_14_code
def yX7_finding : MethodName := ⟨RX7, "finding", "(II)I"⟩
abbrev cX7_holds : ByteArray := prog_1_method_15_code
def yX7_holds : MethodName := ⟨RX7, "holds", "(III)I"⟩
abbrev cX7_seen : ByteArray := prog_1_method_16_code
def yX7_seen : MethodName := ⟨RX7, "seen", "(II)I"⟩
abbrev cX7_would : ByteArray := prog_1_method_17_code
def yX7_would : MethodName := ⟨RX7, "would", "(III)I"⟩
abbrev cX7_many : ByteArray := prog_1_method_18_code
def yX7_many : MethodName := ⟨RX7, "many", "(I)I"⟩
abbrev cX7_stageOfCount : ByteArray := prog_1_method_19_code
def yX7_stageOfCount : MethodName := ⟨RX7, "stageOfCount", "(I)I"⟩
abbrev cX7_isWithin : ByteArray := prog_1_method_20_code
def yX7_isWithin : MethodName := ⟨RX7, "isWithin", "(III)Z"⟩
abbrev cX7_isSetting : ByteArray := prog_1_method_21_code
def yX7_isSetting : MethodName := ⟨RX7, "isSetting", "(II)Z"⟩
abbrev cX7_wayOf : ByteArray := prog_1_method_22_code
def yX7_wayOf : MethodName := ⟨RX7, "wayOf", "(II)I"⟩
abbrev cX7_acrossOf : ByteArray := prog_1_method_23_code
def yX7_acrossOf : MethodName := ⟨RX7, "acrossOf", "(I)I"⟩
abbrev cX7_downOf : ByteArray := prog_1_method_24_code
def yX7_downOf : MethodName := ⟨RX7, "downOf", "(I)I"⟩
def RX8 : String := "CopiedPatchesModel"
def TX8 : u_T := fun k => match k with
  | 0 => ("CopiedPatchesModel", "worked", "I", false)
  | 1 => ("CopiedPatchesModel", "width", "I", false)
  | 2 => ("CopiedPatchesModel", "height", "I", false)
  | 3 => ("CopiedPatchesModel", "grey", "[I", true)
  | 4 => ("CopiedPatchesModel", "setting", "[I", true)
  | 5 => ("CopiedPatchesModel", "leastOf", "[I", true)
  | 6 => ("CopiedPatchesModel", "mostOf", "[I", true)
  | 7 => ("CopiedPatchesModel", "lifted", "[I", true)
  | 8 => ("CopiedPatchesModel", "squares", "I", false)
  | 9 => ("CopiedPatchesModel", "square", "[I", true)
  | 10 => ("CopiedPatchesModel", "dark", "[I", true)
  | 11 => ("CopiedPatchesModel", "light", "[I", true)
  | 12 => ("CopiedPatchesModel", "like", "[I", true)
  | 13 => ("CopiedPatchesModel", "isCrowded", "[Z", true)
  | 14 => ("CopiedPatchesModel", "pairs", "I", false)
  | 15 => ("CopiedPatchesModel", "first", "[I", true)
  | 16 => ("CopiedPatchesModel", "second", "[I", true)
  | 17 => ("CopiedPatchesModel", "votes", "[I", true)
  | 18 => ("CopiedPatchesModel", "shifts", "I", false)
  | 19 => ("CopiedPatchesModel", "shiftX", "[I", true)
  | 20 => ("CopiedPatchesModel", "shiftY", "[I", true)
  | 21 => ("CopiedPatchesModel", "regionAt", "[I", true)
  | 22 => ("CopiedPatchesModel", "regions", "I", false)
  | 23 => ("CopiedPatchesModel", "regionShift", "[I", true)
  | 24 => ("CopiedPatchesModel", "regionPairs", "[I", true)
  | 25 => ("CopiedPatchesModel", "regionFirst", "[I", true)
  | 26 => ("CopiedPatchesModel", "findings", "I", false)
  | 27 => ("CopiedPatchesModel", "regionOf", "[I", true)
  | 28 => ("CopiedPatchesModel", "offset", "[I", true)
  | 29 => ("CopiedPatchesModel", "begun", "[I", true)
  | 30 => ("CopiedPatchesModel", "held", "[I", true)
  | 31 => ("CopiedPatchesModel", "isIn", "[Z", true)
  | 32 => ("CopiedPatchesModel", "numbered", "[I", true)
  | 33 => ("CopiedPatchesModel", "left", "I", false)
  | 34 => ("CopiedPatchesModel", "right", "I", false)
  | 35 => ("CopiedPatchesModel", "top", "I", false)
  | 36 => ("CopiedPatchesModel", "low", "I", false)
  | _ => ("CopiedPatchesModel", "missed", "I", false)
def tyX8 : Nat → FieldType := fun k => match k with
  | 0 => .int
  | 1 => .int
  | 2 => .int
  | 3 => .array .int
  | 4 => .array .int
  | 5 => .array .int
  | 6 => .array .int
  | 7 => .array .int
  | 8 => .int
  | 9 => .array .int
  | 10 => .array .int
  | 11 => .array .int
  | 12 => .array .int
  | 13 => .array .boolean
  | 14 => .int
  | 15 => .array .int
  | 16 => .array .int
  | 17 => .array .int
  | 18 => .int
  | 19 => .array .int
  | 20 => .array .int
  | 21 => .array .int
  | 22 => .int
  | 23 => .array .int
  | 24 => .array .int
  | 25 => .array .int
  | 26 => .int
  | 27 => .array .int
  | 28 => .array .int
  | 29 => .array .int
  | 30 => .array .int
  | 31 => .array .boolean
  | 32 => .array .int
  | 33 => .int
  | 34 => .int
  | 35 => .int
  | 36 => .int
  | _ => .int
theorem nmX8 : ∀ a, a < 38 → ∀ b, b < 38 → a ≠ b → (TX8 a).2.1 ≠ (TX8 b).2.1 := by decide +kernel
theorem tyX8_ok : ∀ k, k < 38 → parseFieldDescriptor (TX8 k).2.2.1 = some (tyX8 k) := by decide +kernel
abbrev cX8_init : ByteArray := prog_10_method_1_code
def yX8_init : MethodName := ⟨RX8, "<init>", "()V"⟩
abbrev cX8_within : ByteArray := prog_10_method_2_code
def yX8_within : MethodName := ⟨RX8, "within", "(III)Z"⟩
abbrev cX8_changed : ByteArray := prog_10_method_3_code
def yX8_changed : MethodName := ⟨RX8, "changed", "(I)I"⟩
abbrev cX8_size : ByteArray := prog_10_method_4_code
def yX8_size : MethodName := ⟨RX8, "size", "(I)I"⟩
abbrev cX8_isPlace : ByteArray := prog_10_method_5_code
def yX8_isPlace : MethodName := ⟨RX8, "isPlace", "(II)Z"⟩
abbrev cX8_picture : ByteArray := prog_10_method_6_code
def yX8_picture : MethodName := ⟨RX8, "picture", "(II)I"⟩
abbrev cX8_dot : ByteArray := prog_10_method_7_code
def yX8_dot : MethodName := ⟨RX8, "dot", "(III)I"⟩
abbrev cX8_at : ByteArray := prog_10_method_8_code
def yX8_at : MethodName := ⟨RX8, "at", "(II)I"⟩
abbrev cX8_isPart : ByteArray := prog_10_method_9_code
def yX8_isPart : MethodName := ⟨RX8, "isPart", "(IIII)Z"⟩
abbrev cX8_raise : ByteArray := prog_10_method_10_code
def yX8_raise : MethodName := ⟨RX8, "raise", "(IIIII)I"⟩
abbrev cX8_paste : ByteArray := prog_10_method_11_code
def yX8_paste : MethodName := ⟨RX8, "paste", "(IIIIII)I"⟩
abbrev cX8_isSetting : ByteArray := prog_10_method_12_code
def yX8_isSetting : MethodName := ⟨RX8, "isSetting", "(II)Z"⟩
abbrev cX8_tune : ByteArray := prog_10_method_13_code
def yX8_tune : MethodName := ⟨RX8, "tune", "(II)I"⟩
abbrev cX8_numbers : ByteArray := prog_10_method_14_code
def yX8_numbers : MethodName := ⟨RX8, "numbers", "()I"⟩
abbrev cX8_greyIn : ByteArray := prog_10_method_15_code
def yX8_greyIn : MethodName := ⟨RX8, "greyIn", "(II)I"⟩
abbrev cX8_numberIn : ByteArray := prog_10_method_16_code
def yX8_numberIn : MethodName := ⟨RX8, "numberIn", "(II)I"⟩
abbrev cX8_isFlat : ByteArray := prog_10_method_17_code
def yX8_isFlat : MethodName := ⟨RX8, "isFlat", "(I)Z"⟩
abbrev cX8_compared : ByteArray := prog_10_method_18_code
def yX8_compared : MethodName := ⟨RX8, "compared", "(II)I"⟩
abbrev cX8_findSquares : ByteArray := prog_10_method_19_code
def yX8_findSquares : MethodName := ⟨RX8, "findSquares", "()V"⟩
abbrev cX8_manyLike : ByteArray := prog_10_method_20_code
def yX8_manyLike : MethodName := ⟨RX8, "manyLike", "(IZ)I"⟩
abbrev cX8_findCrowds : ByteArray := prog_10_method_21_code
def yX8_findCrowds : MethodName := ⟨RX8, "findCrowds", "()V"⟩
abbrev cX8_squareAt : ByteArray := prog_10_method_22_code
def yX8_squareAt : MethodName := ⟨RX8, "squareAt", "(II)I"⟩
abbrev cX8_mark : ByteArray := prog_10_method_23_code
def yX8_mark : MethodName := ⟨RX8, "mark", "(II)I"⟩
abbrev cX8_square : ByteArray := prog_10_method_24_code
def yX8_square : MethodName := ⟨RX8, "square", "(III)I"⟩
abbrev cX8_inOrder : ByteArray := prog_10_method_25_code
def yX8_inOrder : MethodName := ⟨RX8, "inOrder", "(I)I"⟩
abbrev cX8_across : ByteArray := prog_10_method_26_code
def yX8_across : MethodName := ⟨RX8, "across", "(II)I"⟩
abbrev cX8_down : ByteArray := prog_10_method_27_code
def yX8_down : MethodName := ⟨RX8, "down", "(II)I"⟩
abbrev cX8_isPair : ByteArray := prog_10_method_28_code
def yX8_isPair : MethodName := ⟨RX8, "isPair", "(II)Z"⟩
abbrev cX8_voteAt : ByteArray := prog_10_method_29_code
def yX8_voteAt : MethodName := ⟨RX8, "voteAt", "(II)I"⟩
abbrev cX8_findPairs : ByteArray := prog_10_method_30_code
def yX8_findPairs : MethodName := ⟨RX8, "findPairs", "()V"⟩
abbrev cX8_isShift : ByteArray := prog_10_method_31_code
def yX8_isShift : MethodName := ⟨RX8, "isShift", "(II)Z"⟩
abbrev cX8_isShiftAhead : ByteArray := prog_10_method_32_code
def yX8_isShiftAhead : MethodName := ⟨RX8, "isShiftAhead", "(IIII)Z"⟩
abbrev cX8_findShifts : ByteArray := prog_10_method_33_code
def yX8_findShifts : MethodName := ⟨RX8, "findShifts", "()V"⟩
abbrev cX8_pair : ByteArray := prog_10_method_34_code
def yX8_pair : MethodName := ⟨RX8, "pair", "(II)I"⟩
abbrev cX8_votes : ByteArray := prog_10_method_35_code
def yX8_votes : MethodName := ⟨RX8, "votes", "(II)I"⟩
abbrev cX8_beside : ByteArray := prog_10_method_36_code
def yX8_beside : MethodName := ⟨RX8, "beside", "(IIII)I"⟩
abbrev cX8_isBeside : ByteArray := prog_10_method_37_code
def yX8_isBeside : MethodName := ⟨RX8, "isBeside", "(III)Z"⟩
abbrev cX8_spreads : ByteArray := prog_10_method_38_code
def yX8_spreads : MethodName := ⟨RX8, "spreads", "(II)V"⟩
abbrev cX8_findRegions : ByteArray := prog_10_method_39_code
def yX8_findRegions : MethodName := ⟨RX8, "findRegions", "()V"⟩
abbrev cX8_shift : ByteArray := prog_10_method_40_code
def yX8_shift : MethodName := ⟨RX8, "shift", "(II)I"⟩
abbrev cX8_isTaken : ByteArray := prog_10_method_41_code
def yX8_isTaken : MethodName := ⟨RX8, "isTaken", "(I)Z"⟩
abbrev cX8_nextRegion : ByteArray := prog_10_method_42_code
def yX8_nextRegion : MethodName := ⟨RX8, "nextRegion", "()I"⟩
abbrev cX8_shiftOf : ByteArray := prog_10_method_43_code
def yX8_shiftOf : MethodName := ⟨RX8, "shiftOf", "(I)I"⟩
abbrev cX8_copyOf : ByteArray := prog_10_method_44_code
def yX8_copyOf : MethodName := ⟨RX8, "copyOf", "(II)I"⟩
abbrev cX8_missOf : ByteArray := prog_10_method_45_code
def yX8_missOf : MethodName := ⟨RX8, "missOf", "(II)I"⟩
abbrev cX8_darkAt : ByteArray := prog_10_method_46_code
def yX8_darkAt : MethodName := ⟨RX8, "darkAt", "(I)I"⟩
abbrev cX8_beginsFinding : ByteArray := prog_10_method_47_code
def yX8_beginsFinding : MethodName := ⟨RX8, "beginsFinding", "(I)V"⟩
abbrev cX8_manyIn : ByteArray := prog_10_method_48_code
def yX8_manyIn : MethodName := ⟨RX8, "manyIn", "(I)I"⟩
abbrev cX8_isHeld : ByteArray := prog_10_method_49_code
def yX8_isHeld : MethodName := ⟨RX8, "isHeld", "(III)Z"⟩
abbrev cX8_comes : ByteArray := prog_10_method_50_code
def yX8_comes : MethodName := ⟨RX8, "comes", "(II)Z"⟩
abbrev cX8_grows : ByteArray := prog_10_method_51_code
def yX8_grows : MethodName := ⟨RX8, "grows", "(I)V"⟩
abbrev cX8_isFindingAhead : ByteArray := prog_10_method_52_code
def yX8_isFindingAhead : MethodName := ⟨RX8, "isFindingAhead", "(II)Z"⟩
abbrev cX8_findFindings : ByteArray := prog_10_method_53_code
def yX8_findFindings : MethodName := ⟨RX8, "findFindings", "()V"⟩
abbrev cX8_measures : ByteArray := prog_10_method_54_code
def yX8_measures : MethodName := ⟨RX8, "measures", "(I)V"⟩
abbrev cX8_finding : ByteArray := prog_10_method_55_code
def yX8_finding : MethodName := ⟨RX8, "finding", "(II)I"⟩
abbrev cX8_isCopy : ByteArray := prog_10_method_56_code
def yX8_isCopy : MethodName := ⟨RX8, "isCopy", "(III)Z"⟩
abbrev cX8_holds : ByteArray := prog_10_method_57_code
def yX8_holds : MethodName := ⟨RX8, "holds", "(III)I"⟩
abbrev cX8_isSeen : ByteArray := prog_10_method_58_code
def yX8_isSeen : MethodName := ⟨RX8, "isSeen", "(III)Z"⟩
abbrev cX8_seen : ByteArray := prog_10_method_59_code
def yX8_seen : MethodName := ⟨RX8, "seen", "(II)I"⟩
abbrev cX8_squaresThat : ByteArray := prog_10_method_60_code
def yX8_squaresThat : MethodName := ⟨RX8, "squaresThat", "(I)I"⟩
abbrev cX8_would : ByteArray := prog_10_method_61_code
def yX8_would : MethodName := ⟨RX8, "would", "(III)I"⟩
abbrev cX8_many : ByteArray := prog_10_method_62_code
def yX8_many : MethodName := ⟨RX8, "many", "(I)I"⟩
def RJ6 : String := "java/lang/Integer"
def TJ6 : u_T := fun k => match k with
  | _ => ("", "", "", false)
def tyJ6 : Nat → FieldType := fun k => match k with
  | _ => .int
theorem nmJ6 : ∀ a, a < 0 → ∀ b, b < 0 → a ≠ b → (TJ6 a).2.1 ≠ (TJ6 b).2.1 := by decide +kernel
theorem tyJ6_ok : ∀ k, k < 0 → parseFieldDescriptor (TJ6 k).2.2.1 = some (tyJ6 k) := by decide +kernel
abbrev cJ6_bitCount_0f7a4 : ByteArray := prog_11_method_49_code
def yJ6_bitCount_0f7a4 : MethodName := ⟨RJ6, "bitCount", "(I)I"⟩
def RJ9 : String := "java/lang/Math"
def TJ9 : u_T := fun k => match k with
  | _ => ("", "", "", false)
def tyJ9 : Nat → FieldType := fun k => match k with
  | _ => .int
theorem nmJ9 : ∀ a, a < 0 → ∀ b, b < 0 → a ≠ b → (TJ9 a).2.1 ≠ (TJ9 b).2.1 := by decide +kernel
theorem tyJ9_ok : ∀ k, k < 0 → parseFieldDescriptor (TJ9 k).2.2.1 = some (tyJ9 k) := by decide +kernel
abbrev cJ9_abs_0f7a4 : ByteArray := prog_12_method_59_code
def yJ9_abs_0f7a4 : MethodName := ⟨RJ9, "abs", "(I)I"⟩
abbrev cJ9_max_7cf53 : ByteArray := prog_12_method_65_code
def yJ9_max_7cf53 : MethodName := ⟨RJ9, "max", "(II)I"⟩
abbrev cJ9_min_7cf53 : ByteArray := prog_12_method_69_code
def yJ9_min_7cf53 : MethodName := ⟨RJ9, "min", "(II)I"⟩
def RJ10 : String := "java/lang/System"
def TJ10 : u_T := fun k => match k with
  | _ => ("", "", "", false)
def tyJ10 : Nat → FieldType := fun k => match k with
  | _ => .int
theorem nmJ10 : ∀ a, a < 0 → ∀ b, b < 0 → a ≠ b → (TJ10 a).2.1 ≠ (TJ10 b).2.1 := by decide +kernel
theorem tyJ10_ok : ∀ k, k < 0 → parseFieldDescriptor (TJ10 k).2.2.1 = some (tyJ10 k) := by decide +kernel
def RL : String := "CopiedPatchesLaw"
abbrev cL_law : ByteArray := code
def yL_law : MethodName := ⟨RL, "law", "([I)Z"⟩

abbrev vwCl : List vw_C := [(RX0, TX0, 9), (RX1, TX1, 5), (RX2, TX2, 4), (RX4, TX4, 8), (RX5, TX5, 17), (RX6, TX6, 6), (RX7, TX7, 3), (RX8, TX8, 38)]
