section
-- ===== PART A: goes FIRST, ahead of the names: the tables' words, and 'selects' of the private methods out of them =====
/-- a private method of a class that the tables say can be made, by its rows of tables_1 -/
def lw_okq (q : MethodName × Nat) : Prop := (q.1.cls ≠ "java/lang/invoke/MethodHandle" ∧ q.1.cls ≠ "java/lang/invoke/VarHandle") ∧ Cond.instantiable q.1.cls q.2 ∈ tables_1 ∧ Cond.privateMethod q.1 ∈ tables_1 ∧ Cond.instanceMethod q.1 ∈ tables_1
theorem lw_p0 : lw_okq (⟨"DistrictCutter$Court", "badDistrict", "(ILDistrictCutter$Parting;)I"⟩, 2) := ⟨⟨by decide +kernel, by decide +kernel⟩, List.mem_of_getElem? (i := 137) (by decide +kernel), List.mem_of_getElem? (i := 469) (by decide +kernel), List.mem_of_getElem? (i := 470) (by decide +kernel)⟩
theorem lw_p1 : lw_okq (⟨"DistrictCutter$Court", "isBad", "(II)Z"⟩, 2) := ⟨⟨by decide +kernel, by decide +kernel⟩, List.mem_of_getElem? (i := 137) (by decide +kernel), List.mem_of_getElem? (i := 473) (by decide +kernel), List.mem_of_getElem? (i := 474) (by decide +kernel)⟩
theorem lw_p2 : lw_okq (⟨"DistrictCutter$Court", "cutKeptTown", "(LDistrictCutter$Parting;)I"⟩, 2) := ⟨⟨by decide +kernel, by decide +kernel⟩, List.mem_of_getElem? (i := 137) (by decide +kernel), List.mem_of_getElem? (i := 503) (by decide +kernel), List.mem_of_getElem? (i := 504) (by decide +kernel)⟩
theorem lw_p3 : lw_okq (⟨"DistrictCutter$Court", "isCut", "(ILDistrictCutter$Parting;)Z"⟩, 2) := ⟨⟨by decide +kernel, by decide +kernel⟩, List.mem_of_getElem? (i := 137) (by decide +kernel), List.mem_of_getElem? (i := 507) (by decide +kernel), List.mem_of_getElem? (i := 508) (by decide +kernel)⟩
theorem lw_p4 : lw_okq (⟨"DistrictCutter$Court", "strayPlace", "(LDistrictCutter$Parting;)I"⟩, 2) := ⟨⟨by decide +kernel, by decide +kernel⟩, List.mem_of_getElem? (i := 137) (by decide +kernel), List.mem_of_getElem? (i := 512) (by decide +kernel), List.mem_of_getElem? (i := 513) (by decide +kernel)⟩
theorem lw_p5 : lw_okq (⟨"DistrictCutter$Court", "townTooMany", "(LDistrictCutter$Parting;)I"⟩, 2) := ⟨⟨by decide +kernel, by decide +kernel⟩, List.mem_of_getElem? (i := 137) (by decide +kernel), List.mem_of_getElem? (i := 516) (by decide +kernel), List.mem_of_getElem? (i := 517) (by decide +kernel)⟩
theorem lw_p6 : lw_okq (⟨"DistrictCutter$Scale", "voteShare", "(II)I"⟩, 3) := ⟨⟨by decide +kernel, by decide +kernel⟩, List.mem_of_getElem? (i := 150) (by decide +kernel), List.mem_of_getElem? (i := 561) (by decide +kernel), List.mem_of_getElem? (i := 562) (by decide +kernel)⟩
theorem lw_p7 : lw_okq (⟨"DistrictCutter", "openClasses", "(I)I"⟩, 9) := ⟨⟨by decide +kernel, by decide +kernel⟩, List.mem_of_getElem? (i := 18) (by decide +kernel), List.mem_of_getElem? (i := 604) (by decide +kernel), List.mem_of_getElem? (i := 605) (by decide +kernel)⟩
theorem lw_p8 : lw_okq (⟨"DistrictCutter$ClassBook", "severalPlaceTowns", "()I"⟩, 16) := ⟨⟨by decide +kernel, by decide +kernel⟩, List.mem_of_getElem? (i := 192) (by decide +kernel), List.mem_of_getElem? (i := 613) (by decide +kernel), List.mem_of_getElem? (i := 614) (by decide +kernel)⟩
theorem lw_p9 : lw_okq (⟨"DistrictCutter$ClassBook", "fillPrices", "(Z)V"⟩, 16) := ⟨⟨by decide +kernel, by decide +kernel⟩, List.mem_of_getElem? (i := 192) (by decide +kernel), List.mem_of_getElem? (i := 618) (by decide +kernel), List.mem_of_getElem? (i := 619) (by decide +kernel)⟩
theorem lw_p10 : lw_okq (⟨"DistrictCutter$Court", "leavesKeptWhole", "(I)Z"⟩, 2) := ⟨⟨by decide +kernel, by decide +kernel⟩, List.mem_of_getElem? (i := 137) (by decide +kernel), List.mem_of_getElem? (i := 630) (by decide +kernel), List.mem_of_getElem? (i := 631) (by decide +kernel)⟩
theorem lw_p11 : lw_okq (⟨"DistrictCutter$ClassBook", "ways", "(III)I"⟩, 16) := ⟨⟨by decide +kernel, by decide +kernel⟩, List.mem_of_getElem? (i := 192) (by decide +kernel), List.mem_of_getElem? (i := 640) (by decide +kernel), List.mem_of_getElem? (i := 641) (by decide +kernel)⟩
theorem lw_p12 : lw_okq (⟨"DistrictCutter$ClassBook", "slotOf", "(III)I"⟩, 16) := ⟨⟨by decide +kernel, by decide +kernel⟩, List.mem_of_getElem? (i := 192) (by decide +kernel), List.mem_of_getElem? (i := 644) (by decide +kernel), List.mem_of_getElem? (i := 645) (by decide +kernel)⟩
theorem lw_p13 : lw_okq (⟨"DistrictCutter$ClassBook", "waysAhead", "(IIII)I"⟩, 16) := ⟨⟨by decide +kernel, by decide +kernel⟩, List.mem_of_getElem? (i := 192) (by decide +kernel), List.mem_of_getElem? (i := 648) (by decide +kernel), List.mem_of_getElem? (i := 649) (by decide +kernel)⟩
theorem lw_p14 : lw_okq (⟨"DistrictCutter$ClassBook", "waysWith", "(IIII)I"⟩, 16) := ⟨⟨by decide +kernel, by decide +kernel⟩, List.mem_of_getElem? (i := 192) (by decide +kernel), List.mem_of_getElem? (i := 655) (by decide +kernel), List.mem_of_getElem? (i := 656) (by decide +kernel)⟩
theorem lw_p15 : lw_okq (⟨"DistrictCutter$ClassBook", "choose", "(I)V"⟩, 16) := ⟨⟨by decide +kernel, by decide +kernel⟩, List.mem_of_getElem? (i := 192) (by decide +kernel), List.mem_of_getElem? (i := 676) (by decide +kernel), List.mem_of_getElem? (i := 677) (by decide +kernel)⟩
def lw_privs_1 : List (MethodName × Nat) := [(⟨"DistrictCutter$Court", "badDistrict", "(ILDistrictCutter$Parting;)I"⟩, 2), (⟨"DistrictCutter$Court", "isBad", "(II)Z"⟩, 2), (⟨"DistrictCutter$Court", "cutKeptTown", "(LDistrictCutter$Parting;)I"⟩, 2), (⟨"DistrictCutter$Court", "isCut", "(ILDistrictCutter$Parting;)Z"⟩, 2), (⟨"DistrictCutter$Court", "strayPlace", "(LDistrictCutter$Parting;)I"⟩, 2), (⟨"DistrictCutter$Court", "townTooMany", "(LDistrictCutter$Parting;)I"⟩, 2), (⟨"DistrictCutter$Scale", "voteShare", "(II)I"⟩, 3), (⟨"DistrictCutter", "openClasses", "(I)I"⟩, 9), (⟨"DistrictCutter$ClassBook", "severalPlaceTowns", "()I"⟩, 16), (⟨"DistrictCutter$ClassBook", "fillPrices", "(Z)V"⟩, 16), (⟨"DistrictCutter$Court", "leavesKeptWhole", "(I)Z"⟩, 2), (⟨"DistrictCutter$ClassBook", "ways", "(III)I"⟩, 16), (⟨"DistrictCutter$ClassBook", "slotOf", "(III)I"⟩, 16), (⟨"DistrictCutter$ClassBook", "waysAhead", "(IIII)I"⟩, 16), (⟨"DistrictCutter$ClassBook", "waysWith", "(IIII)I"⟩, 16), (⟨"DistrictCutter$ClassBook", "choose", "(I)V"⟩, 16)]
theorem lw_r1 : ∀ q ∈ lw_privs_1, lw_okq q := List.forall_mem_cons.mpr ⟨lw_p0, List.forall_mem_cons.mpr ⟨lw_p1, List.forall_mem_cons.mpr ⟨lw_p2, List.forall_mem_cons.mpr ⟨lw_p3, List.forall_mem_cons.mpr ⟨lw_p4, List.forall_mem_cons.mpr ⟨lw_p5, List.forall_mem_cons.mpr ⟨lw_p6, List.forall_mem_cons.mpr ⟨lw_p7, List.forall_mem_cons.mpr ⟨lw_p8, List.forall_mem_cons.mpr ⟨lw_p9, List.forall_mem_cons.mpr ⟨lw_p10, List.forall_mem_cons.mpr ⟨lw_p11, List.forall_mem_cons.mpr ⟨lw_p12, List.forall_mem_cons.mpr ⟨lw_p13, List.forall_mem_cons.mpr ⟨lw_p14, List.forall_mem_cons.mpr ⟨lw_p15, fun _ h => absurd h List.not_mem_nil⟩⟩⟩⟩⟩⟩⟩⟩⟩⟩⟩⟩⟩⟩⟩⟩
theorem lw_p16 : lw_okq (⟨"DistrictCutter$ClassBook", "fillShares", "(I)V"⟩, 16) := ⟨⟨by decide +kernel, by decide +kernel⟩, List.mem_of_getElem? (i := 192) (by decide +kernel), List.mem_of_getElem? (i := 707) (by decide +kernel), List.mem_of_getElem? (i := 708) (by decide +kernel)⟩
theorem lw_p17 : lw_okq (⟨"DistrictCutter$ClassBook", "visit", "(IIII)V"⟩, 16) := ⟨⟨by decide +kernel, by decide +kernel⟩, List.mem_of_getElem? (i := 192) (by decide +kernel), List.mem_of_getElem? (i := 712) (by decide +kernel), List.mem_of_getElem? (i := 713) (by decide +kernel)⟩
theorem lw_p18 : lw_okq (⟨"DistrictCutter$ClassBook", "note", "(I)V"⟩, 16) := ⟨⟨by decide +kernel, by decide +kernel⟩, List.mem_of_getElem? (i := 192) (by decide +kernel), List.mem_of_getElem? (i := 716) (by decide +kernel), List.mem_of_getElem? (i := 717) (by decide +kernel)⟩
theorem lw_p19 : lw_okq (⟨"DistrictCutter", "changeRefusal", "()I"⟩, 9) := ⟨⟨by decide +kernel, by decide +kernel⟩, List.mem_of_getElem? (i := 18) (by decide +kernel), List.mem_of_getElem? (i := 732) (by decide +kernel), List.mem_of_getElem? (i := 733) (by decide +kernel)⟩
theorem lw_p20 : lw_okq (⟨"DistrictCutter$Walker", "drawCrossing", "(LDistrictCutter$Parting;)I"⟩, 10) := ⟨⟨by decide +kernel, by decide +kernel⟩, List.mem_of_getElem? (i := 249) (by decide +kernel), List.mem_of_getElem? (i := 745) (by decide +kernel), List.mem_of_getElem? (i := 746) (by decide +kernel)⟩
theorem lw_p21 : lw_okq (⟨"DistrictCutter$Walker", "draw", "()I"⟩, 10) := ⟨⟨by decide +kernel, by decide +kernel⟩, List.mem_of_getElem? (i := 249) (by decide +kernel), List.mem_of_getElem? (i := 749) (by decide +kernel), List.mem_of_getElem? (i := 750) (by decide +kernel)⟩
theorem lw_p22 : lw_okq (⟨"DistrictCutter$Walker", "drawLeadingPart", "(I)I"⟩, 10) := ⟨⟨by decide +kernel, by decide +kernel⟩, List.mem_of_getElem? (i := 249) (by decide +kernel), List.mem_of_getElem? (i := 756) (by decide +kernel), List.mem_of_getElem? (i := 757) (by decide +kernel)⟩
theorem lw_p23 : lw_okq (⟨"DistrictCutter$Walker", "drawOrder", "(I)I"⟩, 10) := ⟨⟨by decide +kernel, by decide +kernel⟩, List.mem_of_getElem? (i := 249) (by decide +kernel), List.mem_of_getElem? (i := 760) (by decide +kernel), List.mem_of_getElem? (i := 761) (by decide +kernel)⟩
theorem lw_p24 : lw_okq (⟨"DistrictCutter$Walker", "insert", "(II)V"⟩, 10) := ⟨⟨by decide +kernel, by decide +kernel⟩, List.mem_of_getElem? (i := 249) (by decide +kernel), List.mem_of_getElem? (i := 768) (by decide +kernel), List.mem_of_getElem? (i := 769) (by decide +kernel)⟩
theorem lw_p25 : lw_okq (⟨"DistrictCutter$Walker", "growTree", "(I)V"⟩, 10) := ⟨⟨by decide +kernel, by decide +kernel⟩, List.mem_of_getElem? (i := 249) (by decide +kernel), List.mem_of_getElem? (i := 772) (by decide +kernel), List.mem_of_getElem? (i := 773) (by decide +kernel)⟩
theorem lw_p26 : lw_okq (⟨"DistrictCutter$Walker", "join", "(II)V"⟩, 10) := ⟨⟨by decide +kernel, by decide +kernel⟩, List.mem_of_getElem? (i := 249) (by decide +kernel), List.mem_of_getElem? (i := 778) (by decide +kernel), List.mem_of_getElem? (i := 779) (by decide +kernel)⟩
theorem lw_p27 : lw_okq (⟨"DistrictCutter$Walker", "findSeams", "(I)I"⟩, 10) := ⟨⟨by decide +kernel, by decide +kernel⟩, List.mem_of_getElem? (i := 249) (by decide +kernel), List.mem_of_getElem? (i := 782) (by decide +kernel), List.mem_of_getElem? (i := 783) (by decide +kernel)⟩
theorem lw_p28 : lw_okq (⟨"DistrictCutter$Walker", "partBefore", "(II)I"⟩, 10) := ⟨⟨by decide +kernel, by decide +kernel⟩, List.mem_of_getElem? (i := 249) (by decide +kernel), List.mem_of_getElem? (i := 787) (by decide +kernel), List.mem_of_getElem? (i := 788) (by decide +kernel)⟩
theorem lw_p29 : lw_okq (⟨"DistrictCutter$Improver", "moveOne", "(LDistrictCutter$Parting;)Z"⟩, 3) := ⟨⟨by decide +kernel, by decide +kernel⟩, List.mem_of_getElem? (i := 291) (by decide +kernel), List.mem_of_getElem? (i := 827) (by decide +kernel), List.mem_of_getElem? (i := 828) (by decide +kernel)⟩
theorem lw_p30 : lw_okq (⟨"DistrictCutter$Improver", "isShorter", "(LDistrictCutter$Parting;II)Z"⟩, 3) := ⟨⟨by decide +kernel, by decide +kernel⟩, List.mem_of_getElem? (i := 291) (by decide +kernel), List.mem_of_getElem? (i := 831) (by decide +kernel), List.mem_of_getElem? (i := 832) (by decide +kernel)⟩
theorem lw_p31 : lw_okq (⟨"DistrictCutter$Mender", "tryMoves", "(IIII)V"⟩, 7) := ⟨⟨by decide +kernel, by decide +kernel⟩, List.mem_of_getElem? (i := 307) (by decide +kernel), List.mem_of_getElem? (i := 851) (by decide +kernel), List.mem_of_getElem? (i := 852) (by decide +kernel)⟩
def lw_privs_2 : List (MethodName × Nat) := [(⟨"DistrictCutter$ClassBook", "fillShares", "(I)V"⟩, 16), (⟨"DistrictCutter$ClassBook", "visit", "(IIII)V"⟩, 16), (⟨"DistrictCutter$ClassBook", "note", "(I)V"⟩, 16), (⟨"DistrictCutter", "changeRefusal", "()I"⟩, 9), (⟨"DistrictCutter$Walker", "drawCrossing", "(LDistrictCutter$Parting;)I"⟩, 10), (⟨"DistrictCutter$Walker", "draw", "()I"⟩, 10), (⟨"DistrictCutter$Walker", "drawLeadingPart", "(I)I"⟩, 10), (⟨"DistrictCutter$Walker", "drawOrder", "(I)I"⟩, 10), (⟨"DistrictCutter$Walker", "insert", "(II)V"⟩, 10), (⟨"DistrictCutter$Walker", "growTree", "(I)V"⟩, 10), (⟨"DistrictCutter$Walker", "join", "(II)V"⟩, 10), (⟨"DistrictCutter$Walker", "findSeams", "(I)I"⟩, 10), (⟨"DistrictCutter$Walker", "partBefore", "(II)I"⟩, 10), (⟨"DistrictCutter$Improver", "moveOne", "(LDistrictCutter$Parting;)Z"⟩, 3), (⟨"DistrictCutter$Improver", "isShorter", "(LDistrictCutter$Parting;II)Z"⟩, 3), (⟨"DistrictCutter$Mender", "tryMoves", "(IIII)V"⟩, 7)]
theorem lw_r2 : ∀ q ∈ lw_privs_2, lw_okq q := List.forall_mem_cons.mpr ⟨lw_p16, List.forall_mem_cons.mpr ⟨lw_p17, List.forall_mem_cons.mpr ⟨lw_p18, List.forall_mem_cons.mpr ⟨lw_p19, List.forall_mem_cons.mpr ⟨lw_p20, List.forall_mem_cons.mpr ⟨lw_p21, List.forall_mem_cons.mpr ⟨lw_p22, List.forall_mem_cons.mpr ⟨lw_p23, List.forall_mem_cons.mpr ⟨lw_p24, List.forall_mem_cons.mpr ⟨lw_p25, List.forall_mem_cons.mpr ⟨lw_p26, List.forall_mem_cons.mpr ⟨lw_p27, List.forall_mem_cons.mpr ⟨lw_p28, List.forall_mem_cons.mpr ⟨lw_p29, List.forall_mem_cons.mpr ⟨lw_p30, List.forall_mem_cons.mpr ⟨lw_p31, fun _ h => absurd h List.not_mem_nil⟩⟩⟩⟩⟩⟩⟩⟩⟩⟩⟩⟩⟩⟩⟩⟩
theorem lw_p32 : lw_okq (⟨"DistrictCutter$Mender", "isBetter", "(II)Z"⟩, 7) := ⟨⟨by decide +kernel, by decide +kernel⟩, List.mem_of_getElem? (i := 307) (by decide +kernel), List.mem_of_getElem? (i := 855) (by decide +kernel), List.mem_of_getElem? (i := 856) (by decide +kernel)⟩
theorem lw_p33 : lw_okq (⟨"DistrictCutterModel", "isPlace", "(I)Z"⟩, 40) := ⟨⟨by decide +kernel, by decide +kernel⟩, List.mem_of_getElem? (i := 865) (by decide +kernel), List.mem_of_getElem? (i := 1003) (by decide +kernel), List.mem_of_getElem? (i := 1004) (by decide +kernel)⟩
theorem lw_p34 : lw_okq (⟨"DistrictCutterModel", "broken", "(Z)I"⟩, 40) := ⟨⟨by decide +kernel, by decide +kernel⟩, List.mem_of_getElem? (i := 865) (by decide +kernel), List.mem_of_getElem? (i := 1034) (by decide +kernel), List.mem_of_getElem? (i := 1035) (by decide +kernel)⟩
theorem lw_p35 : lw_okq (⟨"DistrictCutterModel", "bitsOf", "(I)I"⟩, 40) := ⟨⟨by decide +kernel, by decide +kernel⟩, List.mem_of_getElem? (i := 865) (by decide +kernel), List.mem_of_getElem? (i := 1038) (by decide +kernel), List.mem_of_getElem? (i := 1039) (by decide +kernel)⟩
theorem lw_p36 : lw_okq (⟨"DistrictCutterModel", "reached", "(I)I"⟩, 40) := ⟨⟨by decide +kernel, by decide +kernel⟩, List.mem_of_getElem? (i := 865) (by decide +kernel), List.mem_of_getElem? (i := 1042) (by decide +kernel), List.mem_of_getElem? (i := 1043) (by decide +kernel)⟩
theorem lw_p37 : lw_okq (⟨"DistrictCutterModel", "fits", "(I)Z"⟩, 40) := ⟨⟨by decide +kernel, by decide +kernel⟩, List.mem_of_getElem? (i := 865) (by decide +kernel), List.mem_of_getElem? (i := 1049) (by decide +kernel), List.mem_of_getElem? (i := 1050) (by decide +kernel)⟩
theorem lw_p38 : lw_okq (⟨"DistrictCutterModel", "peopleOf", "(I)I"⟩, 40) := ⟨⟨by decide +kernel, by decide +kernel⟩, List.mem_of_getElem? (i := 865) (by decide +kernel), List.mem_of_getElem? (i := 1053) (by decide +kernel), List.mem_of_getElem? (i := 1054) (by decide +kernel)⟩
theorem lw_p39 : lw_okq (⟨"DistrictCutterModel", "all", "()I"⟩, 40) := ⟨⟨by decide +kernel, by decide +kernel⟩, List.mem_of_getElem? (i := 865) (by decide +kernel), List.mem_of_getElem? (i := 1057) (by decide +kernel), List.mem_of_getElem? (i := 1058) (by decide +kernel)⟩
theorem lw_p40 : lw_okq (⟨"DistrictCutterModel", "isCut", "(I)Z"⟩, 40) := ⟨⟨by decide +kernel, by decide +kernel⟩, List.mem_of_getElem? (i := 865) (by decide +kernel), List.mem_of_getElem? (i := 1062) (by decide +kernel), List.mem_of_getElem? (i := 1063) (by decide +kernel)⟩
theorem lw_p41 : lw_okq (⟨"DistrictCutterModel", "value", "(I)I"⟩, 40) := ⟨⟨by decide +kernel, by decide +kernel⟩, List.mem_of_getElem? (i := 865) (by decide +kernel), List.mem_of_getElem? (i := 1082) (by decide +kernel), List.mem_of_getElem? (i := 1083) (by decide +kernel)⟩
theorem lw_p42 : lw_okq (⟨"DistrictCutterModel", "votesOf", "(II)I"⟩, 40) := ⟨⟨by decide +kernel, by decide +kernel⟩, List.mem_of_getElem? (i := 865) (by decide +kernel), List.mem_of_getElem? (i := 1087) (by decide +kernel), List.mem_of_getElem? (i := 1088) (by decide +kernel)⟩
theorem lw_p43 : lw_okq (⟨"DistrictCutterModel", "size", "()I"⟩, 40) := ⟨⟨by decide +kernel, by decide +kernel⟩, List.mem_of_getElem? (i := 865) (by decide +kernel), List.mem_of_getElem? (i := 1103) (by decide +kernel), List.mem_of_getElem? (i := 1104) (by decide +kernel)⟩
theorem lw_p44 : lw_okq (⟨"DistrictCutterModel", "goThrough", "(II)V"⟩, 40) := ⟨⟨by decide +kernel, by decide +kernel⟩, List.mem_of_getElem? (i := 865) (by decide +kernel), List.mem_of_getElem? (i := 1107) (by decide +kernel), List.mem_of_getElem? (i := 1108) (by decide +kernel)⟩
theorem lw_p45 : lw_okq (⟨"DistrictCutterModel", "part", "(II)V"⟩, 40) := ⟨⟨by decide +kernel, by decide +kernel⟩, List.mem_of_getElem? (i := 865) (by decide +kernel), List.mem_of_getElem? (i := 1111) (by decide +kernel), List.mem_of_getElem? (i := 1112) (by decide +kernel)⟩
theorem lw_p46 : lw_okq (⟨"DistrictCutterModel", "whole", "()V"⟩, 40) := ⟨⟨by decide +kernel, by decide +kernel⟩, List.mem_of_getElem? (i := 865) (by decide +kernel), List.mem_of_getElem? (i := 1115) (by decide +kernel), List.mem_of_getElem? (i := 1116) (by decide +kernel)⟩
theorem lw_p47 : lw_okq (⟨"DistrictCutterModel", "grow", "(IIII)V"⟩, 40) := ⟨⟨by decide +kernel, by decide +kernel⟩, List.mem_of_getElem? (i := 865) (by decide +kernel), List.mem_of_getElem? (i := 1119) (by decide +kernel), List.mem_of_getElem? (i := 1120) (by decide +kernel)⟩
def lw_privs_3 : List (MethodName × Nat) := [(⟨"DistrictCutter$Mender", "isBetter", "(II)Z"⟩, 7), (⟨"DistrictCutterModel", "isPlace", "(I)Z"⟩, 40), (⟨"DistrictCutterModel", "broken", "(Z)I"⟩, 40), (⟨"DistrictCutterModel", "bitsOf", "(I)I"⟩, 40), (⟨"DistrictCutterModel", "reached", "(I)I"⟩, 40), (⟨"DistrictCutterModel", "fits", "(I)Z"⟩, 40), (⟨"DistrictCutterModel", "peopleOf", "(I)I"⟩, 40), (⟨"DistrictCutterModel", "all", "()I"⟩, 40), (⟨"DistrictCutterModel", "isCut", "(I)Z"⟩, 40), (⟨"DistrictCutterModel", "value", "(I)I"⟩, 40), (⟨"DistrictCutterModel", "votesOf", "(II)I"⟩, 40), (⟨"DistrictCutterModel", "size", "()I"⟩, 40), (⟨"DistrictCutterModel", "goThrough", "(II)V"⟩, 40), (⟨"DistrictCutterModel", "part", "(II)V"⟩, 40), (⟨"DistrictCutterModel", "whole", "()V"⟩, 40), (⟨"DistrictCutterModel", "grow", "(IIII)V"⟩, 40)]
theorem lw_r3 : ∀ q ∈ lw_privs_3, lw_okq q := List.forall_mem_cons.mpr ⟨lw_p32, List.forall_mem_cons.mpr ⟨lw_p33, List.forall_mem_cons.mpr ⟨lw_p34, List.forall_mem_cons.mpr ⟨lw_p35, List.forall_mem_cons.mpr ⟨lw_p36, List.forall_mem_cons.mpr ⟨lw_p37, List.forall_mem_cons.mpr ⟨lw_p38, List.forall_mem_cons.mpr ⟨lw_p39, List.forall_mem_cons.mpr ⟨lw_p40, List.forall_mem_cons.mpr ⟨lw_p41, List.forall_mem_cons.mpr ⟨lw_p42, List.forall_mem_cons.mpr ⟨lw_p43, List.forall_mem_cons.mpr ⟨lw_p44, List.forall_mem_cons.mpr ⟨lw_p45, List.forall_mem_cons.mpr ⟨lw_p46, List.forall_mem_cons.mpr ⟨lw_p47, fun _ h => absurd h List.not_mem_nil⟩⟩⟩⟩⟩⟩⟩⟩⟩⟩⟩⟩⟩⟩⟩⟩
theorem lw_p48 : lw_okq (⟨"DistrictCutterModel", "isClass", "(I)Z"⟩, 40) := ⟨⟨by decide +kernel, by decide +kernel⟩, List.mem_of_getElem? (i := 865) (by decide +kernel), List.mem_of_getElem? (i := 1127) (by decide +kernel), List.mem_of_getElem? (i := 1128) (by decide +kernel)⟩
theorem lw_p49 : lw_okq (⟨"DistrictCutterModel", "stepOn", "()Z"⟩, 40) := ⟨⟨by decide +kernel, by decide +kernel⟩, List.mem_of_getElem? (i := 865) (by decide +kernel), List.mem_of_getElem? (i := 1152) (by decide +kernel), List.mem_of_getElem? (i := 1153) (by decide +kernel)⟩
theorem lw_p50 : lw_okq (⟨"DistrictCutterModel", "between", "(I)I"⟩, 40) := ⟨⟨by decide +kernel, by decide +kernel⟩, List.mem_of_getElem? (i := 865) (by decide +kernel), List.mem_of_getElem? (i := 1156) (by decide +kernel), List.mem_of_getElem? (i := 1157) (by decide +kernel)⟩
theorem lw_p51 : lw_okq (⟨"DistrictCutterModel", "draw", "()I"⟩, 40) := ⟨⟨by decide +kernel, by decide +kernel⟩, List.mem_of_getElem? (i := 865) (by decide +kernel), List.mem_of_getElem? (i := 1160) (by decide +kernel), List.mem_of_getElem? (i := 1161) (by decide +kernel)⟩
theorem lw_p52 : lw_okq (⟨"DistrictCutterModel", "plant", "(I)I"⟩, 40) := ⟨⟨by decide +kernel, by decide +kernel⟩, List.mem_of_getElem? (i := 865) (by decide +kernel), List.mem_of_getElem? (i := 1165) (by decide +kernel), List.mem_of_getElem? (i := 1166) (by decide +kernel)⟩
theorem lw_p53 : lw_okq (⟨"DistrictCutterModel", "sideOf", "(III)I"⟩, 40) := ⟨⟨by decide +kernel, by decide +kernel⟩, List.mem_of_getElem? (i := 865) (by decide +kernel), List.mem_of_getElem? (i := 1169) (by decide +kernel), List.mem_of_getElem? (i := 1170) (by decide +kernel)⟩
theorem lw_p54 : lw_okq (⟨"DistrictCutterModel", "betters", "()Z"⟩, 40) := ⟨⟨by decide +kernel, by decide +kernel⟩, List.mem_of_getElem? (i := 865) (by decide +kernel), List.mem_of_getElem? (i := 1185) (by decide +kernel), List.mem_of_getElem? (i := 1186) (by decide +kernel)⟩
theorem lw_p55 : lw_okq (⟨"DistrictCutterModel", "move", "(IIII)V"⟩, 40) := ⟨⟨by decide +kernel, by decide +kernel⟩, List.mem_of_getElem? (i := 865) (by decide +kernel), List.mem_of_getElem? (i := 1193) (by decide +kernel), List.mem_of_getElem? (i := 1194) (by decide +kernel)⟩
theorem lw_p56 : lw_okq (⟨"DistrictCutterModel", "offer", "(II)V"⟩, 40) := ⟨⟨by decide +kernel, by decide +kernel⟩, List.mem_of_getElem? (i := 865) (by decide +kernel), List.mem_of_getElem? (i := 1197) (by decide +kernel), List.mem_of_getElem? (i := 1198) (by decide +kernel)⟩
def lw_privs_4 : List (MethodName × Nat) := [(⟨"DistrictCutterModel", "isClass", "(I)Z"⟩, 40), (⟨"DistrictCutterModel", "stepOn", "()Z"⟩, 40), (⟨"DistrictCutterModel", "between", "(I)I"⟩, 40), (⟨"DistrictCutterModel", "draw", "()I"⟩, 40), (⟨"DistrictCutterModel", "plant", "(I)I"⟩, 40), (⟨"DistrictCutterModel", "sideOf", "(III)I"⟩, 40), (⟨"DistrictCutterModel", "betters", "()Z"⟩, 40), (⟨"DistrictCutterModel", "move", "(IIII)V"⟩, 40), (⟨"DistrictCutterModel", "offer", "(II)V"⟩, 40)]
theorem lw_r4 : ∀ q ∈ lw_privs_4, lw_okq q := List.forall_mem_cons.mpr ⟨lw_p48, List.forall_mem_cons.mpr ⟨lw_p49, List.forall_mem_cons.mpr ⟨lw_p50, List.forall_mem_cons.mpr ⟨lw_p51, List.forall_mem_cons.mpr ⟨lw_p52, List.forall_mem_cons.mpr ⟨lw_p53, List.forall_mem_cons.mpr ⟨lw_p54, List.forall_mem_cons.mpr ⟨lw_p55, List.forall_mem_cons.mpr ⟨lw_p56, fun _ h => absurd h List.not_mem_nil⟩⟩⟩⟩⟩⟩⟩⟩⟩
def lw_privs : List (MethodName × Nat) := lw_privs_1 ++ (lw_privs_2 ++ (lw_privs_3 ++ (lw_privs_4)))
def lw_tbl : List Cond := k2_sels lw_privs ++ tables_1
theorem lw_privs_ok : ∀ q ∈ lw_privs, lw_okq q := by
  show ∀ q ∈ lw_privs_1 ++ (lw_privs_2 ++ (lw_privs_3 ++ (lw_privs_4))), lw_okq q
  exact List.forall_mem_append.mpr ⟨lw_r1, List.forall_mem_append.mpr ⟨lw_r2, List.forall_mem_append.mpr ⟨lw_r3, lw_r4⟩⟩⟩
end
section
/-- a method: its name, its code, its locals, what it returns -/
abbrev Mt : Type := MethodName × ByteArray × Nat × Option FieldType
def R_ClassBook : String := "DistrictCutter$ClassBook"
def T_ClassBook : u_T := fun k => match k with
  | 0 => ("DistrictCutter$ClassBook", "lowest", "I", false)
  | 1 => ("DistrictCutter$ClassBook", "tally", "[I", true)
  | 2 => ("DistrictCutter$ClassBook", "land", "LDistrictCutter$Land;", true)
  | 3 => ("DistrictCutter$ClassBook", "law", "LDistrictCutter$Law;", true)
  | 4 => ("DistrictCutter$ClassBook", "court", "LDistrictCutter$Court;", true)
  | 5 => ("DistrictCutter$ClassBook", "scale", "LDistrictCutter$Scale;", true)
  | 6 => ("DistrictCutter$ClassBook", "chosen", "[I", true)
  | 7 => ("DistrictCutter$ClassBook", "prices", "[I", false)
  | 8 => ("DistrictCutter$ClassBook", "shares", "[I", false)
  | 9 => ("DistrictCutter$ClassBook", "told", "[I", false)
  | 10 => ("DistrictCutter$ClassBook", "isFresh", "Z", false)
  | 11 => ("DistrictCutter$ClassBook", "everywhere", "I", false)
  | 12 => ("DistrictCutter$ClassBook", "shift", "I", false)
  | 13 => ("DistrictCutter$ClassBook", "half", "I", false)
  | 14 => ("DistrictCutter$ClassBook", "budget", "I", false)
  | _ => ("DistrictCutter$ClassBook", "mark", "I", false)
def ty_ClassBook : Nat → FieldType := fun k => match k with
  | 0 => .int
  | 1 => .array .int
  | 2 => .object "DistrictCutter$Land"
  | 3 => .object "DistrictCutter$Law"
  | 4 => .object "DistrictCutter$Court"
  | 5 => .object "DistrictCutter$Scale"
  | 6 => .array .int
  | 7 => .array .int
  | 8 => .array .int
  | 9 => .array .int
  | 10 => .boolean
  | 11 => .int
  | 12 => .int
  | 13 => .int
  | 14 => .int
  | _ => .int
theorem nm_ClassBook : ∀ a, a < 16 → ∀ b, b < 16 → a ≠ b → (T_ClassBook a).2.1 ≠ (T_ClassBook b).2.1 := by decide +kernel
theorem tyok_ClassBook : ∀ k, k < 16 → parseFieldDescriptor (T_ClassBook k).2.2.1 = some (ty_ClassBook k) := by decide +kernel
abbrev c_ClassBook_init : ByteArray := prog_2_method_1_code
def y_ClassBook_init : MethodName := ⟨R_ClassBook, "<init>", "(LDistrictCutter$Land;LDistrictCutter$Law;LDistrictCutter$Court;LDistrictCutter$Scale;)V"⟩
abbrev c_ClassBook_forget : ByteArray := prog_2_method_2_code
def y_ClassBook_forget : MethodName := ⟨R_ClassBook, "forget", "()V"⟩
abbrev c_ClassBook_prepare : ByteArray := prog_2_method_3_code
def y_ClassBook_prepare : MethodName := ⟨R_ClassBook, "prepare", "()V"⟩
abbrev c_ClassBook_total : ByteArray := prog_2_method_4_code
def y_ClassBook_total : MethodName := ⟨R_ClassBook, "total", "()I"⟩
abbrev c_ClassBook_hasNumber : ByteArray := prog_2_method_5_code
def y_ClassBook_hasNumber : MethodName := ⟨R_ClassBook, "hasNumber", "(I)Z"⟩
abbrev c_ClassBook_rank : ByteArray := prog_2_method_6_code
def y_ClassBook_rank : MethodName := ⟨R_ClassBook, "rank", "(LDistrictCutter$Parting;)I"⟩
abbrev c_ClassBook_lay : ByteArray := prog_2_method_7_code
def y_ClassBook_lay : MethodName := ⟨R_ClassBook, "lay", "(ILDistrictCutter$Parting;)V"⟩
abbrev c_ClassBook_survey : ByteArray := prog_2_method_8_code
def y_ClassBook_survey : MethodName := ⟨R_ClassBook, "survey", "(II)V"⟩
abbrev c_ClassBook_severalPlaceTowns : ByteArray := prog_2_method_9_code
def y_ClassBook_severalPlaceTowns : MethodName := ⟨R_ClassBook, "severalPlaceTowns", "()I"⟩
abbrev c_ClassBook_fillPrices : ByteArray := prog_2_method_10_code
def y_ClassBook_fillPrices : MethodName := ⟨R_ClassBook, "fillPrices", "(Z)V"⟩
abbrev c_ClassBook_fillShares : ByteArray := prog_2_method_11_code
def y_ClassBook_fillShares : MethodName := ⟨R_ClassBook, "fillShares", "(I)V"⟩
abbrev c_ClassBook_atLeast : ByteArray := prog_2_method_12_code
def y_ClassBook_atLeast : MethodName := ⟨R_ClassBook, "atLeast", "([II)[I"⟩
abbrev c_ClassBook_ways : ByteArray := prog_2_method_13_code
def y_ClassBook_ways : MethodName := ⟨R_ClassBook, "ways", "(III)I"⟩
abbrev c_ClassBook_slotOf : ByteArray := prog_2_method_14_code
def y_ClassBook_slotOf : MethodName := ⟨R_ClassBook, "slotOf", "(III)I"⟩
abbrev c_ClassBook_waysAhead : ByteArray := prog_2_method_15_code
def y_ClassBook_waysAhead : MethodName := ⟨R_ClassBook, "waysAhead", "(IIII)I"⟩
abbrev c_ClassBook_waysWith : ByteArray := prog_2_method_16_code
def y_ClassBook_waysWith : MethodName := ⟨R_ClassBook, "waysWith", "(IIII)I"⟩
abbrev c_ClassBook_choicesOf : ByteArray := prog_2_method_17_code
def y_ClassBook_choicesOf : MethodName := ⟨R_ClassBook, "choicesOf", "(I)I"⟩
abbrev c_ClassBook_following : ByteArray := prog_2_method_18_code
def y_ClassBook_following : MethodName := ⟨R_ClassBook, "following", "(II)I"⟩
abbrev c_ClassBook_choose : ByteArray := prog_2_method_19_code
def y_ClassBook_choose : MethodName := ⟨R_ClassBook, "choose", "(I)V"⟩
abbrev c_ClassBook_visit : ByteArray := prog_2_method_20_code
def y_ClassBook_visit : MethodName := ⟨R_ClassBook, "visit", "(IIII)V"⟩
abbrev c_ClassBook_note : ByteArray := prog_2_method_21_code
def y_ClassBook_note : MethodName := ⟨R_ClassBook, "note", "(I)V"⟩
def R_Court : String := "DistrictCutter$Court"
def T_Court : u_T := fun k => match k with
  | 0 => ("DistrictCutter$Court", "land", "LDistrictCutter$Land;", true)
  | _ => ("DistrictCutter$Court", "law", "LDistrictCutter$Law;", true)
def ty_Court : Nat → FieldType := fun k => match k with
  | 0 => .object "DistrictCutter$Land"
  | _ => .object "DistrictCutter$Law"
theorem nm_Court : ∀ a, a < 2 → ∀ b, b < 2 → a ≠ b → (T_Court a).2.1 ≠ (T_Court b).2.1 := by decide +kernel
theorem tyok_Court : ∀ k, k < 2 → parseFieldDescriptor (T_Court k).2.2.1 = some (ty_Court k) := by decide +kernel
abbrev c_Court_init : ByteArray := prog_3_method_1_code
def y_Court_init : MethodName := ⟨R_Court, "<init>", "(LDistrictCutter$Land;LDistrictCutter$Law;)V"⟩
abbrev c_Court_brokenLaw : ByteArray := prog_3_method_2_code
def y_Court_brokenLaw : MethodName := ⟨R_Court, "brokenLaw", "(LDistrictCutter$Parting;)I"⟩
abbrev c_Court_culprit : ByteArray := prog_3_method_3_code
def y_Court_culprit : MethodName := ⟨R_Court, "culprit", "(ILDistrictCutter$Parting;)I"⟩
abbrev c_Court_looseEnd : ByteArray := prog_3_method_4_code
def y_Court_looseEnd : MethodName := ⟨R_Court, "looseEnd", "(II)I"⟩
abbrev c_Court_allows : ByteArray := prog_3_method_5_code
def y_Court_allows : MethodName := ⟨R_Court, "allows", "(LDistrictCutter$Parting;)Z"⟩
abbrev c_Court_mayBeDistrict : ByteArray := prog_3_method_6_code
def y_Court_mayBeDistrict : MethodName := ⟨R_Court, "mayBeDistrict", "(I)Z"⟩
abbrev c_Court_hangs : ByteArray := prog_3_method_7_code
def y_Court_hangs : MethodName := ⟨R_Court, "hangs", "(I)Z"⟩
abbrev c_Court_fits : ByteArray := prog_3_method_8_code
def y_Court_fits : MethodName := ⟨R_Court, "fits", "(I)Z"⟩
abbrev c_Court_leavesKeptWhole : ByteArray := prog_3_method_9_code
def y_Court_leavesKeptWhole : MethodName := ⟨R_Court, "leavesKeptWhole", "(I)Z"⟩
abbrev c_Court_badDistrict : ByteArray := prog_3_method_10_code
def y_Court_badDistrict : MethodName := ⟨R_Court, "badDistrict", "(ILDistrictCutter$Parting;)I"⟩
abbrev c_Court_isBad : ByteArray := prog_3_method_11_code
def y_Court_isBad : MethodName := ⟨R_Court, "isBad", "(II)Z"⟩
abbrev c_Court_cutKeptTown : ByteArray := prog_3_method_12_code
def y_Court_cutKeptTown : MethodName := ⟨R_Court, "cutKeptTown", "(LDistrictCutter$Parting;)I"⟩
abbrev c_Court_strayPlace : ByteArray := prog_3_method_13_code
def y_Court_strayPlace : MethodName := ⟨R_Court, "strayPlace", "(LDistrictCutter$Parting;)I"⟩
abbrev c_Court_townTooMany : ByteArray := prog_3_method_14_code
def y_Court_townTooMany : MethodName := ⟨R_Court, "townTooMany", "(LDistrictCutter$Parting;)I"⟩
abbrev c_Court_isCut : ByteArray := prog_3_method_15_code
def y_Court_isCut : MethodName := ⟨R_Court, "isCut", "(ILDistrictCutter$Parting;)Z"⟩
def R_Improver : String := "DistrictCutter$Improver"
def T_Improver : u_T := fun k => match k with
  | 0 => ("DistrictCutter$Improver", "land", "LDistrictCutter$Land;", true)
  | 1 => ("DistrictCutter$Improver", "law", "LDistrictCutter$Law;", true)
  | _ => ("DistrictCutter$Improver", "court", "LDistrictCutter$Court;", true)
def ty_Improver : Nat → FieldType := fun k => match k with
  | 0 => .object "DistrictCutter$Land"
  | 1 => .object "DistrictCutter$Law"
  | _ => .object "DistrictCutter$Court"
theorem nm_Improver : ∀ a, a < 3 → ∀ b, b < 3 → a ≠ b → (T_Improver a).2.1 ≠ (T_Improver b).2.1 := by decide +kernel
theorem tyok_Improver : ∀ k, k < 3 → parseFieldDescriptor (T_Improver k).2.2.1 = some (ty_Improver k) := by decide +kernel
abbrev c_Improver_init : ByteArray := prog_4_method_1_code
def y_Improver_init : MethodName := ⟨R_Improver, "<init>", "(LDistrictCutter$Land;LDistrictCutter$Law;LDistrictCutter$Court;)V"⟩
abbrev c_Improver_improve : ByteArray := prog_4_method_2_code
def y_Improver_improve : MethodName := ⟨R_Improver, "improve", "(LDistrictCutter$Parting;)I"⟩
abbrev c_Improver_moveOne : ByteArray := prog_4_method_3_code
def y_Improver_moveOne : MethodName := ⟨R_Improver, "moveOne", "(LDistrictCutter$Parting;)Z"⟩
abbrev c_Improver_isShorter : ByteArray := prog_4_method_4_code
def y_Improver_isShorter : MethodName := ⟨R_Improver, "isShorter", "(LDistrictCutter$Parting;II)Z"⟩
def R_Land : String := "DistrictCutter$Land"
def T_Land : u_T := fun k => match k with
  | 0 => ("DistrictCutter$Land", "places", "I", false)
  | 1 => ("DistrictCutter$Land", "borders", "I", false)
  | 2 => ("DistrictCutter$Land", "everyone", "I", false)
  | 3 => ("DistrictCutter$Land", "people", "[I", true)
  | 4 => ("DistrictCutter$Land", "zero", "[I", true)
  | 5 => ("DistrictCutter$Land", "one", "[I", true)
  | 6 => ("DistrictCutter$Land", "area", "[I", true)
  | 7 => ("DistrictCutter$Land", "next", "[I", true)
  | 8 => ("DistrictCutter$Land", "towns", "[I", true)
  | 9 => ("DistrictCutter$Land", "from", "[I", true)
  | 10 => ("DistrictCutter$Land", "to", "[I", true)
  | _ => ("DistrictCutter$Land", "length", "[I", true)
def ty_Land : Nat → FieldType := fun k => match k with
  | 0 => .int
  | 1 => .int
  | 2 => .int
  | 3 => .array .int
  | 4 => .array .int
  | 5 => .array .int
  | 6 => .array .int
  | 7 => .array .int
  | 8 => .array .int
  | 9 => .array .int
  | 10 => .array .int
  | _ => .array .int
theorem nm_Land : ∀ a, a < 12 → ∀ b, b < 12 → a ≠ b → (T_Land a).2.1 ≠ (T_Land b).2.1 := by decide +kernel
theorem tyok_Land : ∀ k, k < 12 → parseFieldDescriptor (T_Land k).2.2.1 = some (ty_Land k) := by decide +kernel
abbrev c_Land_init : ByteArray := prog_5_method_1_code
def y_Land_init : MethodName := ⟨R_Land, "<init>", "()V"⟩
abbrev c_Land_hasPlace : ByteArray := prog_5_method_2_code
def y_Land_hasPlace : MethodName := ⟨R_Land, "hasPlace", "(I)Z"⟩
abbrev c_Land_addPlace : ByteArray := prog_5_method_3_code
def y_Land_addPlace : MethodName := ⟨R_Land, "addPlace", "(IIIII)I"⟩
abbrev c_Land_addBorder : ByteArray := prog_5_method_4_code
def y_Land_addBorder : MethodName := ⟨R_Land, "addBorder", "(III)I"⟩
abbrev c_Land_changePeople : ByteArray := prog_5_method_5_code
def y_Land_changePeople : MethodName := ⟨R_Land, "changePeople", "(II)I"⟩
abbrev c_Land_everywhere : ByteArray := prog_5_method_6_code
def y_Land_everywhere : MethodName := ⟨R_Land, "everywhere", "()I"⟩
abbrev c_Land_isInside : ByteArray := prog_5_method_7_code
def y_Land_isInside : MethodName := ⟨R_Land, "isInside", "(II)Z"⟩
abbrev c_Land_outline : ByteArray := prog_5_method_8_code
def y_Land_outline : MethodName := ⟨R_Land, "outline", "(I)I"⟩
abbrev c_Land_outgoing : ByteArray := prog_5_method_9_code
def y_Land_outgoing : MethodName := ⟨R_Land, "outgoing", "(I)I"⟩
abbrev c_Land_contact : ByteArray := prog_5_method_10_code
def y_Land_contact : MethodName := ⟨R_Land, "contact", "(II)I"⟩
def R_Law : String := "DistrictCutter$Law"
def T_Law : u_T := fun k => match k with
  | 0 => ("DistrictCutter$Law", "k", "I", false)
  | 1 => ("DistrictCutter$Law", "tolerance", "I", false)
  | 2 => ("DistrictCutter$Law", "cutsAllowed", "I", false)
  | 3 => ("DistrictCutter$Law", "kept", "[Z", true)
  | _ => ("DistrictCutter$Law", "fixed", "[I", true)
def ty_Law : Nat → FieldType := fun k => match k with
  | 0 => .int
  | 1 => .int
  | 2 => .int
  | 3 => .array .boolean
  | _ => .array .int
theorem nm_Law : ∀ a, a < 5 → ∀ b, b < 5 → a ≠ b → (T_Law a).2.1 ≠ (T_Law b).2.1 := by decide +kernel
theorem tyok_Law : ∀ k, k < 5 → parseFieldDescriptor (T_Law k).2.2.1 = some (ty_Law k) := by decide +kernel
abbrev c_Law_init : ByteArray := prog_6_method_1_code
def y_Law_init : MethodName := ⟨R_Law, "<init>", "()V"⟩
abbrev c_Law_hasDistrict : ByteArray := prog_6_method_2_code
def y_Law_hasDistrict : MethodName := ⟨R_Law, "hasDistrict", "(I)Z"⟩
abbrev c_Law_fixNothing : ByteArray := prog_6_method_3_code
def y_Law_fixNothing : MethodName := ⟨R_Law, "fixNothing", "()V"⟩
abbrev c_Law_fixedPlaces : ByteArray := prog_6_method_4_code
def y_Law_fixedPlaces : MethodName := ⟨R_Law, "fixedPlaces", "()I"⟩
def R_Mender : String := "DistrictCutter$Mender"
def T_Mender : u_T := fun k => match k with
  | 0 => ("DistrictCutter$Mender", "land", "LDistrictCutter$Land;", true)
  | 1 => ("DistrictCutter$Mender", "law", "LDistrictCutter$Law;", true)
  | 2 => ("DistrictCutter$Mender", "court", "LDistrictCutter$Court;", true)
  | 3 => ("DistrictCutter$Mender", "trial", "LDistrictCutter$Parting;", true)
  | 4 => ("DistrictCutter$Mender", "best", "LDistrictCutter$Parting;", true)
  | 5 => ("DistrictCutter$Mender", "fewest", "I", false)
  | _ => ("DistrictCutter$Mender", "bestMoves", "I", false)
def ty_Mender : Nat → FieldType := fun k => match k with
  | 0 => .object "DistrictCutter$Land"
  | 1 => .object "DistrictCutter$Law"
  | 2 => .object "DistrictCutter$Court"
  | 3 => .object "DistrictCutter$Parting"
  | 4 => .object "DistrictCutter$Parting"
  | 5 => .int
  | _ => .int
theorem nm_Mender : ∀ a, a < 7 → ∀ b, b < 7 → a ≠ b → (T_Mender a).2.1 ≠ (T_Mender b).2.1 := by decide +kernel
theorem tyok_Mender : ∀ k, k < 7 → parseFieldDescriptor (T_Mender k).2.2.1 = some (ty_Mender k) := by decide +kernel
abbrev c_Mender_init : ByteArray := prog_7_method_1_code
def y_Mender_init : MethodName := ⟨R_Mender, "<init>", "(LDistrictCutter$Land;LDistrictCutter$Law;LDistrictCutter$Court;)V"⟩
abbrev c_Mender_repair : ByteArray := prog_7_method_2_code
def y_Mender_repair : MethodName := ⟨R_Mender, "repair", "(LDistrictCutter$Parting;I)I"⟩
abbrev c_Mender_tryMoves : ByteArray := prog_7_method_3_code
def y_Mender_tryMoves : MethodName := ⟨R_Mender, "tryMoves", "(IIII)V"⟩
abbrev c_Mender_isBetter : ByteArray := prog_7_method_4_code
def y_Mender_isBetter : MethodName := ⟨R_Mender, "isBetter", "(II)Z"⟩
def R_Parting : String := "DistrictCutter$Parting"
def T_Parting : u_T := fun k => match k with
  | 0 => ("DistrictCutter$Parting", "where", "[I", true)
  | _ => ("DistrictCutter$Parting", "sets", "[I", true)
def ty_Parting : Nat → FieldType := fun k => match k with
  | 0 => .array .int
  | _ => .array .int
theorem nm_Parting : ∀ a, a < 2 → ∀ b, b < 2 → a ≠ b → (T_Parting a).2.1 ≠ (T_Parting b).2.1 := by decide +kernel
theorem tyok_Parting : ∀ k, k < 2 → parseFieldDescriptor (T_Parting k).2.2.1 = some (ty_Parting k) := by decide +kernel
abbrev c_Parting_init : ByteArray := prog_8_method_1_code
def y_Parting_init : MethodName := ⟨R_Parting, "<init>", "()V"⟩
abbrev c_Parting_move : ByteArray := prog_8_method_2_code
def y_Parting_move : MethodName := ⟨R_Parting, "move", "(II)V"⟩
abbrev c_Parting_gather : ByteArray := prog_8_method_3_code
def y_Parting_gather : MethodName := ⟨R_Parting, "gather", "(I)V"⟩
abbrev c_Parting_deal : ByteArray := prog_8_method_4_code
def y_Parting_deal : MethodName := ⟨R_Parting, "deal", "(II)V"⟩
abbrev c_Parting_become : ByteArray := prog_8_method_5_code
def y_Parting_become : MethodName := ⟨R_Parting, "become", "(LDistrictCutter$Parting;)V"⟩
abbrev c_Parting_comesAhead : ByteArray := prog_8_method_6_code
def y_Parting_comesAhead : MethodName := ⟨R_Parting, "comesAhead", "(LDistrictCutter$Parting;)Z"⟩
def R_Scale : String := "DistrictCutter$Scale"
def T_Scale : u_T := fun k => match k with
  | 0 => ("DistrictCutter$Scale", "shares", "[I", true)
  | 1 => ("DistrictCutter$Scale", "land", "LDistrictCutter$Land;", true)
  | _ => ("DistrictCutter$Scale", "law", "LDistrictCutter$Law;", true)
def ty_Scale : Nat → FieldType := fun k => match k with
  | 0 => .array .int
  | 1 => .object "DistrictCutter$Land"
  | _ => .object "DistrictCutter$Law"
theorem nm_Scale : ∀ a, a < 3 → ∀ b, b < 3 → a ≠ b → (T_Scale a).2.1 ≠ (T_Scale b).2.1 := by decide +kernel
theorem tyok_Scale : ∀ k, k < 3 → parseFieldDescriptor (T_Scale k).2.2.1 = some (ty_Scale k) := by decide +kernel
abbrev c_Scale_init : ByteArray := prog_9_method_1_code
def y_Scale_init : MethodName := ⟨R_Scale, "<init>", "(LDistrictCutter$Land;LDistrictCutter$Law;)V"⟩
abbrev c_Scale_weigh : ByteArray := prog_9_method_2_code
def y_Scale_weigh : MethodName := ⟨R_Scale, "weigh", "(LDistrictCutter$Parting;I)I"⟩
abbrev c_Scale_together : ByteArray := prog_9_method_3_code
def y_Scale_together : MethodName := ⟨R_Scale, "together", "(I)I"⟩
abbrev c_Scale_shareOf : ByteArray := prog_9_method_4_code
def y_Scale_shareOf : MethodName := ⟨R_Scale, "shareOf", "(II)I"⟩
abbrev c_Scale_voteShare : ByteArray := prog_9_method_5_code
def y_Scale_voteShare : MethodName := ⟨R_Scale, "voteShare", "(II)I"⟩
abbrev c_Scale_cutTowns : ByteArray := prog_9_method_6_code
def y_Scale_cutTowns : MethodName := ⟨R_Scale, "cutTowns", "(I)I"⟩
abbrev c_Scale_wasted : ByteArray := prog_9_method_7_code
def y_Scale_wasted : MethodName := ⟨R_Scale, "wasted", "(II)I"⟩
def R_Sets : String := "DistrictCutter$Sets"
def T_Sets : u_T := fun k => match k with
  | _ => ("", "", "", false)
def ty_Sets : Nat → FieldType := fun k => match k with
  | _ => .int
theorem nm_Sets : ∀ a, a < 0 → ∀ b, b < 0 → a ≠ b → (T_Sets a).2.1 ≠ (T_Sets b).2.1 := by decide +kernel
theorem tyok_Sets : ∀ k, k < 0 → parseFieldDescriptor (T_Sets k).2.2.1 = some (ty_Sets k) := by decide +kernel
abbrev c_Sets_only : ByteArray := prog_10_method_2_code
def y_Sets_only : MethodName := ⟨R_Sets, "only", "(I)I"⟩
abbrev c_Sets_has : ByteArray := prog_10_method_3_code
def y_Sets_has : MethodName := ⟨R_Sets, "has", "(II)Z"⟩
abbrev c_Sets_first : ByteArray := prog_10_method_4_code
def y_Sets_first : MethodName := ⟨R_Sets, "first", "(I)I"⟩
abbrev c_Sets_last : ByteArray := prog_10_method_5_code
def y_Sets_last : MethodName := ⟨R_Sets, "last", "(I)I"⟩
abbrev c_Sets_sum : ByteArray := prog_10_method_6_code
def y_Sets_sum : MethodName := ⟨R_Sets, "sum", "([II)I"⟩
abbrev c_Sets_spread : ByteArray := prog_10_method_7_code
def y_Sets_spread : MethodName := ⟨R_Sets, "spread", "([III)I"⟩
def R_Walker : String := "DistrictCutter$Walker"
def T_Walker : u_T := fun k => match k with
  | 0 => ("DistrictCutter$Walker", "seed", "I", false)
  | 1 => ("DistrictCutter$Walker", "hasWalked", "Z", false)
  | 2 => ("DistrictCutter$Walker", "sights", "[I", true)
  | 3 => ("DistrictCutter$Walker", "land", "LDistrictCutter$Land;", true)
  | 4 => ("DistrictCutter$Walker", "court", "LDistrictCutter$Court;", true)
  | 5 => ("DistrictCutter$Walker", "scale", "LDistrictCutter$Scale;", true)
  | 6 => ("DistrictCutter$Walker", "trial", "LDistrictCutter$Parting;", true)
  | 7 => ("DistrictCutter$Walker", "tree", "[I", true)
  | 8 => ("DistrictCutter$Walker", "clumps", "[I", true)
  | _ => ("DistrictCutter$Walker", "row", "[I", true)
def ty_Walker : Nat → FieldType := fun k => match k with
  | 0 => .int
  | 1 => .boolean
  | 2 => .array .int
  | 3 => .object "DistrictCutter$Land"
  | 4 => .object "DistrictCutter$Court"
  | 5 => .object "DistrictCutter$Scale"
  | 6 => .object "DistrictCutter$Parting"
  | 7 => .array .int
  | 8 => .array .int
  | _ => .array .int
theorem nm_Walker : ∀ a, a < 10 → ∀ b, b < 10 → a ≠ b → (T_Walker a).2.1 ≠ (T_Walker b).2.1 := by decide +kernel
theorem tyok_Walker : ∀ k, k < 10 → parseFieldDescriptor (T_Walker k).2.2.1 = some (ty_Walker k) := by decide +kernel
abbrev c_Walker_init : ByteArray := prog_11_method_1_code
def y_Walker_init : MethodName := ⟨R_Walker, "<init>", "(LDistrictCutter$Land;LDistrictCutter$Court;LDistrictCutter$Scale;)V"⟩
abbrev c_Walker_roam : ByteArray := prog_11_method_2_code
def y_Walker_roam : MethodName := ⟨R_Walker, "roam", "(LDistrictCutter$Parting;II)V"⟩
abbrev c_Walker_takeStep : ByteArray := prog_11_method_3_code
def y_Walker_takeStep : MethodName := ⟨R_Walker, "takeStep", "(LDistrictCutter$Parting;)Z"⟩
abbrev c_Walker_drawLeadingPart : ByteArray := prog_11_method_4_code
def y_Walker_drawLeadingPart : MethodName := ⟨R_Walker, "drawLeadingPart", "(I)I"⟩
abbrev c_Walker_draw : ByteArray := prog_11_method_5_code
def y_Walker_draw : MethodName := ⟨R_Walker, "draw", "()I"⟩
abbrev c_Walker_drawCrossing : ByteArray := prog_11_method_6_code
def y_Walker_drawCrossing : MethodName := ⟨R_Walker, "drawCrossing", "(LDistrictCutter$Parting;)I"⟩
abbrev c_Walker_drawOrder : ByteArray := prog_11_method_7_code
def y_Walker_drawOrder : MethodName := ⟨R_Walker, "drawOrder", "(I)I"⟩
abbrev c_Walker_insert : ByteArray := prog_11_method_8_code
def y_Walker_insert : MethodName := ⟨R_Walker, "insert", "(II)V"⟩
abbrev c_Walker_growTree : ByteArray := prog_11_method_9_code
def y_Walker_growTree : MethodName := ⟨R_Walker, "growTree", "(I)V"⟩
abbrev c_Walker_join : ByteArray := prog_11_method_10_code
def y_Walker_join : MethodName := ⟨R_Walker, "join", "(II)V"⟩
abbrev c_Walker_findSeams : ByteArray := prog_11_method_11_code
def y_Walker_findSeams : MethodName := ⟨R_Walker, "findSeams", "(I)I"⟩
abbrev c_Walker_partBefore : ByteArray := prog_11_method_12_code
def y_Walker_partBefore : MethodName := ⟨R_Walker, "partBefore", "(II)I"⟩
def R_DC : String := "DistrictCutter"
def T_DC : u_T := fun k => match k with
  | 0 => ("DistrictCutter", "theLand", "LDistrictCutter$Land;", true)
  | 1 => ("DistrictCutter", "theLaw", "LDistrictCutter$Law;", true)
  | 2 => ("DistrictCutter", "theParting", "LDistrictCutter$Parting;", true)
  | 3 => ("DistrictCutter", "court", "LDistrictCutter$Court;", true)
  | 4 => ("DistrictCutter", "scale", "LDistrictCutter$Scale;", true)
  | 5 => ("DistrictCutter", "classes", "LDistrictCutter$ClassBook;", true)
  | 6 => ("DistrictCutter", "walker", "LDistrictCutter$Walker;", true)
  | 7 => ("DistrictCutter", "improver", "LDistrictCutter$Improver;", true)
  | _ => ("DistrictCutter", "mender", "LDistrictCutter$Mender;", true)
def ty_DC : Nat → FieldType := fun k => match k with
  | 0 => .object "DistrictCutter$Land"
  | 1 => .object "DistrictCutter$Law"
  | 2 => .object "DistrictCutter$Parting"
  | 3 => .object "DistrictCutter$Court"
  | 4 => .object "DistrictCutter$Scale"
  | 5 => .object "DistrictCutter$ClassBook"
  | 6 => .object "DistrictCutter$Walker"
  | 7 => .object "DistrictCutter$Improver"
  | _ => .object "DistrictCutter$Mender"
theorem nm_DC : ∀ a, a < 9 → ∀ b, b < 9 → a ≠ b → (T_DC a).2.1 ≠ (T_DC b).2.1 := by decide +kernel
theorem tyok_DC : ∀ k, k < 9 → parseFieldDescriptor (T_DC k).2.2.1 = some (ty_DC k) := by decide +kernel
abbrev c_DC_init : ByteArray := prog_1_method_1_code
def y_DC_init : MethodName := ⟨R_DC, "<init>", "()V"⟩
abbrev c_DC_place : ByteArray := prog_1_method_2_code
def y_DC_place : MethodName := ⟨R_DC, "place", "(IIIII)I"⟩
abbrev c_DC_border : ByteArray := prog_1_method_3_code
def y_DC_border : MethodName := ⟨R_DC, "border", "(III)I"⟩
abbrev c_DC_law : ByteArray := prog_1_method_4_code
def y_DC_law : MethodName := ⟨R_DC, "law", "(II)I"⟩
abbrev c_DC_keep : ByteArray := prog_1_method_5_code
def y_DC_keep : MethodName := ⟨R_DC, "keep", "(II)I"⟩
abbrev c_DC_cuts : ByteArray := prog_1_method_6_code
def y_DC_cuts : MethodName := ⟨R_DC, "cuts", "(I)I"⟩
abbrev c_DC_fix : ByteArray := prog_1_method_7_code
def y_DC_fix : MethodName := ⟨R_DC, "fix", "(II)I"⟩
abbrev c_DC_people : ByteArray := prog_1_method_8_code
def y_DC_people : MethodName := ⟨R_DC, "people", "(II)I"⟩
abbrev c_DC_put : ByteArray := prog_1_method_9_code
def y_DC_put : MethodName := ⟨R_DC, "put", "(II)I"⟩
abbrev c_DC_at : ByteArray := prog_1_method_10_code
def y_DC_at : MethodName := ⟨R_DC, "at", "(I)I"⟩
abbrev c_DC_lawful : ByteArray := prog_1_method_11_code
def y_DC_lawful : MethodName := ⟨R_DC, "lawful", "()I"⟩
abbrev c_DC_why : ByteArray := prog_1_method_12_code
def y_DC_why : MethodName := ⟨R_DC, "why", "(I)I"⟩
abbrev c_DC_measure : ByteArray := prog_1_method_13_code
def y_DC_measure : MethodName := ⟨R_DC, "measure", "(I)I"⟩
abbrev c_DC_district : ByteArray := prog_1_method_14_code
def y_DC_district : MethodName := ⟨R_DC, "district", "(II)I"⟩
abbrev c_DC_land : ByteArray := prog_1_method_15_code
def y_DC_land : MethodName := ⟨R_DC, "land", "(I)I"⟩
abbrev c_DC_count : ByteArray := prog_1_method_16_code
def y_DC_count : MethodName := ⟨R_DC, "count", "()I"⟩
abbrev c_DC_kth : ByteArray := prog_1_method_17_code
def y_DC_kth : MethodName := ⟨R_DC, "kth", "(I)I"⟩
abbrev c_DC_which : ByteArray := prog_1_method_18_code
def y_DC_which : MethodName := ⟨R_DC, "which", "()I"⟩
abbrev c_DC_same : ByteArray := prog_1_method_19_code
def y_DC_same : MethodName := ⟨R_DC, "same", "(I)I"⟩
abbrev c_DC_least : ByteArray := prog_1_method_20_code
def y_DC_least : MethodName := ⟨R_DC, "least", "(I)I"⟩
abbrev c_DC_among : ByteArray := prog_1_method_21_code
def y_DC_among : MethodName := ⟨R_DC, "among", "(II)I"⟩
abbrev c_DC_step : ByteArray := prog_1_method_22_code
def y_DC_step : MethodName := ⟨R_DC, "step", "(I)I"⟩
abbrev c_DC_walk : ByteArray := prog_1_method_23_code
def y_DC_walk : MethodName := ⟨R_DC, "walk", "(III)I"⟩
abbrev c_DC_seen : ByteArray := prog_1_method_24_code
def y_DC_seen : MethodName := ⟨R_DC, "seen", "(I)I"⟩
abbrev c_DC_better : ByteArray := prog_1_method_25_code
def y_DC_better : MethodName := ⟨R_DC, "better", "()I"⟩
abbrev c_DC_mend : ByteArray := prog_1_method_26_code
def y_DC_mend : MethodName := ⟨R_DC, "mend", "(I)I"⟩
abbrev c_DC_openClasses : ByteArray := prog_1_method_27_code
def y_DC_openClasses : MethodName := ⟨R_DC, "openClasses", "(I)I"⟩
abbrev c_DC_changeRefusal : ByteArray := prog_1_method_28_code
def y_DC_changeRefusal : MethodName := ⟨R_DC, "changeRefusal", "()I"⟩
abbrev c_DC_isWithin : ByteArray := prog_1_method_29_code
def y_DC_isWithin : MethodName := ⟨R_DC, "isWithin", "(III)Z"⟩
abbrev c_DC_isTown : ByteArray := prog_1_method_30_code
def y_DC_isTown : MethodName := ⟨R_DC, "isTown", "(I)Z"⟩
abbrev c_DC_isMeasure : ByteArray := prog_1_method_31_code
def y_DC_isMeasure : MethodName := ⟨R_DC, "isMeasure", "(I)Z"⟩
def R_Mo : String := "DistrictCutterModel"
def T_Mo : u_T := fun k => match k with
  | 0 => ("DistrictCutterModel", "people", "[I", true)
  | 1 => ("DistrictCutterModel", "votes", "[I", true)
  | 2 => ("DistrictCutterModel", "area", "[I", true)
  | 3 => ("DistrictCutterModel", "town", "[I", true)
  | 4 => ("DistrictCutterModel", "places", "I", false)
  | 5 => ("DistrictCutterModel", "from", "[I", true)
  | 6 => ("DistrictCutterModel", "to", "[I", true)
  | 7 => ("DistrictCutterModel", "length", "[I", true)
  | 8 => ("DistrictCutterModel", "borders", "I", false)
  | 9 => ("DistrictCutterModel", "near", "[I", true)
  | 10 => ("DistrictCutterModel", "k", "I", false)
  | 11 => ("DistrictCutterModel", "tolerance", "I", false)
  | 12 => ("DistrictCutterModel", "kept", "[Z", true)
  | 13 => ("DistrictCutterModel", "cuts", "I", false)
  | 14 => ("DistrictCutterModel", "fixed", "[I", true)
  | 15 => ("DistrictCutterModel", "district", "[I", true)
  | 16 => ("DistrictCutterModel", "brokenBy", "I", false)
  | 17 => ("DistrictCutterModel", "brokenFrom", "I", false)
  | 18 => ("DistrictCutterModel", "brokenTo", "I", false)
  | 19 => ("DistrictCutterModel", "drawn", "I", false)
  | 20 => ("DistrictCutterModel", "number", "[I", true)
  | 21 => ("DistrictCutterModel", "tree", "[I", true)
  | 22 => ("DistrictCutterModel", "root", "[I", true)
  | 23 => ("DistrictCutterModel", "seams", "[I", true)
  | 24 => ("DistrictCutterModel", "before", "[I", true)
  | 25 => ("DistrictCutterModel", "best", "[I", true)
  | 26 => ("DistrictCutterModel", "seen", "[I", true)
  | 27 => ("DistrictCutterModel", "hasSeen", "Z", false)
  | 28 => ("DistrictCutterModel", "set", "[I", true)
  | 29 => ("DistrictCutterModel", "own", "[I", true)
  | 30 => ("DistrictCutterModel", "found", "I", false)
  | 31 => ("DistrictCutterModel", "wanted", "I", false)
  | 32 => ("DistrictCutterModel", "asked", "I", false)
  | 33 => ("DistrictCutterModel", "ownValue", "I", false)
  | 34 => ("DistrictCutterModel", "leastValue", "I", false)
  | 35 => ("DistrictCutterModel", "side", "[I", true)
  | 36 => ("DistrictCutterModel", "ownNumber", "I", false)
  | 37 => ("DistrictCutterModel", "wantedSet", "[I", true)
  | 38 => ("DistrictCutterModel", "fewestPeople", "I", false)
  | _ => ("DistrictCutterModel", "fewestPlaces", "I", false)
def ty_Mo : Nat → FieldType := fun k => match k with
  | 0 => .array .int
  | 1 => .array .int
  | 2 => .array .int
  | 3 => .array .int
  | 4 => .int
  | 5 => .array .int
  | 6 => .array .int
  | 7 => .array .int
  | 8 => .int
  | 9 => .array .int
  | 10 => .int
  | 11 => .int
  | 12 => .array .boolean
  | 13 => .int
  | 14 => .array .int
  | 15 => .array .int
  | 16 => .int
  | 17 => .int
  | 18 => .int
  | 19 => .int
  | 20 => .array .int
  | 21 => .array .int
  | 22 => .array .int
  | 23 => .array .int
  | 24 => .array .int
  | 25 => .array .int
  | 26 => .array .int
  | 27 => .boolean
  | 28 => .array .int
  | 29 => .array .int
  | 30 => .int
  | 31 => .int
  | 32 => .int
  | 33 => .int
  | 34 => .int
  | 35 => .array .int
  | 36 => .int
  | 37 => .array .int
  | 38 => .int
  | _ => .int
theorem nm_Mo : ∀ a, a < 40 → ∀ b, b < 40 → a ≠ b → (T_Mo a).2.1 ≠ (T_Mo b).2.1 := by decide +kernel
theorem tyok_Mo : ∀ k, k < 40 → parseFieldDescriptor (T_Mo k).2.2.1 = some (ty_Mo k) := by decide +kernel
abbrev c_Mo_init : ByteArray := prog_13_method_1_code
def y_Mo_init : MethodName := ⟨R_Mo, "<init>", "()V"⟩
abbrev c_Mo_in : ByteArray := prog_13_method_2_code
def y_Mo_in : MethodName := ⟨R_Mo, "in", "(III)Z"⟩
abbrev c_Mo_has : ByteArray := prog_13_method_3_code
def y_Mo_has : MethodName := ⟨R_Mo, "has", "(II)Z"⟩
abbrev c_Mo_place : ByteArray := prog_13_method_4_code
def y_Mo_place : MethodName := ⟨R_Mo, "place", "(IIIII)I"⟩
abbrev c_Mo_isPlace : ByteArray := prog_13_method_5_code
def y_Mo_isPlace : MethodName := ⟨R_Mo, "isPlace", "(I)Z"⟩
abbrev c_Mo_border : ByteArray := prog_13_method_6_code
def y_Mo_border : MethodName := ⟨R_Mo, "border", "(III)I"⟩
abbrev c_Mo_law : ByteArray := prog_13_method_7_code
def y_Mo_law : MethodName := ⟨R_Mo, "law", "(II)I"⟩
abbrev c_Mo_keep : ByteArray := prog_13_method_8_code
def y_Mo_keep : MethodName := ⟨R_Mo, "keep", "(II)I"⟩
abbrev c_Mo_cuts : ByteArray := prog_13_method_9_code
def y_Mo_cuts : MethodName := ⟨R_Mo, "cuts", "(I)I"⟩
abbrev c_Mo_fix : ByteArray := prog_13_method_10_code
def y_Mo_fix : MethodName := ⟨R_Mo, "fix", "(II)I"⟩
abbrev c_Mo_people : ByteArray := prog_13_method_11_code
def y_Mo_people : MethodName := ⟨R_Mo, "people", "(II)I"⟩
abbrev c_Mo_bitsOf : ByteArray := prog_13_method_12_code
def y_Mo_bitsOf : MethodName := ⟨R_Mo, "bitsOf", "(I)I"⟩
abbrev c_Mo_peopleOf : ByteArray := prog_13_method_13_code
def y_Mo_peopleOf : MethodName := ⟨R_Mo, "peopleOf", "(I)I"⟩
abbrev c_Mo_all : ByteArray := prog_13_method_14_code
def y_Mo_all : MethodName := ⟨R_Mo, "all", "()I"⟩
abbrev c_Mo_leastOf : ByteArray := prog_13_method_15_code
def y_Mo_leastOf : MethodName := ⟨R_Mo, "leastOf", "(I)I"⟩
abbrev c_Mo_reached : ByteArray := prog_13_method_16_code
def y_Mo_reached : MethodName := ⟨R_Mo, "reached", "(I)I"⟩
abbrev c_Mo_fits : ByteArray := prog_13_method_17_code
def y_Mo_fits : MethodName := ⟨R_Mo, "fits", "(I)Z"⟩
abbrev c_Mo_isCut : ByteArray := prog_13_method_18_code
def y_Mo_isCut : MethodName := ⟨R_Mo, "isCut", "(I)Z"⟩
abbrev c_Mo_broken : ByteArray := prog_13_method_19_code
def y_Mo_broken : MethodName := ⟨R_Mo, "broken", "(Z)I"⟩
abbrev c_Mo_lawful : ByteArray := prog_13_method_20_code
def y_Mo_lawful : MethodName := ⟨R_Mo, "lawful", "()I"⟩
abbrev c_Mo_why : ByteArray := prog_13_method_21_code
def y_Mo_why : MethodName := ⟨R_Mo, "why", "(I)I"⟩
abbrev c_Mo_put : ByteArray := prog_13_method_22_code
def y_Mo_put : MethodName := ⟨R_Mo, "put", "(II)I"⟩
abbrev c_Mo_at : ByteArray := prog_13_method_23_code
def y_Mo_at : MethodName := ⟨R_Mo, "at", "(I)I"⟩
abbrev c_Mo_votesOf : ByteArray := prog_13_method_24_code
def y_Mo_votesOf : MethodName := ⟨R_Mo, "votesOf", "(II)I"⟩
abbrev c_Mo_value : ByteArray := prog_13_method_25_code
def y_Mo_value : MethodName := ⟨R_Mo, "value", "(I)I"⟩
abbrev c_Mo_measure : ByteArray := prog_13_method_26_code
def y_Mo_measure : MethodName := ⟨R_Mo, "measure", "(I)I"⟩
abbrev c_Mo_district : ByteArray := prog_13_method_27_code
def y_Mo_district : MethodName := ⟨R_Mo, "district", "(II)I"⟩
abbrev c_Mo_land : ByteArray := prog_13_method_28_code
def y_Mo_land : MethodName := ⟨R_Mo, "land", "(I)I"⟩
abbrev c_Mo_part : ByteArray := prog_13_method_29_code
def y_Mo_part : MethodName := ⟨R_Mo, "part", "(II)V"⟩
abbrev c_Mo_grow : ByteArray := prog_13_method_30_code
def y_Mo_grow : MethodName := ⟨R_Mo, "grow", "(IIII)V"⟩
abbrev c_Mo_whole : ByteArray := prog_13_method_31_code
def y_Mo_whole : MethodName := ⟨R_Mo, "whole", "()V"⟩
abbrev c_Mo_goThrough : ByteArray := prog_13_method_32_code
def y_Mo_goThrough : MethodName := ⟨R_Mo, "goThrough", "(II)V"⟩
abbrev c_Mo_size : ByteArray := prog_13_method_33_code
def y_Mo_size : MethodName := ⟨R_Mo, "size", "()I"⟩
abbrev c_Mo_count : ByteArray := prog_13_method_34_code
def y_Mo_count : MethodName := ⟨R_Mo, "count", "()I"⟩
abbrev c_Mo_isClass : ByteArray := prog_13_method_35_code
def y_Mo_isClass : MethodName := ⟨R_Mo, "isClass", "(I)Z"⟩
abbrev c_Mo_kth : ByteArray := prog_13_method_36_code
def y_Mo_kth : MethodName := ⟨R_Mo, "kth", "(I)I"⟩
abbrev c_Mo_which : ByteArray := prog_13_method_37_code
def y_Mo_which : MethodName := ⟨R_Mo, "which", "()I"⟩
abbrev c_Mo_same : ByteArray := prog_13_method_38_code
def y_Mo_same : MethodName := ⟨R_Mo, "same", "(I)I"⟩
abbrev c_Mo_least : ByteArray := prog_13_method_39_code
def y_Mo_least : MethodName := ⟨R_Mo, "least", "(I)I"⟩
abbrev c_Mo_among : ByteArray := prog_13_method_40_code
def y_Mo_among : MethodName := ⟨R_Mo, "among", "(II)I"⟩
abbrev c_Mo_draw : ByteArray := prog_13_method_41_code
def y_Mo_draw : MethodName := ⟨R_Mo, "draw", "()I"⟩
abbrev c_Mo_between : ByteArray := prog_13_method_42_code
def y_Mo_between : MethodName := ⟨R_Mo, "between", "(I)I"⟩
abbrev c_Mo_sideOf : ByteArray := prog_13_method_43_code
def y_Mo_sideOf : MethodName := ⟨R_Mo, "sideOf", "(III)I"⟩
abbrev c_Mo_plant : ByteArray := prog_13_method_44_code
def y_Mo_plant : MethodName := ⟨R_Mo, "plant", "(I)I"⟩
abbrev c_Mo_stepOn : ByteArray := prog_13_method_45_code
def y_Mo_stepOn : MethodName := ⟨R_Mo, "stepOn", "()Z"⟩
abbrev c_Mo_step : ByteArray := prog_13_method_46_code
def y_Mo_step : MethodName := ⟨R_Mo, "step", "(I)I"⟩
abbrev c_Mo_walk : ByteArray := prog_13_method_47_code
def y_Mo_walk : MethodName := ⟨R_Mo, "walk", "(III)I"⟩
abbrev c_Mo_seen : ByteArray := prog_13_method_48_code
def y_Mo_seen : MethodName := ⟨R_Mo, "seen", "(I)I"⟩
abbrev c_Mo_betters : ByteArray := prog_13_method_49_code
def y_Mo_betters : MethodName := ⟨R_Mo, "betters", "()Z"⟩
abbrev c_Mo_better : ByteArray := prog_13_method_50_code
def y_Mo_better : MethodName := ⟨R_Mo, "better", "()I"⟩
abbrev c_Mo_offer : ByteArray := prog_13_method_51_code
def y_Mo_offer : MethodName := ⟨R_Mo, "offer", "(II)V"⟩
abbrev c_Mo_move : ByteArray := prog_13_method_52_code
def y_Mo_move : MethodName := ⟨R_Mo, "move", "(IIII)V"⟩
abbrev c_Mo_mend : ByteArray := prog_13_method_53_code
def y_Mo_mend : MethodName := ⟨R_Mo, "mend", "(I)I"⟩
def R_Integer : String := "java/lang/Integer"
def T_Integer : u_T := fun k => match k with
  | _ => ("", "", "", false)
def ty_Integer : Nat → FieldType := fun k => match k with
  | _ => .int
theorem nm_Integer : ∀ a, a < 0 → ∀ b, b < 0 → a ≠ b → (T_Integer a).2.1 ≠ (T_Integer b).2.1 := by decide +kernel
theorem tyok_Integer : ∀ k, k < 0 → parseFieldDescriptor (T_Integer k).2.2.1 = some (ty_Integer k) := by decide +kernel
abbrev c_Integer_compare_7cf53 : ByteArray := prog_14_method_40_code
def y_Integer_compare_7cf53 : MethodName := ⟨R_Integer, "compare", "(II)I"⟩
abbrev c_Integer_bitCount_0f7a4 : ByteArray := prog_14_method_49_code
def y_Integer_bitCount_0f7a4 : MethodName := ⟨R_Integer, "bitCount", "(I)I"⟩
def R_Math : String := "java/lang/Math"
def T_Math : u_T := fun k => match k with
  | _ => ("", "", "", false)
def ty_Math : Nat → FieldType := fun k => match k with
  | _ => .int
theorem nm_Math : ∀ a, a < 0 → ∀ b, b < 0 → a ≠ b → (T_Math a).2.1 ≠ (T_Math b).2.1 := by decide +kernel
theorem tyok_Math : ∀ k, k < 0 → parseFieldDescriptor (T_Math k).2.2.1 = some (ty_Math k) := by decide +kernel
abbrev c_Math_abs_0f7a4 : ByteArray := prog_15_method_59_code
def y_Math_abs_0f7a4 : MethodName := ⟨R_Math, "abs", "(I)I"⟩
abbrev c_Math_max_7cf53 : ByteArray := prog_15_method_65_code
def y_Math_max_7cf53 : MethodName := ⟨R_Math, "max", "(II)I"⟩
abbrev c_Math_min_7cf53 : ByteArray := prog_15_method_69_code
def y_Math_min_7cf53 : MethodName := ⟨R_Math, "min", "(II)I"⟩
def R_System : String := "java/lang/System"
def T_System : u_T := fun k => match k with
  | _ => ("", "", "", false)
def ty_System : Nat → FieldType := fun k => match k with
  | _ => .int
theorem nm_System : ∀ a, a < 0 → ∀ b, b < 0 → a ≠ b → (T_System a).2.1 ≠ (T_System b).2.1 := by decide +kernel
theorem tyok_System : ∀ k, k < 0 → parseFieldDescriptor (T_System k).2.2.1 = some (ty_System k) := by decide +kernel
def R_Arrays : String := "java/util/Arrays"
def T_Arrays : u_T := fun k => match k with
  | _ => ("", "", "", false)
def ty_Arrays : Nat → FieldType := fun k => match k with
  | _ => .int
theorem nm_Arrays : ∀ a, a < 0 → ∀ b, b < 0 → a ≠ b → (T_Arrays a).2.1 ≠ (T_Arrays b).2.1 := by decide +kernel
theorem tyok_Arrays : ∀ k, k < 0 → parseFieldDescriptor (T_Arrays k).2.2.1 = some (ty_Arrays k) := by decide +kernel
abbrev c_Arrays_fill_53178 : ByteArray := prog_17_method_103_code
def y_Arrays_fill_53178 : MethodName := ⟨R_Arrays, "fill", "([II)V"⟩
def R_L : String := "DistrictCutterLaw"
abbrev c_L_law : ByteArray := code
def y_L_law : MethodName := ⟨R_L, "law", "([I)Z"⟩
/-- the classes whose objects the worlds hold -/
abbrev vcl : List vw_C := [(R_ClassBook, T_ClassBook, 16), (R_Court, T_Court, 2), (R_Improver, T_Improver, 3), (R_Land, T_Land, 12), (R_Law, T_Law, 5), (R_Mender, T_Mender, 7), (R_Parting, T_Parting, 2), (R_Scale, T_Scale, 3), (R_Sets, T_Sets, 0), (R_Walker, T_Walker, 10), (R_DC, T_DC, 9), (R_Mo, T_Mo, 40)]
def m_DC_init : Mt := (y_DC_init, c_DC_init, 5, none)
def m_Land_init : Mt := (y_Land_init, c_Land_init, 1, none)
def m_Law_init : Mt := (y_Law_init, c_Law_init, 1, none)
def m_Arrays_fill_53178 : Mt := (y_Arrays_fill_53178, c_Arrays_fill_53178, 4, none)
def m_Court_init : Mt := (y_Court_init, c_Court_init, 3, none)
def m_Scale_init : Mt := (y_Scale_init, c_Scale_init, 3, none)
def m_Parting_init : Mt := (y_Parting_init, c_Parting_init, 1, none)
def m_ClassBook_init : Mt := (y_ClassBook_init, c_ClassBook_init, 5, none)
def m_Walker_init : Mt := (y_Walker_init, c_Walker_init, 4, none)
def m_Improver_init : Mt := (y_Improver_init, c_Improver_init, 4, none)
def m_Mender_init : Mt := (y_Mender_init, c_Mender_init, 4, none)
def m_DC_place : Mt := (y_DC_place, c_DC_place, 8, (some .int))
def m_DC_isWithin : Mt := (y_DC_isWithin, c_DC_isWithin, 3, (some .boolean))
def m_DC_isTown : Mt := (y_DC_isTown, c_DC_isTown, 1, (some .boolean))
def m_Land_addPlace : Mt := (y_Land_addPlace, c_Land_addPlace, 7, (some .int))
def m_Sets_only : Mt := (y_Sets_only, c_Sets_only, 1, (some .int))
def m_Parting_move : Mt := (y_Parting_move, c_Parting_move, 3, none)
def m_ClassBook_forget : Mt := (y_ClassBook_forget, c_ClassBook_forget, 1, none)
def m_DC_border : Mt := (y_DC_border, c_DC_border, 4, (some .int))
def m_Land_hasPlace : Mt := (y_Land_hasPlace, c_Land_hasPlace, 2, (some .boolean))
def m_Sets_has : Mt := (y_Sets_has, c_Sets_has, 2, (some .boolean))
def m_Land_addBorder : Mt := (y_Land_addBorder, c_Land_addBorder, 5, (some .int))
def m_DC_law : Mt := (y_DC_law, c_DC_law, 3, (some .int))
def m_Law_fixNothing : Mt := (y_Law_fixNothing, c_Law_fixNothing, 1, none)
def m_Land_everywhere : Mt := (y_Land_everywhere, c_Land_everywhere, 3, (some .int))
def m_Parting_gather : Mt := (y_Parting_gather, c_Parting_gather, 2, none)
def m_DC_keep : Mt := (y_DC_keep, c_DC_keep, 4, (some .int))
def m_DC_cuts : Mt := (y_DC_cuts, c_DC_cuts, 3, (some .int))
def m_DC_fix : Mt := (y_DC_fix, c_DC_fix, 4, (some .int))
def m_Law_hasDistrict : Mt := (y_Law_hasDistrict, c_Law_hasDistrict, 2, (some .boolean))
def m_DC_people : Mt := (y_DC_people, c_DC_people, 3, (some .int))
def m_Land_changePeople : Mt := (y_Land_changePeople, c_Land_changePeople, 4, (some .int))
def m_DC_put : Mt := (y_DC_put, c_DC_put, 4, (some .int))
def m_DC_at : Mt := (y_DC_at, c_DC_at, 2, (some .int))
def m_DC_lawful : Mt := (y_DC_lawful, c_DC_lawful, 1, (some .int))
def m_Court_brokenLaw : Mt := (y_Court_brokenLaw, c_Court_brokenLaw, 3, (some .int))
def m_Court_culprit : Mt := (y_Court_culprit, c_Court_culprit, 3, (some .int))
def m_Court_badDistrict : Mt := (y_Court_badDistrict, c_Court_badDistrict, 4, (some .int))
def m_Court_isBad : Mt := (y_Court_isBad, c_Court_isBad, 3, (some .boolean))
def m_Court_hangs : Mt := (y_Court_hangs, c_Court_hangs, 2, (some .boolean))
def m_Sets_spread : Mt := (y_Sets_spread, c_Sets_spread, 8, (some .int))
def m_Integer_bitCount_0f7a4 : Mt := (y_Integer_bitCount_0f7a4, c_Integer_bitCount_0f7a4, 1, (some .int))
def m_Sets_sum : Mt := (y_Sets_sum, c_Sets_sum, 5, (some .int))
def m_Sets_last : Mt := (y_Sets_last, c_Sets_last, 1, (some .int))
def m_Court_fits : Mt := (y_Court_fits, c_Court_fits, 3, (some .boolean))
def m_Math_abs_0f7a4 : Mt := (y_Math_abs_0f7a4, c_Math_abs_0f7a4, 1, (some .int))
def m_Court_cutKeptTown : Mt := (y_Court_cutKeptTown, c_Court_cutKeptTown, 3, (some .int))
def m_Court_isCut : Mt := (y_Court_isCut, c_Court_isCut, 4, (some .boolean))
def m_Court_strayPlace : Mt := (y_Court_strayPlace, c_Court_strayPlace, 3, (some .int))
def m_Court_townTooMany : Mt := (y_Court_townTooMany, c_Court_townTooMany, 4, (some .int))
def m_DC_why : Mt := (y_DC_why, c_DC_why, 4, (some .int))
def m_Court_looseEnd : Mt := (y_Court_looseEnd, c_Court_looseEnd, 4, (some .int))
def m_Sets_first : Mt := (y_Sets_first, c_Sets_first, 2, (some .int))
def m_DC_measure : Mt := (y_DC_measure, c_DC_measure, 2, (some .int))
def m_DC_isMeasure : Mt := (y_DC_isMeasure, c_DC_isMeasure, 1, (some .boolean))
def m_Scale_weigh : Mt := (y_Scale_weigh, c_Scale_weigh, 4, (some .int))
def m_Scale_shareOf : Mt := (y_Scale_shareOf, c_Scale_shareOf, 3, (some .int))
def m_Land_outgoing : Mt := (y_Land_outgoing, c_Land_outgoing, 4, (some .int))
def m_Scale_cutTowns : Mt := (y_Scale_cutTowns, c_Scale_cutTowns, 5, (some .int))
def m_Scale_voteShare : Mt := (y_Scale_voteShare, c_Scale_voteShare, 5, (some .int))
def m_Scale_wasted : Mt := (y_Scale_wasted, c_Scale_wasted, 2, (some .int))
def m_Scale_together : Mt := (y_Scale_together, c_Scale_together, 6, (some .int))
def m_Math_max_7cf53 : Mt := (y_Math_max_7cf53, c_Math_max_7cf53, 2, (some .int))
def m_Math_min_7cf53 : Mt := (y_Math_min_7cf53, c_Math_min_7cf53, 2, (some .int))
def m_DC_district : Mt := (y_DC_district, c_DC_district, 4, (some .int))
def m_Land_outline : Mt := (y_Land_outline, c_Land_outline, 4, (some .int))
def m_DC_land : Mt := (y_DC_land, c_DC_land, 2, (some .int))
def m_Law_fixedPlaces : Mt := (y_Law_fixedPlaces, c_Law_fixedPlaces, 3, (some .int))
def m_DC_count : Mt := (y_DC_count, c_DC_count, 2, (some .int))
def m_DC_openClasses : Mt := (y_DC_openClasses, c_DC_openClasses, 2, (some .int))
def m_ClassBook_prepare : Mt := (y_ClassBook_prepare, c_ClassBook_prepare, 2, none)
def m_ClassBook_severalPlaceTowns : Mt := (y_ClassBook_severalPlaceTowns, c_ClassBook_severalPlaceTowns, 3, (some .int))
def m_ClassBook_fillPrices : Mt := (y_ClassBook_fillPrices, c_ClassBook_fillPrices, 4, none)
def m_ClassBook_atLeast : Mt := (y_ClassBook_atLeast, c_ClassBook_atLeast, 2, (some (.array .int)))
def m_Court_mayBeDistrict : Mt := (y_Court_mayBeDistrict, c_Court_mayBeDistrict, 2, (some .boolean))
def m_Court_leavesKeptWhole : Mt := (y_Court_leavesKeptWhole, c_Court_leavesKeptWhole, 4, (some .boolean))
def m_ClassBook_total : Mt := (y_ClassBook_total, c_ClassBook_total, 1, (some .int))
def m_ClassBook_ways : Mt := (y_ClassBook_ways, c_ClassBook_ways, 5, (some .int))
def m_ClassBook_slotOf : Mt := (y_ClassBook_slotOf, c_ClassBook_slotOf, 5, (some .int))
def m_ClassBook_waysAhead : Mt := (y_ClassBook_waysAhead, c_ClassBook_waysAhead, 9, (some .int))
def m_ClassBook_choicesOf : Mt := (y_ClassBook_choicesOf, c_ClassBook_choicesOf, 1, (some .int))
def m_ClassBook_waysWith : Mt := (y_ClassBook_waysWith, c_ClassBook_waysWith, 6, (some .int))
def m_ClassBook_following : Mt := (y_ClassBook_following, c_ClassBook_following, 2, (some .int))
def m_DC_kth : Mt := (y_DC_kth, c_DC_kth, 3, (some .int))
def m_ClassBook_hasNumber : Mt := (y_ClassBook_hasNumber, c_ClassBook_hasNumber, 2, (some .boolean))
def m_ClassBook_lay : Mt := (y_ClassBook_lay, c_ClassBook_lay, 4, none)
def m_ClassBook_choose : Mt := (y_ClassBook_choose, c_ClassBook_choose, 10, none)
def m_Parting_deal : Mt := (y_Parting_deal, c_Parting_deal, 4, none)
def m_DC_which : Mt := (y_DC_which, c_DC_which, 2, (some .int))
def m_ClassBook_rank : Mt := (y_ClassBook_rank, c_ClassBook_rank, 9, (some .int))
def m_DC_same : Mt := (y_DC_same, c_DC_same, 3, (some .int))
def m_DC_least : Mt := (y_DC_least, c_DC_least, 3, (some .int))
def m_ClassBook_survey : Mt := (y_ClassBook_survey, c_ClassBook_survey, 3, none)
def m_ClassBook_fillShares : Mt := (y_ClassBook_fillShares, c_ClassBook_fillShares, 3, none)
def m_ClassBook_visit : Mt := (y_ClassBook_visit, c_ClassBook_visit, 8, none)
def m_ClassBook_note : Mt := (y_ClassBook_note, c_ClassBook_note, 3, none)
def m_Integer_compare_7cf53 : Mt := (y_Integer_compare_7cf53, c_Integer_compare_7cf53, 2, (some .int))
def m_DC_among : Mt := (y_DC_among, c_DC_among, 4, (some .int))
def m_DC_step : Mt := (y_DC_step, c_DC_step, 3, (some .int))
def m_DC_changeRefusal : Mt := (y_DC_changeRefusal, c_DC_changeRefusal, 1, (some .int))
def m_Court_allows : Mt := (y_Court_allows, c_Court_allows, 3, (some .boolean))
def m_Walker_takeStep : Mt := (y_Walker_takeStep, c_Walker_takeStep, 10, (some .boolean))
def m_Walker_drawCrossing : Mt := (y_Walker_drawCrossing, c_Walker_drawCrossing, 4, (some .int))
def m_Walker_draw : Mt := (y_Walker_draw, c_Walker_draw, 1, (some .int))
def m_Walker_drawLeadingPart : Mt := (y_Walker_drawLeadingPart, c_Walker_drawLeadingPart, 5, (some .int))
def m_Walker_drawOrder : Mt := (y_Walker_drawOrder, c_Walker_drawOrder, 4, (some .int))
def m_Land_isInside : Mt := (y_Land_isInside, c_Land_isInside, 3, (some .boolean))
def m_Walker_insert : Mt := (y_Walker_insert, c_Walker_insert, 4, none)
def m_Walker_growTree : Mt := (y_Walker_growTree, c_Walker_growTree, 4, none)
def m_Walker_join : Mt := (y_Walker_join, c_Walker_join, 5, none)
def m_Walker_findSeams : Mt := (y_Walker_findSeams, c_Walker_findSeams, 6, (some .int))
def m_Walker_partBefore : Mt := (y_Walker_partBefore, c_Walker_partBefore, 4, (some .int))
def m_DC_walk : Mt := (y_DC_walk, c_DC_walk, 5, (some .int))
def m_Walker_roam : Mt := (y_Walker_roam, c_Walker_roam, 7, none)
def m_Parting_become : Mt := (y_Parting_become, c_Parting_become, 2, none)
def m_DC_seen : Mt := (y_DC_seen, c_DC_seen, 2, (some .int))
def m_DC_better : Mt := (y_DC_better, c_DC_better, 2, (some .int))
def m_Improver_improve : Mt := (y_Improver_improve, c_Improver_improve, 3, (some .int))
def m_Improver_moveOne : Mt := (y_Improver_moveOne, c_Improver_moveOne, 5, (some .boolean))
def m_Improver_isShorter : Mt := (y_Improver_isShorter, c_Improver_isShorter, 5, (some .boolean))
def m_Land_contact : Mt := (y_Land_contact, c_Land_contact, 6, (some .int))
def m_DC_mend : Mt := (y_DC_mend, c_DC_mend, 2, (some .int))
def m_Mender_repair : Mt := (y_Mender_repair, c_Mender_repair, 4, (some .int))
def m_Mender_tryMoves : Mt := (y_Mender_tryMoves, c_Mender_tryMoves, 8, none)
def m_Mender_isBetter : Mt := (y_Mender_isBetter, c_Mender_isBetter, 3, (some .boolean))
def m_Parting_comesAhead : Mt := (y_Parting_comesAhead, c_Parting_comesAhead, 3, (some .boolean))
def m_Mo_init : Mt := (y_Mo_init, c_Mo_init, 2, none)
def m_Mo_place : Mt := (y_Mo_place, c_Mo_place, 7, (some .int))
def m_Mo_in : Mt := (y_Mo_in, c_Mo_in, 3, (some .boolean))
def m_Mo_border : Mt := (y_Mo_border, c_Mo_border, 4, (some .int))
def m_Mo_isPlace : Mt := (y_Mo_isPlace, c_Mo_isPlace, 2, (some .boolean))
def m_Mo_has : Mt := (y_Mo_has, c_Mo_has, 2, (some .boolean))
def m_Mo_law : Mt := (y_Mo_law, c_Mo_law, 4, (some .int))
def m_Mo_keep : Mt := (y_Mo_keep, c_Mo_keep, 4, (some .int))
def m_Mo_cuts : Mt := (y_Mo_cuts, c_Mo_cuts, 3, (some .int))
def m_Mo_fix : Mt := (y_Mo_fix, c_Mo_fix, 4, (some .int))
def m_Mo_people : Mt := (y_Mo_people, c_Mo_people, 4, (some .int))
def m_Mo_lawful : Mt := (y_Mo_lawful, c_Mo_lawful, 1, (some .int))
def m_Mo_broken : Mt := (y_Mo_broken, c_Mo_broken, 6, (some .int))
def m_Mo_bitsOf : Mt := (y_Mo_bitsOf, c_Mo_bitsOf, 4, (some .int))
def m_Mo_reached : Mt := (y_Mo_reached, c_Mo_reached, 6, (some .int))
def m_Mo_leastOf : Mt := (y_Mo_leastOf, c_Mo_leastOf, 2, (some .int))
def m_Mo_fits : Mt := (y_Mo_fits, c_Mo_fits, 3, (some .boolean))
def m_Mo_peopleOf : Mt := (y_Mo_peopleOf, c_Mo_peopleOf, 4, (some .int))
def m_Mo_all : Mt := (y_Mo_all, c_Mo_all, 1, (some .int))
def m_Mo_isCut : Mt := (y_Mo_isCut, c_Mo_isCut, 5, (some .boolean))
def m_Mo_why : Mt := (y_Mo_why, c_Mo_why, 3, (some .int))
def m_Mo_put : Mt := (y_Mo_put, c_Mo_put, 4, (some .int))
def m_Mo_at : Mt := (y_Mo_at, c_Mo_at, 2, (some .int))
def m_Mo_measure : Mt := (y_Mo_measure, c_Mo_measure, 2, (some .int))
def m_Mo_value : Mt := (y_Mo_value, c_Mo_value, 10, (some .int))
def m_Mo_votesOf : Mt := (y_Mo_votesOf, c_Mo_votesOf, 5, (some .int))
def m_Mo_district : Mt := (y_Mo_district, c_Mo_district, 6, (some .int))
def m_Mo_land : Mt := (y_Mo_land, c_Mo_land, 4, (some .int))
def m_Mo_count : Mt := (y_Mo_count, c_Mo_count, 1, (some .int))
def m_Mo_size : Mt := (y_Mo_size, c_Mo_size, 1, (some .int))
def m_Mo_goThrough : Mt := (y_Mo_goThrough, c_Mo_goThrough, 6, none)
def m_Mo_part : Mt := (y_Mo_part, c_Mo_part, 4, none)
def m_Mo_whole : Mt := (y_Mo_whole, c_Mo_whole, 3, none)
def m_Mo_grow : Mt := (y_Mo_grow, c_Mo_grow, 5, none)
def m_Mo_kth : Mt := (y_Mo_kth, c_Mo_kth, 4, (some .int))
def m_Mo_isClass : Mt := (y_Mo_isClass, c_Mo_isClass, 2, (some .boolean))
def m_Mo_which : Mt := (y_Mo_which, c_Mo_which, 1, (some .int))
def m_Mo_same : Mt := (y_Mo_same, c_Mo_same, 2, (some .int))
def m_Mo_least : Mt := (y_Mo_least, c_Mo_least, 2, (some .int))
def m_Mo_among : Mt := (y_Mo_among, c_Mo_among, 3, (some .int))
def m_Mo_step : Mt := (y_Mo_step, c_Mo_step, 2, (some .int))
def m_Mo_stepOn : Mt := (y_Mo_stepOn, c_Mo_stepOn, 13, (some .boolean))
def m_Mo_between : Mt := (y_Mo_between, c_Mo_between, 4, (some .int))
def m_Mo_draw : Mt := (y_Mo_draw, c_Mo_draw, 1, (some .int))
def m_Mo_plant : Mt := (y_Mo_plant, c_Mo_plant, 8, (some .int))
def m_Mo_sideOf : Mt := (y_Mo_sideOf, c_Mo_sideOf, 8, (some .int))
def m_Mo_walk : Mt := (y_Mo_walk, c_Mo_walk, 7, (some .int))
def m_Mo_seen : Mt := (y_Mo_seen, c_Mo_seen, 2, (some .int))
def m_Mo_better : Mt := (y_Mo_better, c_Mo_better, 2, (some .int))
def m_Mo_betters : Mt := (y_Mo_betters, c_Mo_betters, 5, (some .boolean))
def m_Mo_mend : Mt := (y_Mo_mend, c_Mo_mend, 3, (some .int))
def m_Mo_move : Mt := (y_Mo_move, c_Mo_move, 8, none)
def m_Mo_offer : Mt := (y_Mo_offer, c_Mo_offer, 5, none)
end
section
def lw_g : List Cond := lw_tbl.filter goodWord
theorem lw_in (i : Nat) {w : Cond} (h : tables_1[i]? = some w) (hg : goodWord w = true) : w ∈ lw_g :=
  List.mem_filter.mpr ⟨List.mem_append_right _ (List.mem_of_getElem? h), hg⟩
theorem lw_inP (i : Nat) {w : Cond} (h : (k2_sels lw_privs)[i]? = some w) (hg : goodWord w = true) : w ∈ lw_g :=
  List.mem_filter.mpr ⟨List.mem_append_left _ (List.mem_of_getElem? h), hg⟩
def isNst : Cond → Bool
  | .methodLinkNest .. => true
  | _ => false
def lw_n : List Cond := lw_tbl.filter isNst
theorem lw_inN (i : Nat) {w : Cond} (h : tables_1[i]? = some w) (hg : isNst w = true) : w ∈ lw_n :=
  List.mem_filter.mpr ⟨List.mem_append_right _ (List.mem_of_getElem? h), hg⟩
def Nst (U : State) : Prop := ∀ w ∈ lw_n, va_Nw w U
theorem isNst_spec {w : Cond} (h : isNst w = true) : ∃ a i x q, w = .methodLinkNest a i x q := by
  cases w <;> first | exact ⟨_, _, _, _, rfl⟩ | (simp [isNst] at h)
theorem Nst.warm {s U : State} (hW : s.WarmedH U.vm) (h : Nst s) : Nst U := by
  intro w hw
  obtain ⟨a, i, x, q, rfl⟩ := isNst_spec (List.mem_filter.mp hw).2
  exact va_Nw.warmM hW (h _ hw)
theorem Nst.same {s U : State} (hv : s.vm = U.vm) (h : Nst s) : Nst U := by
  intro w hw
  have h1 := h w hw
  obtain ⟨a, i, x, q, rfl⟩ := isNst_spec (List.mem_filter.mp hw).2
  exact va_Nw.same rfl hv h1
/-! links -/
def okM (mt : Mt) (n : Nat) : Prop := Cond.code mt.1 mt.2.1 mt.2.2.1 mt.2.2.2 ∈ lw_g ∧ Cond.initialized mt.1.cls ∈ lw_g ∧ plainName mt.1.cls = true ∧ (mt.1.cls ≠ "java/lang/invoke/MethodHandle" ∧ mt.1.cls ≠ "java/lang/invoke/VarHandle") ∧ mt.2.2.1 ≤ 21 ∧ (parseMethodDescriptor mt.1.desc).map (fun d => d.parameters.length) = some n
def CLs (own : String) (idx : Nat) (mt : Mt) (n : Nat) : Prop := Cond.methodLink own idx mt.1 ∈ lw_g ∧ Cond.static mt.1 ∈ lw_g ∧ okM mt n
def CLn (own : String) (idx : Nat) (mt : Mt) (n : Nat) (host : String) : Prop := Cond.methodLinkNest own idx mt.1 host ∈ lw_n ∧ Cond.static mt.1 ∈ lw_g ∧ okM mt n
def CLv (own : String) (idx : Nat) (mt : Mt) (n : Nat) : Prop := Cond.methodLink own idx mt.1 ∈ lw_g ∧ Cond.instanceMethod mt.1 ∈ lw_g ∧ Cond.selects mt.1.cls mt.1 mt.1 ∈ lw_g ∧ okM mt n
def FL (own : String) (idx ci k : Nat) : Prop := ∃ (C : String) (T : u_T) (N : Nat) (ty : Nat → FieldType), vcl[ci]? = some (C, T, N) ∧ k < N ∧ Cond.fieldLink own idx (T k).1 (T k).2.1 (T k).2.2.1 ∈ lw_g ∧ (∀ w ∈ u_ws C T N, w ∈ lw_g) ∧ (∀ j, j < N → parseFieldDescriptor (T j).2.2.1 = some (ty j)) ∧ (∀ a, a < N → ∀ b, b < N → a ≠ b → (T a).2.1 ≠ (T b).2.1)
def MLk (own : String) (idx : Nat) (y : MethodName) (cd : ByteArray) (ml : Nat) : Prop := Cond.methodLink own idx y ∈ lw_g ∧ Cond.static y ∈ lw_g ∧ Cond.initialized "java/lang/Math" ∈ lw_g ∧ Cond.code y cd ml (some .int) ∈ lw_g
def ALk (own : String) (idx : Nat) : Prop := Cond.methodLink own idx arraycopyName ∈ lw_g ∧ Cond.native arraycopyName ∈ lw_g ∧ Cond.static arraycopyName ∈ lw_g ∧ Cond.initialized "java/lang/System" ∈ lw_g
end
section
theorem d_ClassBook_init_0 : decode c_ClassBook_init 0 = .ok (.aload_n 0, 1) := by decide +kernel
theorem d_ClassBook_init_1 : decode c_ClassBook_init 1 = .ok (.invokespecial 3, 3) := by decide +kernel
theorem d_ClassBook_init_4 : decode c_ClassBook_init 4 = .ok (.aload_n 0, 1) := by decide +kernel
theorem d_ClassBook_init_5 : decode c_ClassBook_init 5 = .ok (.aload_n 1, 1) := by decide +kernel
theorem d_ClassBook_init_6 : decode c_ClassBook_init 6 = .ok (.putfield 9, 3) := by decide +kernel
theorem d_ClassBook_init_9 : decode c_ClassBook_init 9 = .ok (.aload_n 0, 1) := by decide +kernel
theorem d_ClassBook_init_10 : decode c_ClassBook_init 10 = .ok (.aload_n 2, 1) := by decide +kernel
theorem d_ClassBook_init_11 : decode c_ClassBook_init 11 = .ok (.putfield 15, 3) := by decide +kernel
theorem d_ClassBook_init_14 : decode c_ClassBook_init 14 = .ok (.aload_n 0, 1) := by decide +kernel
theorem d_ClassBook_init_15 : decode c_ClassBook_init 15 = .ok (.aload_n 3, 1) := by decide +kernel
theorem d_ClassBook_init_16 : decode c_ClassBook_init 16 = .ok (.putfield 19, 3) := by decide +kernel
theorem d_ClassBook_init_19 : decode c_ClassBook_init 19 = .ok (.aload_n 0, 1) := by decide +kernel
theorem d_ClassBook_init_20 : decode c_ClassBook_init 20 = .ok (.aload 4, 2) := by decide +kernel
theorem d_ClassBook_init_22 : decode c_ClassBook_init 22 = .ok (.putfield 23, 3) := by decide +kernel
theorem d_ClassBook_init_25 : decode c_ClassBook_init 25 = .ok (.aload_n 0, 1) := by decide +kernel
theorem d_ClassBook_init_26 : decode c_ClassBook_init 26 = .ok (.iconst 3, 1) := by decide +kernel
theorem d_ClassBook_init_27 : decode c_ClassBook_init 27 = .ok (.newarray .int, 2) := by decide +kernel
theorem d_ClassBook_init_29 : decode c_ClassBook_init 29 = .ok (.putfield 27, 3) := by decide +kernel
theorem d_ClassBook_init_32 : decode c_ClassBook_init 32 = .ok (.aload_n 0, 1) := by decide +kernel
theorem d_ClassBook_init_33 : decode c_ClassBook_init 33 = .ok (.bipush 6, 2) := by decide +kernel
theorem d_ClassBook_init_35 : decode c_ClassBook_init 35 = .ok (.newarray .int, 2) := by decide +kernel
theorem d_ClassBook_init_37 : decode c_ClassBook_init 37 = .ok (.putfield 31, 3) := by decide +kernel
theorem d_ClassBook_init_40 : decode c_ClassBook_init 40 = .ok (.aload_n 0, 1) := by decide +kernel
theorem d_ClassBook_init_41 : decode c_ClassBook_init 41 = .ok (.iconst 0, 1) := by decide +kernel
theorem d_ClassBook_init_42 : decode c_ClassBook_init 42 = .ok (.newarray .int, 2) := by decide +kernel
theorem d_ClassBook_init_44 : decode c_ClassBook_init 44 = .ok (.putfield 34, 3) := by decide +kernel
theorem d_ClassBook_init_47 : decode c_ClassBook_init 47 = .ok (.aload_n 0, 1) := by decide +kernel
theorem d_ClassBook_init_48 : decode c_ClassBook_init 48 = .ok (.iconst 0, 1) := by decide +kernel
theorem d_ClassBook_init_49 : decode c_ClassBook_init 49 = .ok (.newarray .int, 2) := by decide +kernel
theorem d_ClassBook_init_51 : decode c_ClassBook_init 51 = .ok (.putfield 37, 3) := by decide +kernel
theorem d_ClassBook_init_54 : decode c_ClassBook_init 54 = .ok (.aload_n 0, 1) := by decide +kernel
theorem d_ClassBook_init_55 : decode c_ClassBook_init 55 = .ok (.iconst 0, 1) := by decide +kernel
theorem d_ClassBook_init_56 : decode c_ClassBook_init 56 = .ok (.newarray .int, 2) := by decide +kernel
theorem d_ClassBook_init_58 : decode c_ClassBook_init 58 = .ok (.putfield 40, 3) := by decide +kernel
theorem d_ClassBook_init_61 : decode c_ClassBook_init 61 = .ok (.return_, 1) := by decide +kernel
theorem d_ClassBook_forget_0 : decode c_ClassBook_forget 0 = .ok (.aload_n 0, 1) := by decide +kernel
theorem d_ClassBook_forget_1 : decode c_ClassBook_forget 1 = .ok (.iconst 0, 1) := by decide +kernel
theorem d_ClassBook_forget_2 : decode c_ClassBook_forget 2 = .ok (.putfield 43, 3) := by decide +kernel
theorem d_ClassBook_forget_5 : decode c_ClassBook_forget 5 = .ok (.return_, 1) := by decide +kernel
theorem d_ClassBook_prepare_0 : decode c_ClassBook_prepare 0 = .ok (.aload_n 0, 1) := by decide +kernel
theorem d_ClassBook_prepare_1 : decode c_ClassBook_prepare 1 = .ok (.getfield 43, 3) := by decide +kernel
theorem d_ClassBook_prepare_4 : decode c_ClassBook_prepare 4 = .ok (.ifCond .eq 4, 3) := by decide +kernel
theorem d_ClassBook_prepare_7 : decode c_ClassBook_prepare 7 = .ok (.return_, 1) := by decide +kernel
theorem d_ClassBook_prepare_8 : decode c_ClassBook_prepare 8 = .ok (.aload_n 0, 1) := by decide +kernel
theorem d_ClassBook_prepare_9 : decode c_ClassBook_prepare 9 = .ok (.iconst 1, 1) := by decide +kernel
theorem d_ClassBook_prepare_10 : decode c_ClassBook_prepare 10 = .ok (.putfield 43, 3) := by decide +kernel
theorem d_ClassBook_prepare_13 : decode c_ClassBook_prepare 13 = .ok (.aload_n 0, 1) := by decide +kernel
theorem d_ClassBook_prepare_14 : decode c_ClassBook_prepare 14 = .ok (.aload_n 0, 1) := by decide +kernel
theorem d_ClassBook_prepare_15 : decode c_ClassBook_prepare 15 = .ok (.getfield 9, 3) := by decide +kernel
theorem d_ClassBook_prepare_18 : decode c_ClassBook_prepare 18 = .ok (.invokevirtual 47, 3) := by decide +kernel
theorem d_ClassBook_prepare_21 : decode c_ClassBook_prepare 21 = .ok (.putfield 53, 3) := by decide +kernel
theorem d_ClassBook_prepare_24 : decode c_ClassBook_prepare 24 = .ok (.aload_n 0, 1) := by decide +kernel
theorem d_ClassBook_prepare_25 : decode c_ClassBook_prepare 25 = .ok (.bipush 30, 2) := by decide +kernel
theorem d_ClassBook_prepare_27 : decode c_ClassBook_prepare 27 = .ok (.aload_n 0, 1) := by decide +kernel
theorem d_ClassBook_prepare_28 : decode c_ClassBook_prepare 28 = .ok (.getfield 9, 3) := by decide +kernel
theorem d_ClassBook_prepare_31 : decode c_ClassBook_prepare 31 = .ok (.getfield 56, 3) := by decide +kernel
theorem d_ClassBook_prepare_34 : decode c_ClassBook_prepare 34 = .ok (.isub, 1) := by decide +kernel
theorem d_ClassBook_prepare_35 : decode c_ClassBook_prepare 35 = .ok (.putfield 59, 3) := by decide +kernel
theorem d_ClassBook_prepare_38 : decode c_ClassBook_prepare 38 = .ok (.aload_n 0, 1) := by decide +kernel
theorem d_ClassBook_prepare_39 : decode c_ClassBook_prepare 39 = .ok (.iconst 1, 1) := by decide +kernel
theorem d_ClassBook_prepare_40 : decode c_ClassBook_prepare 40 = .ok (.aload_n 0, 1) := by decide +kernel
theorem d_ClassBook_prepare_41 : decode c_ClassBook_prepare 41 = .ok (.getfield 9, 3) := by decide +kernel
theorem d_ClassBook_prepare_44 : decode c_ClassBook_prepare 44 = .ok (.getfield 56, 3) := by decide +kernel
theorem d_ClassBook_prepare_47 : decode c_ClassBook_prepare 47 = .ok (.iconst 1, 1) := by decide +kernel
theorem d_ClassBook_prepare_48 : decode c_ClassBook_prepare 48 = .ok (.isub, 1) := by decide +kernel
theorem d_ClassBook_prepare_49 : decode c_ClassBook_prepare 49 = .ok (.ishl, 1) := by decide +kernel
theorem d_ClassBook_prepare_50 : decode c_ClassBook_prepare 50 = .ok (.putfield 62, 3) := by decide +kernel
theorem d_ClassBook_prepare_53 : decode c_ClassBook_prepare 53 = .ok (.aload_n 0, 1) := by decide +kernel
theorem d_ClassBook_prepare_54 : decode c_ClassBook_prepare 54 = .ok (.invokevirtual 65, 3) := by decide +kernel
theorem d_ClassBook_prepare_57 : decode c_ClassBook_prepare 57 = .ok (.aload_n 0, 1) := by decide +kernel
theorem d_ClassBook_prepare_58 : decode c_ClassBook_prepare 58 = .ok (.getfield 15, 3) := by decide +kernel
theorem d_ClassBook_prepare_61 : decode c_ClassBook_prepare 61 = .ok (.getfield 68, 3) := by decide +kernel
theorem d_ClassBook_prepare_64 : decode c_ClassBook_prepare 64 = .ok (.if_icmp .le 7, 3) := by decide +kernel
theorem d_ClassBook_prepare_67 : decode c_ClassBook_prepare 67 = .ok (.iconst 1, 1) := by decide +kernel
theorem d_ClassBook_prepare_68 : decode c_ClassBook_prepare 68 = .ok (.goto 4, 3) := by decide +kernel
theorem d_ClassBook_prepare_71 : decode c_ClassBook_prepare 71 = .ok (.iconst 0, 1) := by decide +kernel
theorem d_ClassBook_prepare_72 : decode c_ClassBook_prepare 72 = .ok (.istore_n 1, 1) := by decide +kernel
theorem d_ClassBook_prepare_73 : decode c_ClassBook_prepare 73 = .ok (.aload_n 0, 1) := by decide +kernel
theorem d_ClassBook_prepare_74 : decode c_ClassBook_prepare 74 = .ok (.iload_n 1, 1) := by decide +kernel
theorem d_ClassBook_prepare_75 : decode c_ClassBook_prepare 75 = .ok (.ifCond .eq 13, 3) := by decide +kernel
theorem d_ClassBook_prepare_78 : decode c_ClassBook_prepare 78 = .ok (.aload_n 0, 1) := by decide +kernel
theorem d_ClassBook_prepare_79 : decode c_ClassBook_prepare 79 = .ok (.getfield 15, 3) := by decide +kernel
theorem d_ClassBook_prepare_82 : decode c_ClassBook_prepare 82 = .ok (.getfield 68, 3) := by decide +kernel
theorem d_ClassBook_prepare_85 : decode c_ClassBook_prepare 85 = .ok (.goto 4, 3) := by decide +kernel
theorem d_ClassBook_prepare_88 : decode c_ClassBook_prepare 88 = .ok (.iconst 0, 1) := by decide +kernel
theorem d_ClassBook_prepare_89 : decode c_ClassBook_prepare 89 = .ok (.putfield 73, 3) := by decide +kernel
theorem d_ClassBook_prepare_92 : decode c_ClassBook_prepare 92 = .ok (.aload_n 0, 1) := by decide +kernel
theorem d_ClassBook_prepare_93 : decode c_ClassBook_prepare 93 = .ok (.iload_n 1, 1) := by decide +kernel
theorem d_ClassBook_prepare_94 : decode c_ClassBook_prepare 94 = .ok (.invokevirtual 76, 3) := by decide +kernel
theorem d_ClassBook_prepare_97 : decode c_ClassBook_prepare 97 = .ok (.aload_n 0, 1) := by decide +kernel
theorem d_ClassBook_prepare_98 : decode c_ClassBook_prepare 98 = .ok (.aload_n 0, 1) := by decide +kernel
theorem d_ClassBook_prepare_99 : decode c_ClassBook_prepare 99 = .ok (.getfield 40, 3) := by decide +kernel
theorem d_ClassBook_prepare_102 : decode c_ClassBook_prepare 102 = .ok (.aload_n 0, 1) := by decide +kernel
theorem d_ClassBook_prepare_103 : decode c_ClassBook_prepare 103 = .ok (.getfield 15, 3) := by decide +kernel
theorem d_ClassBook_prepare_106 : decode c_ClassBook_prepare 106 = .ok (.getfield 80, 3) := by decide +kernel
theorem d_ClassBook_prepare_109 : decode c_ClassBook_prepare 109 = .ok (.iconst 1, 1) := by decide +kernel
theorem d_ClassBook_prepare_110 : decode c_ClassBook_prepare 110 = .ok (.isub, 1) := by decide +kernel
theorem d_ClassBook_prepare_111 : decode c_ClassBook_prepare 111 = .ok (.aload_n 0, 1) := by decide +kernel
theorem d_ClassBook_prepare_112 : decode c_ClassBook_prepare 112 = .ok (.getfield 62, 3) := by decide +kernel
theorem d_ClassBook_prepare_115 : decode c_ClassBook_prepare 115 = .ok (.imul, 1) := by decide +kernel
theorem d_ClassBook_prepare_116 : decode c_ClassBook_prepare 116 = .ok (.aload_n 0, 1) := by decide +kernel
theorem d_ClassBook_prepare_117 : decode c_ClassBook_prepare 117 = .ok (.getfield 73, 3) := by decide +kernel
theorem d_ClassBook_prepare_120 : decode c_ClassBook_prepare 120 = .ok (.iconst 1, 1) := by decide +kernel
theorem d_ClassBook_prepare_121 : decode c_ClassBook_prepare 121 = .ok (.iadd, 1) := by decide +kernel
theorem d_ClassBook_prepare_122 : decode c_ClassBook_prepare 122 = .ok (.imul, 1) := by decide +kernel
theorem d_ClassBook_prepare_123 : decode c_ClassBook_prepare 123 = .ok (.invokestatic 83, 3) := by decide +kernel
theorem d_ClassBook_prepare_126 : decode c_ClassBook_prepare 126 = .ok (.putfield 40, 3) := by decide +kernel
theorem d_ClassBook_prepare_129 : decode c_ClassBook_prepare 129 = .ok (.aload_n 0, 1) := by decide +kernel
theorem d_ClassBook_prepare_130 : decode c_ClassBook_prepare 130 = .ok (.getfield 40, 3) := by decide +kernel
theorem d_ClassBook_prepare_133 : decode c_ClassBook_prepare 133 = .ok (.iconst (-1), 1) := by decide +kernel
theorem d_ClassBook_prepare_134 : decode c_ClassBook_prepare 134 = .ok (.invokestatic 87, 3) := by decide +kernel
theorem d_ClassBook_prepare_137 : decode c_ClassBook_prepare 137 = .ok (.return_, 1) := by decide +kernel
theorem d_ClassBook_total_0 : decode c_ClassBook_total 0 = .ok (.aload_n 0, 1) := by decide +kernel
theorem d_ClassBook_total_1 : decode c_ClassBook_total 1 = .ok (.aload_n 0, 1) := by decide +kernel
theorem d_ClassBook_total_2 : decode c_ClassBook_total 2 = .ok (.getfield 15, 3) := by decide +kernel
theorem d_ClassBook_total_5 : decode c_ClassBook_total 5 = .ok (.getfield 80, 3) := by decide +kernel
theorem d_ClassBook_total_8 : decode c_ClassBook_total 8 = .ok (.aload_n 0, 1) := by decide +kernel
theorem d_ClassBook_total_9 : decode c_ClassBook_total 9 = .ok (.getfield 53, 3) := by decide +kernel
theorem d_ClassBook_total_12 : decode c_ClassBook_total 12 = .ok (.aload_n 0, 1) := by decide +kernel
theorem d_ClassBook_total_13 : decode c_ClassBook_total 13 = .ok (.getfield 73, 3) := by decide +kernel
theorem d_ClassBook_total_16 : decode c_ClassBook_total 16 = .ok (.invokevirtual 93, 3) := by decide +kernel
theorem d_ClassBook_total_19 : decode c_ClassBook_total 19 = .ok (.ireturn, 1) := by decide +kernel
theorem d_ClassBook_hasNumber_0 : decode c_ClassBook_hasNumber 0 = .ok (.iload_n 1, 1) := by decide +kernel
theorem d_ClassBook_hasNumber_1 : decode c_ClassBook_hasNumber 1 = .ok (.iconst 0, 1) := by decide +kernel
theorem d_ClassBook_hasNumber_2 : decode c_ClassBook_hasNumber 2 = .ok (.aload_n 0, 1) := by decide +kernel
theorem d_ClassBook_hasNumber_3 : decode c_ClassBook_hasNumber 3 = .ok (.invokevirtual 97, 3) := by decide +kernel
theorem d_ClassBook_hasNumber_6 : decode c_ClassBook_hasNumber 6 = .ok (.iconst 1, 1) := by decide +kernel
theorem d_ClassBook_hasNumber_7 : decode c_ClassBook_hasNumber 7 = .ok (.isub, 1) := by decide +kernel
theorem d_ClassBook_hasNumber_8 : decode c_ClassBook_hasNumber 8 = .ok (.invokestatic 100, 3) := by decide +kernel
theorem d_ClassBook_hasNumber_11 : decode c_ClassBook_hasNumber 11 = .ok (.ireturn, 1) := by decide +kernel
theorem d_ClassBook_rank_0 : decode c_ClassBook_rank 0 = .ok (.aload_n 0, 1) := by decide +kernel
theorem d_ClassBook_rank_1 : decode c_ClassBook_rank 1 = .ok (.getfield 53, 3) := by decide +kernel
theorem d_ClassBook_rank_4 : decode c_ClassBook_rank 4 = .ok (.istore_n 2, 1) := by decide +kernel
theorem d_ClassBook_rank_5 : decode c_ClassBook_rank 5 = .ok (.aload_n 0, 1) := by decide +kernel
theorem d_ClassBook_rank_6 : decode c_ClassBook_rank 6 = .ok (.getfield 73, 3) := by decide +kernel
theorem d_ClassBook_rank_9 : decode c_ClassBook_rank 9 = .ok (.istore_n 3, 1) := by decide +kernel
theorem d_ClassBook_rank_10 : decode c_ClassBook_rank 10 = .ok (.iconst 0, 1) := by decide +kernel
theorem d_ClassBook_rank_11 : decode c_ClassBook_rank 11 = .ok (.istore 4, 2) := by decide +kernel
theorem d_ClassBook_rank_13 : decode c_ClassBook_rank 13 = .ok (.aload_n 0, 1) := by decide +kernel
theorem d_ClassBook_rank_14 : decode c_ClassBook_rank 14 = .ok (.getfield 15, 3) := by decide +kernel
theorem d_ClassBook_rank_17 : decode c_ClassBook_rank 17 = .ok (.getfield 80, 3) := by decide +kernel
theorem d_ClassBook_rank_20 : decode c_ClassBook_rank 20 = .ok (.istore 5, 2) := by decide +kernel
theorem d_ClassBook_rank_22 : decode c_ClassBook_rank 22 = .ok (.iload 5, 2) := by decide +kernel
theorem d_ClassBook_rank_24 : decode c_ClassBook_rank 24 = .ok (.ifCond .le 92, 3) := by decide +kernel
theorem d_ClassBook_rank_27 : decode c_ClassBook_rank 27 = .ok (.iload_n 2, 1) := by decide +kernel
theorem d_ClassBook_rank_28 : decode c_ClassBook_rank 28 = .ok (.invokestatic 104, 3) := by decide +kernel
theorem d_ClassBook_rank_31 : decode c_ClassBook_rank 31 = .ok (.istore 6, 2) := by decide +kernel
theorem d_ClassBook_rank_33 : decode c_ClassBook_rank 33 = .ok (.iload 6, 2) := by decide +kernel
theorem d_ClassBook_rank_35 : decode c_ClassBook_rank 35 = .ok (.iconst (-1), 1) := by decide +kernel
theorem d_ClassBook_rank_36 : decode c_ClassBook_rank 36 = .ok (.if_icmp .ne 5, 3) := by decide +kernel
theorem d_ClassBook_rank_39 : decode c_ClassBook_rank 39 = .ok (.iconst (-1), 1) := by decide +kernel
theorem d_ClassBook_rank_40 : decode c_ClassBook_rank 40 = .ok (.ireturn, 1) := by decide +kernel
theorem d_ClassBook_rank_41 : decode c_ClassBook_rank 41 = .ok (.aload_n 1, 1) := by decide +kernel
theorem d_ClassBook_rank_42 : decode c_ClassBook_rank 42 = .ok (.getfield 110, 3) := by decide +kernel
theorem d_ClassBook_rank_45 : decode c_ClassBook_rank 45 = .ok (.aload_n 1, 1) := by decide +kernel
theorem d_ClassBook_rank_46 : decode c_ClassBook_rank 46 = .ok (.getfield 115, 3) := by decide +kernel
theorem d_ClassBook_rank_49 : decode c_ClassBook_rank 49 = .ok (.iload 6, 2) := by decide +kernel
theorem d_ClassBook_rank_51 : decode c_ClassBook_rank 51 = .ok (.iaload, 1) := by decide +kernel
theorem d_ClassBook_rank_52 : decode c_ClassBook_rank 52 = .ok (.iaload, 1) := by decide +kernel
theorem d_ClassBook_rank_53 : decode c_ClassBook_rank 53 = .ok (.istore 7, 2) := by decide +kernel
theorem d_ClassBook_rank_55 : decode c_ClassBook_rank 55 = .ok (.aload_n 0, 1) := by decide +kernel
theorem d_ClassBook_rank_56 : decode c_ClassBook_rank 56 = .ok (.getfield 34, 3) := by decide +kernel
theorem d_ClassBook_rank_59 : decode c_ClassBook_rank 59 = .ok (.iload 7, 2) := by decide +kernel
theorem d_ClassBook_rank_61 : decode c_ClassBook_rank 61 = .ok (.aload_n 0, 1) := by decide +kernel
theorem d_ClassBook_rank_62 : decode c_ClassBook_rank 62 = .ok (.getfield 59, 3) := by decide +kernel
theorem d_ClassBook_rank_65 : decode c_ClassBook_rank 65 = .ok (.iushr, 1) := by decide +kernel
theorem d_ClassBook_rank_66 : decode c_ClassBook_rank 66 = .ok (.iaload, 1) := by decide +kernel
theorem d_ClassBook_rank_67 : decode c_ClassBook_rank 67 = .ok (.istore 8, 2) := by decide +kernel
theorem d_ClassBook_rank_69 : decode c_ClassBook_rank 69 = .ok (.iload 8, 2) := by decide +kernel
theorem d_ClassBook_rank_71 : decode c_ClassBook_rank 71 = .ok (.iconst (-1), 1) := by decide +kernel
theorem d_ClassBook_rank_72 : decode c_ClassBook_rank 72 = .ok (.if_icmp .eq 9, 3) := by decide +kernel
theorem d_ClassBook_rank_75 : decode c_ClassBook_rank 75 = .ok (.iload 8, 2) := by decide +kernel
theorem d_ClassBook_rank_77 : decode c_ClassBook_rank 77 = .ok (.iload_n 3, 1) := by decide +kernel
theorem d_ClassBook_rank_78 : decode c_ClassBook_rank 78 = .ok (.if_icmp .le 5, 3) := by decide +kernel
theorem d_ClassBook_rank_81 : decode c_ClassBook_rank 81 = .ok (.iconst (-1), 1) := by decide +kernel
theorem d_ClassBook_rank_82 : decode c_ClassBook_rank 82 = .ok (.ireturn, 1) := by decide +kernel
theorem d_ClassBook_rank_83 : decode c_ClassBook_rank 83 = .ok (.iload 4, 2) := by decide +kernel
theorem d_ClassBook_rank_85 : decode c_ClassBook_rank 85 = .ok (.aload_n 0, 1) := by decide +kernel
theorem d_ClassBook_rank_86 : decode c_ClassBook_rank 86 = .ok (.iload 5, 2) := by decide +kernel
theorem d_ClassBook_rank_88 : decode c_ClassBook_rank 88 = .ok (.iload_n 2, 1) := by decide +kernel
theorem d_ClassBook_rank_89 : decode c_ClassBook_rank 89 = .ok (.iload_n 3, 1) := by decide +kernel
theorem d_ClassBook_rank_90 : decode c_ClassBook_rank 90 = .ok (.iload 7, 2) := by decide +kernel
theorem d_ClassBook_rank_92 : decode c_ClassBook_rank 92 = .ok (.invokevirtual 118, 3) := by decide +kernel
theorem d_ClassBook_rank_95 : decode c_ClassBook_rank 95 = .ok (.iadd, 1) := by decide +kernel
theorem d_ClassBook_rank_96 : decode c_ClassBook_rank 96 = .ok (.istore 4, 2) := by decide +kernel
theorem d_ClassBook_rank_98 : decode c_ClassBook_rank 98 = .ok (.iload_n 2, 1) := by decide +kernel
theorem d_ClassBook_rank_99 : decode c_ClassBook_rank 99 = .ok (.iload 7, 2) := by decide +kernel
theorem d_ClassBook_rank_101 : decode c_ClassBook_rank 101 = .ok (.iconst (-1), 1) := by decide +kernel
theorem d_ClassBook_rank_102 : decode c_ClassBook_rank 102 = .ok (.ixor, 1) := by decide +kernel
theorem d_ClassBook_rank_103 : decode c_ClassBook_rank 103 = .ok (.iand, 1) := by decide +kernel
theorem d_ClassBook_rank_104 : decode c_ClassBook_rank 104 = .ok (.istore_n 2, 1) := by decide +kernel
theorem d_ClassBook_rank_105 : decode c_ClassBook_rank 105 = .ok (.iload_n 3, 1) := by decide +kernel
theorem d_ClassBook_rank_106 : decode c_ClassBook_rank 106 = .ok (.iload 8, 2) := by decide +kernel
theorem d_ClassBook_rank_108 : decode c_ClassBook_rank 108 = .ok (.isub, 1) := by decide +kernel
theorem d_ClassBook_rank_109 : decode c_ClassBook_rank 109 = .ok (.istore_n 3, 1) := by decide +kernel
theorem d_ClassBook_rank_110 : decode c_ClassBook_rank 110 = .ok (.iinc 5 (-1), 3) := by decide +kernel
theorem d_ClassBook_rank_113 : decode c_ClassBook_rank 113 = .ok (.goto (-91), 3) := by decide +kernel
theorem d_ClassBook_rank_116 : decode c_ClassBook_rank 116 = .ok (.iload 4, 2) := by decide +kernel
theorem d_ClassBook_rank_118 : decode c_ClassBook_rank 118 = .ok (.ireturn, 1) := by decide +kernel
theorem d_ClassBook_lay_0 : decode c_ClassBook_lay 0 = .ok (.aload_n 0, 1) := by decide +kernel
theorem d_ClassBook_lay_1 : decode c_ClassBook_lay 1 = .ok (.iload_n 1, 1) := by decide +kernel
theorem d_ClassBook_lay_2 : decode c_ClassBook_lay 2 = .ok (.invokevirtual 122, 3) := by decide +kernel
theorem d_ClassBook_lay_5 : decode c_ClassBook_lay 5 = .ok (.iconst 0, 1) := by decide +kernel
theorem d_ClassBook_lay_6 : decode c_ClassBook_lay 6 = .ok (.istore_n 3, 1) := by decide +kernel
theorem d_ClassBook_lay_7 : decode c_ClassBook_lay 7 = .ok (.iload_n 3, 1) := by decide +kernel
theorem d_ClassBook_lay_8 : decode c_ClassBook_lay 8 = .ok (.aload_n 0, 1) := by decide +kernel
theorem d_ClassBook_lay_9 : decode c_ClassBook_lay 9 = .ok (.getfield 15, 3) := by decide +kernel
theorem d_ClassBook_lay_12 : decode c_ClassBook_lay 12 = .ok (.getfield 80, 3) := by decide +kernel
theorem d_ClassBook_lay_15 : decode c_ClassBook_lay 15 = .ok (.if_icmp .ge 20, 3) := by decide +kernel
theorem d_ClassBook_lay_18 : decode c_ClassBook_lay 18 = .ok (.aload_n 2, 1) := by decide +kernel
theorem d_ClassBook_lay_19 : decode c_ClassBook_lay 19 = .ok (.iload_n 3, 1) := by decide +kernel
theorem d_ClassBook_lay_20 : decode c_ClassBook_lay 20 = .ok (.aload_n 0, 1) := by decide +kernel
theorem d_ClassBook_lay_21 : decode c_ClassBook_lay 21 = .ok (.getfield 31, 3) := by decide +kernel
theorem d_ClassBook_lay_24 : decode c_ClassBook_lay 24 = .ok (.iload_n 3, 1) := by decide +kernel
theorem d_ClassBook_lay_25 : decode c_ClassBook_lay 25 = .ok (.iaload, 1) := by decide +kernel
theorem d_ClassBook_lay_26 : decode c_ClassBook_lay 26 = .ok (.invokevirtual 126, 3) := by decide +kernel
theorem d_ClassBook_lay_29 : decode c_ClassBook_lay 29 = .ok (.iinc 3 1, 3) := by decide +kernel
theorem d_ClassBook_lay_32 : decode c_ClassBook_lay 32 = .ok (.goto (-25), 3) := by decide +kernel
theorem d_ClassBook_lay_35 : decode c_ClassBook_lay 35 = .ok (.return_, 1) := by decide +kernel
theorem d_ClassBook_survey_0 : decode c_ClassBook_survey 0 = .ok (.aload_n 0, 1) := by decide +kernel
theorem d_ClassBook_survey_1 : decode c_ClassBook_survey 1 = .ok (.ldc 130, 2) := by decide +kernel
theorem d_ClassBook_survey_3 : decode c_ClassBook_survey 3 = .ok (.putfield 131, 3) := by decide +kernel
theorem d_ClassBook_survey_6 : decode c_ClassBook_survey 6 = .ok (.aload_n 0, 1) := by decide +kernel
theorem d_ClassBook_survey_7 : decode c_ClassBook_survey 7 = .ok (.iload_n 2, 1) := by decide +kernel
theorem d_ClassBook_survey_8 : decode c_ClassBook_survey 8 = .ok (.putfield 134, 3) := by decide +kernel
theorem d_ClassBook_survey_11 : decode c_ClassBook_survey 11 = .ok (.aload_n 0, 1) := by decide +kernel
theorem d_ClassBook_survey_12 : decode c_ClassBook_survey 12 = .ok (.getfield 27, 3) := by decide +kernel
theorem d_ClassBook_survey_15 : decode c_ClassBook_survey 15 = .ok (.iconst 0, 1) := by decide +kernel
theorem d_ClassBook_survey_16 : decode c_ClassBook_survey 16 = .ok (.invokestatic 87, 3) := by decide +kernel
theorem d_ClassBook_survey_19 : decode c_ClassBook_survey 19 = .ok (.aload_n 0, 1) := by decide +kernel
theorem d_ClassBook_survey_20 : decode c_ClassBook_survey 20 = .ok (.invokevirtual 97, 3) := by decide +kernel
theorem d_ClassBook_survey_23 : decode c_ClassBook_survey 23 = .ok (.ifCond .ne 4, 3) := by decide +kernel
theorem d_ClassBook_survey_26 : decode c_ClassBook_survey 26 = .ok (.return_, 1) := by decide +kernel
theorem d_ClassBook_survey_27 : decode c_ClassBook_survey 27 = .ok (.aload_n 0, 1) := by decide +kernel
theorem d_ClassBook_survey_28 : decode c_ClassBook_survey 28 = .ok (.iload_n 1, 1) := by decide +kernel
theorem d_ClassBook_survey_29 : decode c_ClassBook_survey 29 = .ok (.invokevirtual 137, 3) := by decide +kernel
theorem d_ClassBook_survey_32 : decode c_ClassBook_survey 32 = .ok (.aload_n 0, 1) := by decide +kernel
theorem d_ClassBook_survey_33 : decode c_ClassBook_survey 33 = .ok (.aload_n 0, 1) := by decide +kernel
theorem d_ClassBook_survey_34 : decode c_ClassBook_survey 34 = .ok (.getfield 15, 3) := by decide +kernel
theorem d_ClassBook_survey_37 : decode c_ClassBook_survey 37 = .ok (.getfield 80, 3) := by decide +kernel
theorem d_ClassBook_survey_40 : decode c_ClassBook_survey 40 = .ok (.aload_n 0, 1) := by decide +kernel
theorem d_ClassBook_survey_41 : decode c_ClassBook_survey 41 = .ok (.getfield 53, 3) := by decide +kernel
theorem d_ClassBook_survey_44 : decode c_ClassBook_survey 44 = .ok (.aload_n 0, 1) := by decide +kernel
theorem d_ClassBook_survey_45 : decode c_ClassBook_survey 45 = .ok (.getfield 73, 3) := by decide +kernel
theorem d_ClassBook_survey_48 : decode c_ClassBook_survey 48 = .ok (.iload_n 1, 1) := by decide +kernel
theorem d_ClassBook_survey_49 : decode c_ClassBook_survey 49 = .ok (.invokevirtual 140, 3) := by decide +kernel
theorem d_ClassBook_survey_52 : decode c_ClassBook_survey 52 = .ok (.return_, 1) := by decide +kernel
theorem d_ClassBook_severalPlaceTowns_0 : decode c_ClassBook_severalPlaceTowns 0 = .ok (.iconst 0, 1) := by decide +kernel
theorem d_ClassBook_severalPlaceTowns_1 : decode c_ClassBook_severalPlaceTowns 1 = .ok (.istore_n 1, 1) := by decide +kernel
theorem d_ClassBook_severalPlaceTowns_2 : decode c_ClassBook_severalPlaceTowns 2 = .ok (.iconst 0, 1) := by decide +kernel
theorem d_ClassBook_severalPlaceTowns_3 : decode c_ClassBook_severalPlaceTowns 3 = .ok (.istore_n 2, 1) := by decide +kernel
theorem d_ClassBook_severalPlaceTowns_4 : decode c_ClassBook_severalPlaceTowns 4 = .ok (.iload_n 2, 1) := by decide +kernel
theorem d_ClassBook_severalPlaceTowns_5 : decode c_ClassBook_severalPlaceTowns 5 = .ok (.bipush 10, 2) := by decide +kernel
theorem d_ClassBook_severalPlaceTowns_7 : decode c_ClassBook_severalPlaceTowns 7 = .ok (.if_icmp .ge 28, 3) := by decide +kernel
theorem d_ClassBook_severalPlaceTowns_10 : decode c_ClassBook_severalPlaceTowns 10 = .ok (.aload_n 0, 1) := by decide +kernel
theorem d_ClassBook_severalPlaceTowns_11 : decode c_ClassBook_severalPlaceTowns 11 = .ok (.getfield 9, 3) := by decide +kernel
theorem d_ClassBook_severalPlaceTowns_14 : decode c_ClassBook_severalPlaceTowns 14 = .ok (.getfield 144, 3) := by decide +kernel
theorem d_ClassBook_severalPlaceTowns_17 : decode c_ClassBook_severalPlaceTowns 17 = .ok (.iload_n 2, 1) := by decide +kernel
theorem d_ClassBook_severalPlaceTowns_18 : decode c_ClassBook_severalPlaceTowns 18 = .ok (.iaload, 1) := by decide +kernel
theorem d_ClassBook_severalPlaceTowns_19 : decode c_ClassBook_severalPlaceTowns 19 = .ok (.invokestatic 147, 3) := by decide +kernel
theorem d_ClassBook_severalPlaceTowns_22 : decode c_ClassBook_severalPlaceTowns 22 = .ok (.iconst 1, 1) := by decide +kernel
theorem d_ClassBook_severalPlaceTowns_23 : decode c_ClassBook_severalPlaceTowns 23 = .ok (.if_icmp .le 6, 3) := by decide +kernel
theorem d_ClassBook_severalPlaceTowns_26 : decode c_ClassBook_severalPlaceTowns 26 = .ok (.iinc 1 1, 3) := by decide +kernel
theorem d_ClassBook_severalPlaceTowns_29 : decode c_ClassBook_severalPlaceTowns 29 = .ok (.iinc 2 1, 3) := by decide +kernel
theorem d_ClassBook_severalPlaceTowns_32 : decode c_ClassBook_severalPlaceTowns 32 = .ok (.goto (-28), 3) := by decide +kernel
theorem d_ClassBook_severalPlaceTowns_35 : decode c_ClassBook_severalPlaceTowns 35 = .ok (.iload_n 1, 1) := by decide +kernel
theorem d_ClassBook_severalPlaceTowns_36 : decode c_ClassBook_severalPlaceTowns 36 = .ok (.ireturn, 1) := by decide +kernel
theorem d_ClassBook_fillPrices_0 : decode c_ClassBook_fillPrices 0 = .ok (.aload_n 0, 1) := by decide +kernel
theorem d_ClassBook_fillPrices_1 : decode c_ClassBook_fillPrices 1 = .ok (.aload_n 0, 1) := by decide +kernel
theorem d_ClassBook_fillPrices_2 : decode c_ClassBook_fillPrices 2 = .ok (.getfield 34, 3) := by decide +kernel
theorem d_ClassBook_fillPrices_5 : decode c_ClassBook_fillPrices 5 = .ok (.iconst 2, 1) := by decide +kernel
theorem d_ClassBook_fillPrices_6 : decode c_ClassBook_fillPrices 6 = .ok (.aload_n 0, 1) := by decide +kernel
theorem d_ClassBook_fillPrices_7 : decode c_ClassBook_fillPrices 7 = .ok (.getfield 62, 3) := by decide +kernel
theorem d_ClassBook_fillPrices_10 : decode c_ClassBook_fillPrices 10 = .ok (.imul, 1) := by decide +kernel
theorem d_ClassBook_fillPrices_11 : decode c_ClassBook_fillPrices 11 = .ok (.invokestatic 83, 3) := by decide +kernel
theorem d_ClassBook_fillPrices_14 : decode c_ClassBook_fillPrices 14 = .ok (.putfield 34, 3) := by decide +kernel
theorem d_ClassBook_fillPrices_17 : decode c_ClassBook_fillPrices 17 = .ok (.iconst 0, 1) := by decide +kernel
theorem d_ClassBook_fillPrices_18 : decode c_ClassBook_fillPrices 18 = .ok (.istore_n 2, 1) := by decide +kernel
theorem d_ClassBook_fillPrices_19 : decode c_ClassBook_fillPrices 19 = .ok (.iload_n 2, 1) := by decide +kernel
theorem d_ClassBook_fillPrices_20 : decode c_ClassBook_fillPrices 20 = .ok (.iconst 2, 1) := by decide +kernel
theorem d_ClassBook_fillPrices_21 : decode c_ClassBook_fillPrices 21 = .ok (.aload_n 0, 1) := by decide +kernel
theorem d_ClassBook_fillPrices_22 : decode c_ClassBook_fillPrices 22 = .ok (.getfield 62, 3) := by decide +kernel
theorem d_ClassBook_fillPrices_25 : decode c_ClassBook_fillPrices 25 = .ok (.imul, 1) := by decide +kernel
theorem d_ClassBook_fillPrices_26 : decode c_ClassBook_fillPrices 26 = .ok (.if_icmp .ge 59, 3) := by decide +kernel
theorem d_ClassBook_fillPrices_29 : decode c_ClassBook_fillPrices 29 = .ok (.iload_n 2, 1) := by decide +kernel
theorem d_ClassBook_fillPrices_30 : decode c_ClassBook_fillPrices 30 = .ok (.aload_n 0, 1) := by decide +kernel
theorem d_ClassBook_fillPrices_31 : decode c_ClassBook_fillPrices 31 = .ok (.getfield 59, 3) := by decide +kernel
theorem d_ClassBook_fillPrices_34 : decode c_ClassBook_fillPrices 34 = .ok (.ishl, 1) := by decide +kernel
theorem d_ClassBook_fillPrices_35 : decode c_ClassBook_fillPrices 35 = .ok (.istore_n 3, 1) := by decide +kernel
theorem d_ClassBook_fillPrices_36 : decode c_ClassBook_fillPrices 36 = .ok (.aload_n 0, 1) := by decide +kernel
theorem d_ClassBook_fillPrices_37 : decode c_ClassBook_fillPrices 37 = .ok (.getfield 19, 3) := by decide +kernel
theorem d_ClassBook_fillPrices_40 : decode c_ClassBook_fillPrices 40 = .ok (.iload_n 3, 1) := by decide +kernel
theorem d_ClassBook_fillPrices_41 : decode c_ClassBook_fillPrices 41 = .ok (.invokevirtual 152, 3) := by decide +kernel
theorem d_ClassBook_fillPrices_44 : decode c_ClassBook_fillPrices 44 = .ok (.ifCond .ne 13, 3) := by decide +kernel
theorem d_ClassBook_fillPrices_47 : decode c_ClassBook_fillPrices 47 = .ok (.aload_n 0, 1) := by decide +kernel
theorem d_ClassBook_fillPrices_48 : decode c_ClassBook_fillPrices 48 = .ok (.getfield 34, 3) := by decide +kernel
theorem d_ClassBook_fillPrices_51 : decode c_ClassBook_fillPrices 51 = .ok (.iload_n 2, 1) := by decide +kernel
theorem d_ClassBook_fillPrices_52 : decode c_ClassBook_fillPrices 52 = .ok (.iconst (-1), 1) := by decide +kernel
theorem d_ClassBook_fillPrices_53 : decode c_ClassBook_fillPrices 53 = .ok (.iastore, 1) := by decide +kernel
theorem d_ClassBook_fillPrices_54 : decode c_ClassBook_fillPrices 54 = .ok (.goto 25, 3) := by decide +kernel
theorem d_ClassBook_fillPrices_57 : decode c_ClassBook_fillPrices 57 = .ok (.aload_n 0, 1) := by decide +kernel
theorem d_ClassBook_fillPrices_58 : decode c_ClassBook_fillPrices 58 = .ok (.getfield 34, 3) := by decide +kernel
theorem d_ClassBook_fillPrices_61 : decode c_ClassBook_fillPrices 61 = .ok (.iload_n 2, 1) := by decide +kernel
theorem d_ClassBook_fillPrices_62 : decode c_ClassBook_fillPrices 62 = .ok (.iload_n 1, 1) := by decide +kernel
theorem d_ClassBook_fillPrices_63 : decode c_ClassBook_fillPrices 63 = .ok (.ifCond .eq 14, 3) := by decide +kernel
theorem d_ClassBook_fillPrices_66 : decode c_ClassBook_fillPrices 66 = .ok (.aload_n 0, 1) := by decide +kernel
theorem d_ClassBook_fillPrices_67 : decode c_ClassBook_fillPrices 67 = .ok (.getfield 23, 3) := by decide +kernel
theorem d_ClassBook_fillPrices_70 : decode c_ClassBook_fillPrices 70 = .ok (.iload_n 3, 1) := by decide +kernel
theorem d_ClassBook_fillPrices_71 : decode c_ClassBook_fillPrices 71 = .ok (.invokevirtual 158, 3) := by decide +kernel
theorem d_ClassBook_fillPrices_74 : decode c_ClassBook_fillPrices 74 = .ok (.goto 4, 3) := by decide +kernel
theorem d_ClassBook_fillPrices_77 : decode c_ClassBook_fillPrices 77 = .ok (.iconst 0, 1) := by decide +kernel
theorem d_ClassBook_fillPrices_78 : decode c_ClassBook_fillPrices 78 = .ok (.iastore, 1) := by decide +kernel
theorem d_ClassBook_fillPrices_79 : decode c_ClassBook_fillPrices 79 = .ok (.iinc 2 1, 3) := by decide +kernel
theorem d_ClassBook_fillPrices_82 : decode c_ClassBook_fillPrices 82 = .ok (.goto (-63), 3) := by decide +kernel
theorem d_ClassBook_fillPrices_85 : decode c_ClassBook_fillPrices 85 = .ok (.return_, 1) := by decide +kernel
theorem d_ClassBook_fillShares_0 : decode c_ClassBook_fillShares 0 = .ok (.aload_n 0, 1) := by decide +kernel
theorem d_ClassBook_fillShares_1 : decode c_ClassBook_fillShares 1 = .ok (.aload_n 0, 1) := by decide +kernel
theorem d_ClassBook_fillShares_2 : decode c_ClassBook_fillShares 2 = .ok (.getfield 37, 3) := by decide +kernel
theorem d_ClassBook_fillShares_5 : decode c_ClassBook_fillShares 5 = .ok (.iconst 2, 1) := by decide +kernel
theorem d_ClassBook_fillShares_6 : decode c_ClassBook_fillShares 6 = .ok (.aload_n 0, 1) := by decide +kernel
theorem d_ClassBook_fillShares_7 : decode c_ClassBook_fillShares 7 = .ok (.getfield 62, 3) := by decide +kernel
theorem d_ClassBook_fillShares_10 : decode c_ClassBook_fillShares 10 = .ok (.imul, 1) := by decide +kernel
theorem d_ClassBook_fillShares_11 : decode c_ClassBook_fillShares 11 = .ok (.invokestatic 83, 3) := by decide +kernel
theorem d_ClassBook_fillShares_14 : decode c_ClassBook_fillShares 14 = .ok (.putfield 37, 3) := by decide +kernel
theorem d_ClassBook_fillShares_17 : decode c_ClassBook_fillShares 17 = .ok (.iconst 0, 1) := by decide +kernel
theorem d_ClassBook_fillShares_18 : decode c_ClassBook_fillShares 18 = .ok (.istore_n 2, 1) := by decide +kernel
theorem d_ClassBook_fillShares_19 : decode c_ClassBook_fillShares 19 = .ok (.iload_n 2, 1) := by decide +kernel
theorem d_ClassBook_fillShares_20 : decode c_ClassBook_fillShares 20 = .ok (.iconst 2, 1) := by decide +kernel
theorem d_ClassBook_fillShares_21 : decode c_ClassBook_fillShares 21 = .ok (.aload_n 0, 1) := by decide +kernel
theorem d_ClassBook_fillShares_22 : decode c_ClassBook_fillShares 22 = .ok (.getfield 62, 3) := by decide +kernel
theorem d_ClassBook_fillShares_25 : decode c_ClassBook_fillShares 25 = .ok (.imul, 1) := by decide +kernel
theorem d_ClassBook_fillShares_26 : decode c_ClassBook_fillShares 26 = .ok (.if_icmp .ge 43, 3) := by decide +kernel
theorem d_ClassBook_fillShares_29 : decode c_ClassBook_fillShares 29 = .ok (.aload_n 0, 1) := by decide +kernel
theorem d_ClassBook_fillShares_30 : decode c_ClassBook_fillShares 30 = .ok (.getfield 37, 3) := by decide +kernel
theorem d_ClassBook_fillShares_33 : decode c_ClassBook_fillShares 33 = .ok (.iload_n 2, 1) := by decide +kernel
theorem d_ClassBook_fillShares_34 : decode c_ClassBook_fillShares 34 = .ok (.aload_n 0, 1) := by decide +kernel
theorem d_ClassBook_fillShares_35 : decode c_ClassBook_fillShares 35 = .ok (.getfield 34, 3) := by decide +kernel
theorem d_ClassBook_fillShares_38 : decode c_ClassBook_fillShares 38 = .ok (.iload_n 2, 1) := by decide +kernel
theorem d_ClassBook_fillShares_39 : decode c_ClassBook_fillShares 39 = .ok (.iaload, 1) := by decide +kernel
theorem d_ClassBook_fillShares_40 : decode c_ClassBook_fillShares 40 = .ok (.iconst (-1), 1) := by decide +kernel
theorem d_ClassBook_fillShares_41 : decode c_ClassBook_fillShares 41 = .ok (.if_icmp .ne 7, 3) := by decide +kernel
theorem d_ClassBook_fillShares_44 : decode c_ClassBook_fillShares 44 = .ok (.iconst 0, 1) := by decide +kernel
theorem d_ClassBook_fillShares_45 : decode c_ClassBook_fillShares 45 = .ok (.goto 17, 3) := by decide +kernel
theorem d_ClassBook_fillShares_48 : decode c_ClassBook_fillShares 48 = .ok (.aload_n 0, 1) := by decide +kernel
theorem d_ClassBook_fillShares_49 : decode c_ClassBook_fillShares 49 = .ok (.getfield 23, 3) := by decide +kernel
theorem d_ClassBook_fillShares_52 : decode c_ClassBook_fillShares 52 = .ok (.iload_n 2, 1) := by decide +kernel
theorem d_ClassBook_fillShares_53 : decode c_ClassBook_fillShares 53 = .ok (.aload_n 0, 1) := by decide +kernel
theorem d_ClassBook_fillShares_54 : decode c_ClassBook_fillShares 54 = .ok (.getfield 59, 3) := by decide +kernel
theorem d_ClassBook_fillShares_57 : decode c_ClassBook_fillShares 57 = .ok (.ishl, 1) := by decide +kernel
theorem d_ClassBook_fillShares_58 : decode c_ClassBook_fillShares 58 = .ok (.iload_n 1, 1) := by decide +kernel
theorem d_ClassBook_fillShares_59 : decode c_ClassBook_fillShares 59 = .ok (.invokevirtual 163, 3) := by decide +kernel
theorem d_ClassBook_fillShares_62 : decode c_ClassBook_fillShares 62 = .ok (.iastore, 1) := by decide +kernel
theorem d_ClassBook_fillShares_63 : decode c_ClassBook_fillShares 63 = .ok (.iinc 2 1, 3) := by decide +kernel
theorem d_ClassBook_fillShares_66 : decode c_ClassBook_fillShares 66 = .ok (.goto (-47), 3) := by decide +kernel
theorem d_ClassBook_fillShares_69 : decode c_ClassBook_fillShares 69 = .ok (.return_, 1) := by decide +kernel
theorem d_ClassBook_atLeast_0 : decode c_ClassBook_atLeast 0 = .ok (.aload_n 0, 1) := by decide +kernel
theorem d_ClassBook_atLeast_1 : decode c_ClassBook_atLeast 1 = .ok (.arraylength, 1) := by decide +kernel
theorem d_ClassBook_atLeast_2 : decode c_ClassBook_atLeast 2 = .ok (.iload_n 1, 1) := by decide +kernel
theorem d_ClassBook_atLeast_3 : decode c_ClassBook_atLeast 3 = .ok (.if_icmp .lt 7, 3) := by decide +kernel
theorem d_ClassBook_atLeast_6 : decode c_ClassBook_atLeast 6 = .ok (.aload_n 0, 1) := by decide +kernel
theorem d_ClassBook_atLeast_7 : decode c_ClassBook_atLeast 7 = .ok (.goto 13, 3) := by decide +kernel
theorem d_ClassBook_atLeast_10 : decode c_ClassBook_atLeast 10 = .ok (.iload_n 1, 1) := by decide +kernel
theorem d_ClassBook_atLeast_11 : decode c_ClassBook_atLeast 11 = .ok (.iconst 2, 1) := by decide +kernel
theorem d_ClassBook_atLeast_12 : decode c_ClassBook_atLeast 12 = .ok (.aload_n 0, 1) := by decide +kernel
theorem d_ClassBook_atLeast_13 : decode c_ClassBook_atLeast 13 = .ok (.arraylength, 1) := by decide +kernel
theorem d_ClassBook_atLeast_14 : decode c_ClassBook_atLeast 14 = .ok (.imul, 1) := by decide +kernel
theorem d_ClassBook_atLeast_15 : decode c_ClassBook_atLeast 15 = .ok (.invokestatic 167, 3) := by decide +kernel
theorem d_ClassBook_atLeast_18 : decode c_ClassBook_atLeast 18 = .ok (.newarray .int, 2) := by decide +kernel
theorem d_ClassBook_atLeast_20 : decode c_ClassBook_atLeast 20 = .ok (.areturn, 1) := by decide +kernel
theorem d_ClassBook_ways_0 : decode c_ClassBook_ways 0 = .ok (.iload_n 1, 1) := by decide +kernel
theorem d_ClassBook_ways_1 : decode c_ClassBook_ways 1 = .ok (.iconst 1, 1) := by decide +kernel
theorem d_ClassBook_ways_2 : decode c_ClassBook_ways 2 = .ok (.if_icmp .gt 34, 3) := by decide +kernel
theorem d_ClassBook_ways_5 : decode c_ClassBook_ways 5 = .ok (.aload_n 0, 1) := by decide +kernel
theorem d_ClassBook_ways_6 : decode c_ClassBook_ways 6 = .ok (.getfield 34, 3) := by decide +kernel
theorem d_ClassBook_ways_9 : decode c_ClassBook_ways 9 = .ok (.iload_n 2, 1) := by decide +kernel
theorem d_ClassBook_ways_10 : decode c_ClassBook_ways 10 = .ok (.aload_n 0, 1) := by decide +kernel
theorem d_ClassBook_ways_11 : decode c_ClassBook_ways 11 = .ok (.getfield 59, 3) := by decide +kernel
theorem d_ClassBook_ways_14 : decode c_ClassBook_ways 14 = .ok (.iushr, 1) := by decide +kernel
theorem d_ClassBook_ways_15 : decode c_ClassBook_ways 15 = .ok (.iaload, 1) := by decide +kernel
theorem d_ClassBook_ways_16 : decode c_ClassBook_ways 16 = .ok (.istore 4, 2) := by decide +kernel
theorem d_ClassBook_ways_18 : decode c_ClassBook_ways 18 = .ok (.iload 4, 2) := by decide +kernel
theorem d_ClassBook_ways_20 : decode c_ClassBook_ways 20 = .ok (.iconst (-1), 1) := by decide +kernel
theorem d_ClassBook_ways_21 : decode c_ClassBook_ways 21 = .ok (.if_icmp .eq 13, 3) := by decide +kernel
theorem d_ClassBook_ways_24 : decode c_ClassBook_ways 24 = .ok (.iload 4, 2) := by decide +kernel
theorem d_ClassBook_ways_26 : decode c_ClassBook_ways 26 = .ok (.iload_n 3, 1) := by decide +kernel
theorem d_ClassBook_ways_27 : decode c_ClassBook_ways 27 = .ok (.if_icmp .gt 7, 3) := by decide +kernel
theorem d_ClassBook_ways_30 : decode c_ClassBook_ways 30 = .ok (.iconst 1, 1) := by decide +kernel
theorem d_ClassBook_ways_31 : decode c_ClassBook_ways 31 = .ok (.goto 4, 3) := by decide +kernel
theorem d_ClassBook_ways_34 : decode c_ClassBook_ways 34 = .ok (.iconst 0, 1) := by decide +kernel
theorem d_ClassBook_ways_35 : decode c_ClassBook_ways 35 = .ok (.ireturn, 1) := by decide +kernel
theorem d_ClassBook_ways_36 : decode c_ClassBook_ways 36 = .ok (.aload_n 0, 1) := by decide +kernel
theorem d_ClassBook_ways_37 : decode c_ClassBook_ways 37 = .ok (.iload_n 1, 1) := by decide +kernel
theorem d_ClassBook_ways_38 : decode c_ClassBook_ways 38 = .ok (.iload_n 2, 1) := by decide +kernel
theorem d_ClassBook_ways_39 : decode c_ClassBook_ways 39 = .ok (.iload_n 3, 1) := by decide +kernel
theorem d_ClassBook_ways_40 : decode c_ClassBook_ways 40 = .ok (.invokevirtual 172, 3) := by decide +kernel
theorem d_ClassBook_ways_43 : decode c_ClassBook_ways 43 = .ok (.istore 4, 2) := by decide +kernel
theorem d_ClassBook_ways_45 : decode c_ClassBook_ways 45 = .ok (.aload_n 0, 1) := by decide +kernel
theorem d_ClassBook_ways_46 : decode c_ClassBook_ways 46 = .ok (.getfield 40, 3) := by decide +kernel
theorem d_ClassBook_ways_49 : decode c_ClassBook_ways 49 = .ok (.iload 4, 2) := by decide +kernel
theorem d_ClassBook_ways_51 : decode c_ClassBook_ways 51 = .ok (.iaload, 1) := by decide +kernel
theorem d_ClassBook_ways_52 : decode c_ClassBook_ways 52 = .ok (.iconst (-1), 1) := by decide +kernel
theorem d_ClassBook_ways_53 : decode c_ClassBook_ways 53 = .ok (.if_icmp .ne 18, 3) := by decide +kernel
theorem d_ClassBook_ways_56 : decode c_ClassBook_ways 56 = .ok (.aload_n 0, 1) := by decide +kernel
theorem d_ClassBook_ways_57 : decode c_ClassBook_ways 57 = .ok (.getfield 40, 3) := by decide +kernel
theorem d_ClassBook_ways_60 : decode c_ClassBook_ways 60 = .ok (.iload 4, 2) := by decide +kernel
theorem d_ClassBook_ways_62 : decode c_ClassBook_ways 62 = .ok (.aload_n 0, 1) := by decide +kernel
theorem d_ClassBook_ways_63 : decode c_ClassBook_ways 63 = .ok (.iload_n 1, 1) := by decide +kernel
theorem d_ClassBook_ways_64 : decode c_ClassBook_ways 64 = .ok (.iload_n 2, 1) := by decide +kernel
theorem d_ClassBook_ways_65 : decode c_ClassBook_ways 65 = .ok (.iload_n 3, 1) := by decide +kernel
theorem d_ClassBook_ways_66 : decode c_ClassBook_ways 66 = .ok (.iconst 0, 1) := by decide +kernel
theorem d_ClassBook_ways_67 : decode c_ClassBook_ways 67 = .ok (.invokevirtual 118, 3) := by decide +kernel
theorem d_ClassBook_ways_70 : decode c_ClassBook_ways 70 = .ok (.iastore, 1) := by decide +kernel
theorem d_ClassBook_ways_71 : decode c_ClassBook_ways 71 = .ok (.aload_n 0, 1) := by decide +kernel
theorem d_ClassBook_ways_72 : decode c_ClassBook_ways 72 = .ok (.getfield 40, 3) := by decide +kernel
theorem d_ClassBook_ways_75 : decode c_ClassBook_ways 75 = .ok (.iload 4, 2) := by decide +kernel
theorem d_ClassBook_ways_77 : decode c_ClassBook_ways 77 = .ok (.iaload, 1) := by decide +kernel
theorem d_ClassBook_ways_78 : decode c_ClassBook_ways 78 = .ok (.ireturn, 1) := by decide +kernel
theorem d_ClassBook_slotOf_0 : decode c_ClassBook_slotOf 0 = .ok (.iload_n 2, 1) := by decide +kernel
theorem d_ClassBook_slotOf_1 : decode c_ClassBook_slotOf 1 = .ok (.aload_n 0, 1) := by decide +kernel
theorem d_ClassBook_slotOf_2 : decode c_ClassBook_slotOf 2 = .ok (.getfield 59, 3) := by decide +kernel
theorem d_ClassBook_slotOf_5 : decode c_ClassBook_slotOf 5 = .ok (.iushr, 1) := by decide +kernel
theorem d_ClassBook_slotOf_6 : decode c_ClassBook_slotOf 6 = .ok (.aload_n 0, 1) := by decide +kernel
theorem d_ClassBook_slotOf_7 : decode c_ClassBook_slotOf 7 = .ok (.getfield 62, 3) := by decide +kernel
theorem d_ClassBook_slotOf_10 : decode c_ClassBook_slotOf 10 = .ok (.iconst 1, 1) := by decide +kernel
theorem d_ClassBook_slotOf_11 : decode c_ClassBook_slotOf 11 = .ok (.isub, 1) := by decide +kernel
theorem d_ClassBook_slotOf_12 : decode c_ClassBook_slotOf 12 = .ok (.iand, 1) := by decide +kernel
theorem d_ClassBook_slotOf_13 : decode c_ClassBook_slotOf 13 = .ok (.istore 4, 2) := by decide +kernel
theorem d_ClassBook_slotOf_15 : decode c_ClassBook_slotOf 15 = .ok (.iload_n 1, 1) := by decide +kernel
theorem d_ClassBook_slotOf_16 : decode c_ClassBook_slotOf 16 = .ok (.iconst 2, 1) := by decide +kernel
theorem d_ClassBook_slotOf_17 : decode c_ClassBook_slotOf 17 = .ok (.isub, 1) := by decide +kernel
theorem d_ClassBook_slotOf_18 : decode c_ClassBook_slotOf 18 = .ok (.aload_n 0, 1) := by decide +kernel
theorem d_ClassBook_slotOf_19 : decode c_ClassBook_slotOf 19 = .ok (.getfield 62, 3) := by decide +kernel
theorem d_ClassBook_slotOf_22 : decode c_ClassBook_slotOf 22 = .ok (.imul, 1) := by decide +kernel
theorem d_ClassBook_slotOf_23 : decode c_ClassBook_slotOf 23 = .ok (.iload 4, 2) := by decide +kernel
theorem d_ClassBook_slotOf_25 : decode c_ClassBook_slotOf 25 = .ok (.iadd, 1) := by decide +kernel
theorem d_ClassBook_slotOf_26 : decode c_ClassBook_slotOf 26 = .ok (.aload_n 0, 1) := by decide +kernel
theorem d_ClassBook_slotOf_27 : decode c_ClassBook_slotOf 27 = .ok (.getfield 73, 3) := by decide +kernel
theorem d_ClassBook_slotOf_30 : decode c_ClassBook_slotOf 30 = .ok (.iconst 1, 1) := by decide +kernel
theorem d_ClassBook_slotOf_31 : decode c_ClassBook_slotOf 31 = .ok (.iadd, 1) := by decide +kernel
theorem d_ClassBook_slotOf_32 : decode c_ClassBook_slotOf 32 = .ok (.imul, 1) := by decide +kernel
theorem d_ClassBook_slotOf_33 : decode c_ClassBook_slotOf 33 = .ok (.iload_n 3, 1) := by decide +kernel
theorem d_ClassBook_slotOf_34 : decode c_ClassBook_slotOf 34 = .ok (.iadd, 1) := by decide +kernel
theorem d_ClassBook_slotOf_35 : decode c_ClassBook_slotOf 35 = .ok (.ireturn, 1) := by decide +kernel
theorem d_ClassBook_waysAhead_0 : decode c_ClassBook_waysAhead 0 = .ok (.iconst 0, 1) := by decide +kernel
theorem d_ClassBook_waysAhead_1 : decode c_ClassBook_waysAhead 1 = .ok (.istore 5, 2) := by decide +kernel
theorem d_ClassBook_waysAhead_3 : decode c_ClassBook_waysAhead 3 = .ok (.iload_n 2, 1) := by decide +kernel
theorem d_ClassBook_waysAhead_4 : decode c_ClassBook_waysAhead 4 = .ok (.istore 6, 2) := by decide +kernel
theorem d_ClassBook_waysAhead_6 : decode c_ClassBook_waysAhead 6 = .ok (.iload_n 2, 1) := by decide +kernel
theorem d_ClassBook_waysAhead_7 : decode c_ClassBook_waysAhead 7 = .ok (.invokestatic 175, 3) := by decide +kernel
theorem d_ClassBook_waysAhead_10 : decode c_ClassBook_waysAhead 10 = .ok (.istore 7, 2) := by decide +kernel
theorem d_ClassBook_waysAhead_12 : decode c_ClassBook_waysAhead 12 = .ok (.iconst 0, 1) := by decide +kernel
theorem d_ClassBook_waysAhead_13 : decode c_ClassBook_waysAhead 13 = .ok (.istore 8, 2) := by decide +kernel
theorem d_ClassBook_waysAhead_15 : decode c_ClassBook_waysAhead 15 = .ok (.iload 8, 2) := by decide +kernel
theorem d_ClassBook_waysAhead_17 : decode c_ClassBook_waysAhead 17 = .ok (.iload 7, 2) := by decide +kernel
theorem d_ClassBook_waysAhead_19 : decode c_ClassBook_waysAhead 19 = .ok (.if_icmp .ge 38, 3) := by decide +kernel
theorem d_ClassBook_waysAhead_22 : decode c_ClassBook_waysAhead 22 = .ok (.iload 6, 2) := by decide +kernel
theorem d_ClassBook_waysAhead_24 : decode c_ClassBook_waysAhead 24 = .ok (.iload 4, 2) := by decide +kernel
theorem d_ClassBook_waysAhead_26 : decode c_ClassBook_waysAhead 26 = .ok (.if_icmp .eq 31, 3) := by decide +kernel
theorem d_ClassBook_waysAhead_29 : decode c_ClassBook_waysAhead 29 = .ok (.iload 5, 2) := by decide +kernel
theorem d_ClassBook_waysAhead_31 : decode c_ClassBook_waysAhead 31 = .ok (.aload_n 0, 1) := by decide +kernel
theorem d_ClassBook_waysAhead_32 : decode c_ClassBook_waysAhead 32 = .ok (.iload_n 1, 1) := by decide +kernel
theorem d_ClassBook_waysAhead_33 : decode c_ClassBook_waysAhead 33 = .ok (.iload_n 2, 1) := by decide +kernel
theorem d_ClassBook_waysAhead_34 : decode c_ClassBook_waysAhead 34 = .ok (.iload_n 3, 1) := by decide +kernel
theorem d_ClassBook_waysAhead_35 : decode c_ClassBook_waysAhead 35 = .ok (.iload 6, 2) := by decide +kernel
theorem d_ClassBook_waysAhead_37 : decode c_ClassBook_waysAhead 37 = .ok (.invokevirtual 178, 3) := by decide +kernel
theorem d_ClassBook_waysAhead_40 : decode c_ClassBook_waysAhead 40 = .ok (.iadd, 1) := by decide +kernel
theorem d_ClassBook_waysAhead_41 : decode c_ClassBook_waysAhead 41 = .ok (.istore 5, 2) := by decide +kernel
theorem d_ClassBook_waysAhead_43 : decode c_ClassBook_waysAhead 43 = .ok (.iload 6, 2) := by decide +kernel
theorem d_ClassBook_waysAhead_45 : decode c_ClassBook_waysAhead 45 = .ok (.iload_n 2, 1) := by decide +kernel
theorem d_ClassBook_waysAhead_46 : decode c_ClassBook_waysAhead 46 = .ok (.invokestatic 181, 3) := by decide +kernel
theorem d_ClassBook_waysAhead_49 : decode c_ClassBook_waysAhead 49 = .ok (.istore 6, 2) := by decide +kernel
theorem d_ClassBook_waysAhead_51 : decode c_ClassBook_waysAhead 51 = .ok (.iinc 8 1, 3) := by decide +kernel
theorem d_ClassBook_waysAhead_54 : decode c_ClassBook_waysAhead 54 = .ok (.goto (-39), 3) := by decide +kernel
theorem d_ClassBook_waysAhead_57 : decode c_ClassBook_waysAhead 57 = .ok (.iload 5, 2) := by decide +kernel
theorem d_ClassBook_waysAhead_59 : decode c_ClassBook_waysAhead 59 = .ok (.ireturn, 1) := by decide +kernel
theorem d_ClassBook_waysWith_0 : decode c_ClassBook_waysWith 0 = .ok (.aload_n 0, 1) := by decide +kernel
theorem d_ClassBook_waysWith_1 : decode c_ClassBook_waysWith 1 = .ok (.getfield 34, 3) := by decide +kernel
theorem d_ClassBook_waysWith_4 : decode c_ClassBook_waysWith 4 = .ok (.iload 4, 2) := by decide +kernel
theorem d_ClassBook_waysWith_6 : decode c_ClassBook_waysWith 6 = .ok (.aload_n 0, 1) := by decide +kernel
theorem d_ClassBook_waysWith_7 : decode c_ClassBook_waysWith 7 = .ok (.getfield 59, 3) := by decide +kernel
theorem d_ClassBook_waysWith_10 : decode c_ClassBook_waysWith 10 = .ok (.iushr, 1) := by decide +kernel
theorem d_ClassBook_waysWith_11 : decode c_ClassBook_waysWith 11 = .ok (.iaload, 1) := by decide +kernel
theorem d_ClassBook_waysWith_12 : decode c_ClassBook_waysWith 12 = .ok (.istore 5, 2) := by decide +kernel
theorem d_ClassBook_waysWith_14 : decode c_ClassBook_waysWith 14 = .ok (.iload_n 1, 1) := by decide +kernel
theorem d_ClassBook_waysWith_15 : decode c_ClassBook_waysWith 15 = .ok (.iconst 1, 1) := by decide +kernel
theorem d_ClassBook_waysWith_16 : decode c_ClassBook_waysWith 16 = .ok (.if_icmp .le 15, 3) := by decide +kernel
theorem d_ClassBook_waysWith_19 : decode c_ClassBook_waysWith 19 = .ok (.iload 5, 2) := by decide +kernel
theorem d_ClassBook_waysWith_21 : decode c_ClassBook_waysWith 21 = .ok (.iconst (-1), 1) := by decide +kernel
theorem d_ClassBook_waysWith_22 : decode c_ClassBook_waysWith 22 = .ok (.if_icmp .eq 9, 3) := by decide +kernel
theorem d_ClassBook_waysWith_25 : decode c_ClassBook_waysWith 25 = .ok (.iload 5, 2) := by decide +kernel
theorem d_ClassBook_waysWith_27 : decode c_ClassBook_waysWith 27 = .ok (.iload_n 3, 1) := by decide +kernel
theorem d_ClassBook_waysWith_28 : decode c_ClassBook_waysWith 28 = .ok (.if_icmp .le 5, 3) := by decide +kernel
theorem d_ClassBook_waysWith_31 : decode c_ClassBook_waysWith 31 = .ok (.iconst 0, 1) := by decide +kernel
theorem d_ClassBook_waysWith_32 : decode c_ClassBook_waysWith 32 = .ok (.ireturn, 1) := by decide +kernel
theorem d_ClassBook_waysWith_33 : decode c_ClassBook_waysWith 33 = .ok (.aload_n 0, 1) := by decide +kernel
theorem d_ClassBook_waysWith_34 : decode c_ClassBook_waysWith 34 = .ok (.iload_n 1, 1) := by decide +kernel
theorem d_ClassBook_waysWith_35 : decode c_ClassBook_waysWith 35 = .ok (.iconst 1, 1) := by decide +kernel
theorem d_ClassBook_waysWith_36 : decode c_ClassBook_waysWith 36 = .ok (.isub, 1) := by decide +kernel
theorem d_ClassBook_waysWith_37 : decode c_ClassBook_waysWith 37 = .ok (.iload_n 2, 1) := by decide +kernel
theorem d_ClassBook_waysWith_38 : decode c_ClassBook_waysWith 38 = .ok (.iload 4, 2) := by decide +kernel
theorem d_ClassBook_waysWith_40 : decode c_ClassBook_waysWith 40 = .ok (.iconst (-1), 1) := by decide +kernel
theorem d_ClassBook_waysWith_41 : decode c_ClassBook_waysWith 41 = .ok (.ixor, 1) := by decide +kernel
theorem d_ClassBook_waysWith_42 : decode c_ClassBook_waysWith 42 = .ok (.iand, 1) := by decide +kernel
theorem d_ClassBook_waysWith_43 : decode c_ClassBook_waysWith 43 = .ok (.iload_n 3, 1) := by decide +kernel
theorem d_ClassBook_waysWith_44 : decode c_ClassBook_waysWith 44 = .ok (.iload 5, 2) := by decide +kernel
theorem d_ClassBook_waysWith_46 : decode c_ClassBook_waysWith 46 = .ok (.isub, 1) := by decide +kernel
theorem d_ClassBook_waysWith_47 : decode c_ClassBook_waysWith 47 = .ok (.invokevirtual 93, 3) := by decide +kernel
theorem d_ClassBook_waysWith_50 : decode c_ClassBook_waysWith 50 = .ok (.ireturn, 1) := by decide +kernel
theorem d_ClassBook_choicesOf_0 : decode c_ClassBook_choicesOf 0 = .ok (.iload_n 0, 1) := by decide +kernel
theorem d_ClassBook_choicesOf_1 : decode c_ClassBook_choicesOf 1 = .ok (.ifCond .ne 7, 3) := by decide +kernel
theorem d_ClassBook_choicesOf_4 : decode c_ClassBook_choicesOf 4 = .ok (.iconst 0, 1) := by decide +kernel
theorem d_ClassBook_choicesOf_5 : decode c_ClassBook_choicesOf 5 = .ok (.goto 11, 3) := by decide +kernel
theorem d_ClassBook_choicesOf_8 : decode c_ClassBook_choicesOf 8 = .ok (.iconst 1, 1) := by decide +kernel
theorem d_ClassBook_choicesOf_9 : decode c_ClassBook_choicesOf 9 = .ok (.iload_n 0, 1) := by decide +kernel
theorem d_ClassBook_choicesOf_10 : decode c_ClassBook_choicesOf 10 = .ok (.invokestatic 147, 3) := by decide +kernel
theorem d_ClassBook_choicesOf_13 : decode c_ClassBook_choicesOf 13 = .ok (.iconst 1, 1) := by decide +kernel
theorem d_ClassBook_choicesOf_14 : decode c_ClassBook_choicesOf 14 = .ok (.isub, 1) := by decide +kernel
theorem d_ClassBook_choicesOf_15 : decode c_ClassBook_choicesOf 15 = .ok (.ishl, 1) := by decide +kernel
theorem d_ClassBook_choicesOf_16 : decode c_ClassBook_choicesOf 16 = .ok (.ireturn, 1) := by decide +kernel
theorem d_ClassBook_following_0 : decode c_ClassBook_following 0 = .ok (.iload_n 0, 1) := by decide +kernel
theorem d_ClassBook_following_1 : decode c_ClassBook_following 1 = .ok (.iconst 1, 1) := by decide +kernel
theorem d_ClassBook_following_2 : decode c_ClassBook_following 2 = .ok (.isub, 1) := by decide +kernel
theorem d_ClassBook_following_3 : decode c_ClassBook_following 3 = .ok (.iload_n 1, 1) := by decide +kernel
theorem d_ClassBook_following_4 : decode c_ClassBook_following 4 = .ok (.iand, 1) := by decide +kernel
theorem d_ClassBook_following_5 : decode c_ClassBook_following 5 = .ok (.ireturn, 1) := by decide +kernel
theorem d_ClassBook_choose_0 : decode c_ClassBook_choose 0 = .ok (.aload_n 0, 1) := by decide +kernel
theorem d_ClassBook_choose_1 : decode c_ClassBook_choose 1 = .ok (.getfield 53, 3) := by decide +kernel
theorem d_ClassBook_choose_4 : decode c_ClassBook_choose 4 = .ok (.istore_n 2, 1) := by decide +kernel
theorem d_ClassBook_choose_5 : decode c_ClassBook_choose 5 = .ok (.aload_n 0, 1) := by decide +kernel
theorem d_ClassBook_choose_6 : decode c_ClassBook_choose 6 = .ok (.getfield 73, 3) := by decide +kernel
theorem d_ClassBook_choose_9 : decode c_ClassBook_choose 9 = .ok (.istore_n 3, 1) := by decide +kernel
theorem d_ClassBook_choose_10 : decode c_ClassBook_choose 10 = .ok (.iload_n 1, 1) := by decide +kernel
theorem d_ClassBook_choose_11 : decode c_ClassBook_choose 11 = .ok (.istore 4, 2) := by decide +kernel
theorem d_ClassBook_choose_13 : decode c_ClassBook_choose 13 = .ok (.aload_n 0, 1) := by decide +kernel
theorem d_ClassBook_choose_14 : decode c_ClassBook_choose 14 = .ok (.getfield 15, 3) := by decide +kernel
theorem d_ClassBook_choose_17 : decode c_ClassBook_choose 17 = .ok (.getfield 80, 3) := by decide +kernel
theorem d_ClassBook_choose_20 : decode c_ClassBook_choose 20 = .ok (.istore 5, 2) := by decide +kernel
theorem d_ClassBook_choose_22 : decode c_ClassBook_choose 22 = .ok (.iload 5, 2) := by decide +kernel
theorem d_ClassBook_choose_24 : decode c_ClassBook_choose 24 = .ok (.iconst 1, 1) := by decide +kernel
theorem d_ClassBook_choose_25 : decode c_ClassBook_choose 25 = .ok (.if_icmp .le 110, 3) := by decide +kernel
theorem d_ClassBook_choose_28 : decode c_ClassBook_choose 28 = .ok (.iload_n 2, 1) := by decide +kernel
theorem d_ClassBook_choose_29 : decode c_ClassBook_choose 29 = .ok (.istore 6, 2) := by decide +kernel
theorem d_ClassBook_choose_31 : decode c_ClassBook_choose 31 = .ok (.iload_n 2, 1) := by decide +kernel
theorem d_ClassBook_choose_32 : decode c_ClassBook_choose 32 = .ok (.invokestatic 175, 3) := by decide +kernel
theorem d_ClassBook_choose_35 : decode c_ClassBook_choose 35 = .ok (.istore 7, 2) := by decide +kernel
theorem d_ClassBook_choose_37 : decode c_ClassBook_choose 37 = .ok (.iconst 0, 1) := by decide +kernel
theorem d_ClassBook_choose_38 : decode c_ClassBook_choose 38 = .ok (.istore 8, 2) := by decide +kernel
theorem d_ClassBook_choose_40 : decode c_ClassBook_choose 40 = .ok (.iload 8, 2) := by decide +kernel
theorem d_ClassBook_choose_42 : decode c_ClassBook_choose 42 = .ok (.iload 7, 2) := by decide +kernel
theorem d_ClassBook_choose_44 : decode c_ClassBook_choose 44 = .ok (.if_icmp .ge 46, 3) := by decide +kernel
theorem d_ClassBook_choose_47 : decode c_ClassBook_choose 47 = .ok (.aload_n 0, 1) := by decide +kernel
theorem d_ClassBook_choose_48 : decode c_ClassBook_choose 48 = .ok (.iload 5, 2) := by decide +kernel
theorem d_ClassBook_choose_50 : decode c_ClassBook_choose 50 = .ok (.iload_n 2, 1) := by decide +kernel
theorem d_ClassBook_choose_51 : decode c_ClassBook_choose 51 = .ok (.iload_n 3, 1) := by decide +kernel
theorem d_ClassBook_choose_52 : decode c_ClassBook_choose 52 = .ok (.iload 6, 2) := by decide +kernel
theorem d_ClassBook_choose_54 : decode c_ClassBook_choose 54 = .ok (.invokevirtual 178, 3) := by decide +kernel
theorem d_ClassBook_choose_57 : decode c_ClassBook_choose 57 = .ok (.istore 9, 2) := by decide +kernel
theorem d_ClassBook_choose_59 : decode c_ClassBook_choose 59 = .ok (.iload 4, 2) := by decide +kernel
theorem d_ClassBook_choose_61 : decode c_ClassBook_choose 61 = .ok (.iload 9, 2) := by decide +kernel
theorem d_ClassBook_choose_63 : decode c_ClassBook_choose 63 = .ok (.if_icmp .ge 6, 3) := by decide +kernel
theorem d_ClassBook_choose_66 : decode c_ClassBook_choose 66 = .ok (.goto 24, 3) := by decide +kernel
theorem d_ClassBook_choose_69 : decode c_ClassBook_choose 69 = .ok (.iload 4, 2) := by decide +kernel
theorem d_ClassBook_choose_71 : decode c_ClassBook_choose 71 = .ok (.iload 9, 2) := by decide +kernel
theorem d_ClassBook_choose_73 : decode c_ClassBook_choose 73 = .ok (.isub, 1) := by decide +kernel
theorem d_ClassBook_choose_74 : decode c_ClassBook_choose 74 = .ok (.istore 4, 2) := by decide +kernel
theorem d_ClassBook_choose_76 : decode c_ClassBook_choose 76 = .ok (.iload 6, 2) := by decide +kernel
theorem d_ClassBook_choose_78 : decode c_ClassBook_choose 78 = .ok (.iload_n 2, 1) := by decide +kernel
theorem d_ClassBook_choose_79 : decode c_ClassBook_choose 79 = .ok (.invokestatic 181, 3) := by decide +kernel
theorem d_ClassBook_choose_82 : decode c_ClassBook_choose 82 = .ok (.istore 6, 2) := by decide +kernel
theorem d_ClassBook_choose_84 : decode c_ClassBook_choose 84 = .ok (.iinc 8 1, 3) := by decide +kernel
theorem d_ClassBook_choose_87 : decode c_ClassBook_choose 87 = .ok (.goto (-47), 3) := by decide +kernel
theorem d_ClassBook_choose_90 : decode c_ClassBook_choose 90 = .ok (.aload_n 0, 1) := by decide +kernel
theorem d_ClassBook_choose_91 : decode c_ClassBook_choose 91 = .ok (.getfield 31, 3) := by decide +kernel
theorem d_ClassBook_choose_94 : decode c_ClassBook_choose 94 = .ok (.aload_n 0, 1) := by decide +kernel
theorem d_ClassBook_choose_95 : decode c_ClassBook_choose 95 = .ok (.getfield 15, 3) := by decide +kernel
theorem d_ClassBook_choose_98 : decode c_ClassBook_choose 98 = .ok (.getfield 80, 3) := by decide +kernel
theorem d_ClassBook_choose_101 : decode c_ClassBook_choose 101 = .ok (.iload 5, 2) := by decide +kernel
theorem d_ClassBook_choose_103 : decode c_ClassBook_choose 103 = .ok (.isub, 1) := by decide +kernel
theorem d_ClassBook_choose_104 : decode c_ClassBook_choose 104 = .ok (.iload 6, 2) := by decide +kernel
theorem d_ClassBook_choose_106 : decode c_ClassBook_choose 106 = .ok (.iastore, 1) := by decide +kernel
theorem d_ClassBook_choose_107 : decode c_ClassBook_choose 107 = .ok (.iload_n 2, 1) := by decide +kernel
theorem d_ClassBook_choose_108 : decode c_ClassBook_choose 108 = .ok (.iload 6, 2) := by decide +kernel
theorem d_ClassBook_choose_110 : decode c_ClassBook_choose 110 = .ok (.iconst (-1), 1) := by decide +kernel
theorem d_ClassBook_choose_111 : decode c_ClassBook_choose 111 = .ok (.ixor, 1) := by decide +kernel
theorem d_ClassBook_choose_112 : decode c_ClassBook_choose 112 = .ok (.iand, 1) := by decide +kernel
theorem d_ClassBook_choose_113 : decode c_ClassBook_choose 113 = .ok (.istore_n 2, 1) := by decide +kernel
theorem d_ClassBook_choose_114 : decode c_ClassBook_choose 114 = .ok (.iload_n 3, 1) := by decide +kernel
theorem d_ClassBook_choose_115 : decode c_ClassBook_choose 115 = .ok (.aload_n 0, 1) := by decide +kernel
theorem d_ClassBook_choose_116 : decode c_ClassBook_choose 116 = .ok (.getfield 34, 3) := by decide +kernel
theorem d_ClassBook_choose_119 : decode c_ClassBook_choose 119 = .ok (.iload 6, 2) := by decide +kernel
theorem d_ClassBook_choose_121 : decode c_ClassBook_choose 121 = .ok (.aload_n 0, 1) := by decide +kernel
theorem d_ClassBook_choose_122 : decode c_ClassBook_choose 122 = .ok (.getfield 59, 3) := by decide +kernel
theorem d_ClassBook_choose_125 : decode c_ClassBook_choose 125 = .ok (.iushr, 1) := by decide +kernel
theorem d_ClassBook_choose_126 : decode c_ClassBook_choose 126 = .ok (.iaload, 1) := by decide +kernel
theorem d_ClassBook_choose_127 : decode c_ClassBook_choose 127 = .ok (.isub, 1) := by decide +kernel
theorem d_ClassBook_choose_128 : decode c_ClassBook_choose 128 = .ok (.istore_n 3, 1) := by decide +kernel
theorem d_ClassBook_choose_129 : decode c_ClassBook_choose 129 = .ok (.iinc 5 (-1), 3) := by decide +kernel
theorem d_ClassBook_choose_132 : decode c_ClassBook_choose 132 = .ok (.goto (-110), 3) := by decide +kernel
theorem d_ClassBook_choose_135 : decode c_ClassBook_choose 135 = .ok (.aload_n 0, 1) := by decide +kernel
theorem d_ClassBook_choose_136 : decode c_ClassBook_choose 136 = .ok (.getfield 31, 3) := by decide +kernel
theorem d_ClassBook_choose_139 : decode c_ClassBook_choose 139 = .ok (.aload_n 0, 1) := by decide +kernel
theorem d_ClassBook_choose_140 : decode c_ClassBook_choose 140 = .ok (.getfield 15, 3) := by decide +kernel
theorem d_ClassBook_choose_143 : decode c_ClassBook_choose 143 = .ok (.getfield 80, 3) := by decide +kernel
theorem d_ClassBook_choose_146 : decode c_ClassBook_choose 146 = .ok (.iconst 1, 1) := by decide +kernel
theorem d_ClassBook_choose_147 : decode c_ClassBook_choose 147 = .ok (.isub, 1) := by decide +kernel
theorem d_ClassBook_choose_148 : decode c_ClassBook_choose 148 = .ok (.iload_n 2, 1) := by decide +kernel
theorem d_ClassBook_choose_149 : decode c_ClassBook_choose 149 = .ok (.iastore, 1) := by decide +kernel
theorem d_ClassBook_choose_150 : decode c_ClassBook_choose 150 = .ok (.return_, 1) := by decide +kernel
theorem d_ClassBook_visit_0 : decode c_ClassBook_visit 0 = .ok (.iload_n 1, 1) := by decide +kernel
theorem d_ClassBook_visit_1 : decode c_ClassBook_visit 1 = .ok (.iconst 1, 1) := by decide +kernel
theorem d_ClassBook_visit_2 : decode c_ClassBook_visit 2 = .ok (.if_icmp .gt 25, 3) := by decide +kernel
theorem d_ClassBook_visit_5 : decode c_ClassBook_visit 5 = .ok (.aload_n 0, 1) := by decide +kernel
theorem d_ClassBook_visit_6 : decode c_ClassBook_visit 6 = .ok (.getfield 31, 3) := by decide +kernel
theorem d_ClassBook_visit_9 : decode c_ClassBook_visit 9 = .ok (.aload_n 0, 1) := by decide +kernel
theorem d_ClassBook_visit_10 : decode c_ClassBook_visit 10 = .ok (.getfield 15, 3) := by decide +kernel
theorem d_ClassBook_visit_13 : decode c_ClassBook_visit 13 = .ok (.getfield 80, 3) := by decide +kernel
theorem d_ClassBook_visit_16 : decode c_ClassBook_visit 16 = .ok (.iconst 1, 1) := by decide +kernel
theorem d_ClassBook_visit_17 : decode c_ClassBook_visit 17 = .ok (.isub, 1) := by decide +kernel
theorem d_ClassBook_visit_18 : decode c_ClassBook_visit 18 = .ok (.iload_n 2, 1) := by decide +kernel
theorem d_ClassBook_visit_19 : decode c_ClassBook_visit 19 = .ok (.iastore, 1) := by decide +kernel
theorem d_ClassBook_visit_20 : decode c_ClassBook_visit 20 = .ok (.aload_n 0, 1) := by decide +kernel
theorem d_ClassBook_visit_21 : decode c_ClassBook_visit 21 = .ok (.iload 4, 2) := by decide +kernel
theorem d_ClassBook_visit_23 : decode c_ClassBook_visit 23 = .ok (.invokevirtual 184, 3) := by decide +kernel
theorem d_ClassBook_visit_26 : decode c_ClassBook_visit 26 = .ok (.return_, 1) := by decide +kernel
theorem d_ClassBook_visit_27 : decode c_ClassBook_visit 27 = .ok (.iload_n 2, 1) := by decide +kernel
theorem d_ClassBook_visit_28 : decode c_ClassBook_visit 28 = .ok (.istore 5, 2) := by decide +kernel
theorem d_ClassBook_visit_30 : decode c_ClassBook_visit 30 = .ok (.iload_n 2, 1) := by decide +kernel
theorem d_ClassBook_visit_31 : decode c_ClassBook_visit 31 = .ok (.invokestatic 175, 3) := by decide +kernel
theorem d_ClassBook_visit_34 : decode c_ClassBook_visit 34 = .ok (.istore 6, 2) := by decide +kernel
theorem d_ClassBook_visit_36 : decode c_ClassBook_visit 36 = .ok (.iconst 0, 1) := by decide +kernel
theorem d_ClassBook_visit_37 : decode c_ClassBook_visit 37 = .ok (.istore 7, 2) := by decide +kernel
theorem d_ClassBook_visit_39 : decode c_ClassBook_visit 39 = .ok (.iload 7, 2) := by decide +kernel
theorem d_ClassBook_visit_41 : decode c_ClassBook_visit 41 = .ok (.iload 6, 2) := by decide +kernel
theorem d_ClassBook_visit_43 : decode c_ClassBook_visit 43 = .ok (.if_icmp .ge 74, 3) := by decide +kernel
theorem d_ClassBook_visit_46 : decode c_ClassBook_visit 46 = .ok (.aload_n 0, 1) := by decide +kernel
theorem d_ClassBook_visit_47 : decode c_ClassBook_visit 47 = .ok (.iload_n 1, 1) := by decide +kernel
theorem d_ClassBook_visit_48 : decode c_ClassBook_visit 48 = .ok (.iload_n 2, 1) := by decide +kernel
theorem d_ClassBook_visit_49 : decode c_ClassBook_visit 49 = .ok (.iload_n 3, 1) := by decide +kernel
theorem d_ClassBook_visit_50 : decode c_ClassBook_visit 50 = .ok (.iload 5, 2) := by decide +kernel
theorem d_ClassBook_visit_52 : decode c_ClassBook_visit 52 = .ok (.invokevirtual 178, 3) := by decide +kernel
theorem d_ClassBook_visit_55 : decode c_ClassBook_visit 55 = .ok (.ifCond .le 48, 3) := by decide +kernel
theorem d_ClassBook_visit_58 : decode c_ClassBook_visit 58 = .ok (.aload_n 0, 1) := by decide +kernel
theorem d_ClassBook_visit_59 : decode c_ClassBook_visit 59 = .ok (.getfield 31, 3) := by decide +kernel
theorem d_ClassBook_visit_62 : decode c_ClassBook_visit 62 = .ok (.aload_n 0, 1) := by decide +kernel
theorem d_ClassBook_visit_63 : decode c_ClassBook_visit 63 = .ok (.getfield 15, 3) := by decide +kernel
theorem d_ClassBook_visit_66 : decode c_ClassBook_visit 66 = .ok (.getfield 80, 3) := by decide +kernel
theorem d_ClassBook_visit_69 : decode c_ClassBook_visit 69 = .ok (.iload_n 1, 1) := by decide +kernel
theorem d_ClassBook_visit_70 : decode c_ClassBook_visit 70 = .ok (.isub, 1) := by decide +kernel
theorem d_ClassBook_visit_71 : decode c_ClassBook_visit 71 = .ok (.iload 5, 2) := by decide +kernel
theorem d_ClassBook_visit_73 : decode c_ClassBook_visit 73 = .ok (.iastore, 1) := by decide +kernel
theorem d_ClassBook_visit_74 : decode c_ClassBook_visit 74 = .ok (.aload_n 0, 1) := by decide +kernel
theorem d_ClassBook_visit_75 : decode c_ClassBook_visit 75 = .ok (.iload_n 1, 1) := by decide +kernel
theorem d_ClassBook_visit_76 : decode c_ClassBook_visit 76 = .ok (.iconst 1, 1) := by decide +kernel
theorem d_ClassBook_visit_77 : decode c_ClassBook_visit 77 = .ok (.isub, 1) := by decide +kernel
theorem d_ClassBook_visit_78 : decode c_ClassBook_visit 78 = .ok (.iload_n 2, 1) := by decide +kernel
theorem d_ClassBook_visit_79 : decode c_ClassBook_visit 79 = .ok (.iload 5, 2) := by decide +kernel
theorem d_ClassBook_visit_81 : decode c_ClassBook_visit 81 = .ok (.iconst (-1), 1) := by decide +kernel
theorem d_ClassBook_visit_82 : decode c_ClassBook_visit 82 = .ok (.ixor, 1) := by decide +kernel
theorem d_ClassBook_visit_83 : decode c_ClassBook_visit 83 = .ok (.iand, 1) := by decide +kernel
theorem d_ClassBook_visit_84 : decode c_ClassBook_visit 84 = .ok (.iload_n 3, 1) := by decide +kernel
theorem d_ClassBook_visit_85 : decode c_ClassBook_visit 85 = .ok (.aload_n 0, 1) := by decide +kernel
theorem d_ClassBook_visit_86 : decode c_ClassBook_visit 86 = .ok (.getfield 34, 3) := by decide +kernel
theorem d_ClassBook_visit_89 : decode c_ClassBook_visit 89 = .ok (.iload 5, 2) := by decide +kernel
theorem d_ClassBook_visit_91 : decode c_ClassBook_visit 91 = .ok (.aload_n 0, 1) := by decide +kernel
theorem d_ClassBook_visit_92 : decode c_ClassBook_visit 92 = .ok (.getfield 59, 3) := by decide +kernel
theorem d_ClassBook_visit_95 : decode c_ClassBook_visit 95 = .ok (.iushr, 1) := by decide +kernel
theorem d_ClassBook_visit_96 : decode c_ClassBook_visit 96 = .ok (.iaload, 1) := by decide +kernel
theorem d_ClassBook_visit_97 : decode c_ClassBook_visit 97 = .ok (.isub, 1) := by decide +kernel
theorem d_ClassBook_visit_98 : decode c_ClassBook_visit 98 = .ok (.iload 4, 2) := by decide +kernel
theorem d_ClassBook_visit_100 : decode c_ClassBook_visit 100 = .ok (.invokevirtual 140, 3) := by decide +kernel
theorem d_ClassBook_visit_103 : decode c_ClassBook_visit 103 = .ok (.iload 5, 2) := by decide +kernel
theorem d_ClassBook_visit_105 : decode c_ClassBook_visit 105 = .ok (.iload_n 2, 1) := by decide +kernel
theorem d_ClassBook_visit_106 : decode c_ClassBook_visit 106 = .ok (.invokestatic 181, 3) := by decide +kernel
theorem d_ClassBook_visit_109 : decode c_ClassBook_visit 109 = .ok (.istore 5, 2) := by decide +kernel
theorem d_ClassBook_visit_111 : decode c_ClassBook_visit 111 = .ok (.iinc 7 1, 3) := by decide +kernel
theorem d_ClassBook_visit_114 : decode c_ClassBook_visit 114 = .ok (.goto (-75), 3) := by decide +kernel
theorem d_ClassBook_visit_117 : decode c_ClassBook_visit 117 = .ok (.return_, 1) := by decide +kernel
theorem d_ClassBook_note_0 : decode c_ClassBook_note 0 = .ok (.iconst 0, 1) := by decide +kernel
theorem d_ClassBook_note_1 : decode c_ClassBook_note 1 = .ok (.istore_n 2, 1) := by decide +kernel
theorem d_ClassBook_note_2 : decode c_ClassBook_note 2 = .ok (.iload_n 2, 1) := by decide +kernel
theorem d_ClassBook_note_3 : decode c_ClassBook_note 3 = .ok (.aload_n 0, 1) := by decide +kernel
theorem d_ClassBook_note_4 : decode c_ClassBook_note 4 = .ok (.getfield 15, 3) := by decide +kernel
theorem d_ClassBook_note_7 : decode c_ClassBook_note 7 = .ok (.getfield 80, 3) := by decide +kernel
theorem d_ClassBook_note_10 : decode c_ClassBook_note 10 = .ok (.if_icmp .ge 34, 3) := by decide +kernel
theorem d_ClassBook_note_13 : decode c_ClassBook_note 13 = .ok (.aload_n 0, 1) := by decide +kernel
theorem d_ClassBook_note_14 : decode c_ClassBook_note 14 = .ok (.getfield 23, 3) := by decide +kernel
theorem d_ClassBook_note_17 : decode c_ClassBook_note 17 = .ok (.getfield 187, 3) := by decide +kernel
theorem d_ClassBook_note_20 : decode c_ClassBook_note 20 = .ok (.iload_n 2, 1) := by decide +kernel
theorem d_ClassBook_note_21 : decode c_ClassBook_note 21 = .ok (.aload_n 0, 1) := by decide +kernel
theorem d_ClassBook_note_22 : decode c_ClassBook_note 22 = .ok (.getfield 37, 3) := by decide +kernel
theorem d_ClassBook_note_25 : decode c_ClassBook_note 25 = .ok (.aload_n 0, 1) := by decide +kernel
theorem d_ClassBook_note_26 : decode c_ClassBook_note 26 = .ok (.getfield 31, 3) := by decide +kernel
theorem d_ClassBook_note_29 : decode c_ClassBook_note 29 = .ok (.iload_n 2, 1) := by decide +kernel
theorem d_ClassBook_note_30 : decode c_ClassBook_note 30 = .ok (.iaload, 1) := by decide +kernel
theorem d_ClassBook_note_31 : decode c_ClassBook_note 31 = .ok (.aload_n 0, 1) := by decide +kernel
theorem d_ClassBook_note_32 : decode c_ClassBook_note 32 = .ok (.getfield 59, 3) := by decide +kernel
theorem d_ClassBook_note_35 : decode c_ClassBook_note 35 = .ok (.iushr, 1) := by decide +kernel
theorem d_ClassBook_note_36 : decode c_ClassBook_note 36 = .ok (.iaload, 1) := by decide +kernel
theorem d_ClassBook_note_37 : decode c_ClassBook_note 37 = .ok (.iastore, 1) := by decide +kernel
theorem d_ClassBook_note_38 : decode c_ClassBook_note 38 = .ok (.iinc 2 1, 3) := by decide +kernel
theorem d_ClassBook_note_41 : decode c_ClassBook_note 41 = .ok (.goto (-39), 3) := by decide +kernel
theorem d_ClassBook_note_44 : decode c_ClassBook_note 44 = .ok (.aload_n 0, 1) := by decide +kernel
theorem d_ClassBook_note_45 : decode c_ClassBook_note 45 = .ok (.getfield 23, 3) := by decide +kernel
theorem d_ClassBook_note_48 : decode c_ClassBook_note 48 = .ok (.iload_n 1, 1) := by decide +kernel
theorem d_ClassBook_note_49 : decode c_ClassBook_note 49 = .ok (.invokevirtual 188, 3) := by decide +kernel
theorem d_ClassBook_note_52 : decode c_ClassBook_note 52 = .ok (.istore_n 2, 1) := by decide +kernel
theorem d_ClassBook_note_53 : decode c_ClassBook_note 53 = .ok (.aload_n 0, 1) := by decide +kernel
theorem d_ClassBook_note_54 : decode c_ClassBook_note 54 = .ok (.getfield 27, 3) := by decide +kernel
theorem d_ClassBook_note_57 : decode c_ClassBook_note 57 = .ok (.iconst 1, 1) := by decide +kernel
theorem d_ClassBook_note_58 : decode c_ClassBook_note 58 = .ok (.iload_n 2, 1) := by decide +kernel
theorem d_ClassBook_note_59 : decode c_ClassBook_note 59 = .ok (.aload_n 0, 1) := by decide +kernel
theorem d_ClassBook_note_60 : decode c_ClassBook_note 60 = .ok (.getfield 134, 3) := by decide +kernel
theorem d_ClassBook_note_63 : decode c_ClassBook_note 63 = .ok (.invokestatic 191, 3) := by decide +kernel
theorem d_ClassBook_note_66 : decode c_ClassBook_note 66 = .ok (.iadd, 1) := by decide +kernel
theorem d_ClassBook_note_67 : decode c_ClassBook_note 67 = .ok (.dup2, 1) := by decide +kernel
theorem d_ClassBook_note_68 : decode c_ClassBook_note 68 = .ok (.iaload, 1) := by decide +kernel
theorem d_ClassBook_note_69 : decode c_ClassBook_note 69 = .ok (.iconst 1, 1) := by decide +kernel
theorem d_ClassBook_note_70 : decode c_ClassBook_note 70 = .ok (.iadd, 1) := by decide +kernel
theorem d_ClassBook_note_71 : decode c_ClassBook_note 71 = .ok (.iastore, 1) := by decide +kernel
theorem d_ClassBook_note_72 : decode c_ClassBook_note 72 = .ok (.aload_n 0, 1) := by decide +kernel
theorem d_ClassBook_note_73 : decode c_ClassBook_note 73 = .ok (.getfield 131, 3) := by decide +kernel
theorem d_ClassBook_note_76 : decode c_ClassBook_note 76 = .ok (.ldc 130, 2) := by decide +kernel
theorem d_ClassBook_note_78 : decode c_ClassBook_note 78 = .ok (.if_icmp .eq 11, 3) := by decide +kernel
theorem d_ClassBook_note_81 : decode c_ClassBook_note 81 = .ok (.iload_n 2, 1) := by decide +kernel
theorem d_ClassBook_note_82 : decode c_ClassBook_note 82 = .ok (.aload_n 0, 1) := by decide +kernel
theorem d_ClassBook_note_83 : decode c_ClassBook_note 83 = .ok (.getfield 131, 3) := by decide +kernel
theorem d_ClassBook_note_86 : decode c_ClassBook_note 86 = .ok (.if_icmp .ge 8, 3) := by decide +kernel
theorem d_ClassBook_note_89 : decode c_ClassBook_note 89 = .ok (.aload_n 0, 1) := by decide +kernel
theorem d_ClassBook_note_90 : decode c_ClassBook_note 90 = .ok (.iload_n 2, 1) := by decide +kernel
theorem d_ClassBook_note_91 : decode c_ClassBook_note 91 = .ok (.putfield 131, 3) := by decide +kernel
theorem d_ClassBook_note_94 : decode c_ClassBook_note 94 = .ok (.return_, 1) := by decide +kernel
theorem d_Court_init_0 : decode c_Court_init 0 = .ok (.aload_n 0, 1) := by decide +kernel
theorem d_Court_init_1 : decode c_Court_init 1 = .ok (.invokespecial 3, 3) := by decide +kernel
theorem d_Court_init_4 : decode c_Court_init 4 = .ok (.aload_n 0, 1) := by decide +kernel
theorem d_Court_init_5 : decode c_Court_init 5 = .ok (.aload_n 1, 1) := by decide +kernel
theorem d_Court_init_6 : decode c_Court_init 6 = .ok (.putfield 9, 3) := by decide +kernel
theorem d_Court_init_9 : decode c_Court_init 9 = .ok (.aload_n 0, 1) := by decide +kernel
theorem d_Court_init_10 : decode c_Court_init 10 = .ok (.aload_n 2, 1) := by decide +kernel
theorem d_Court_init_11 : decode c_Court_init 11 = .ok (.putfield 15, 3) := by decide +kernel
theorem d_Court_init_14 : decode c_Court_init 14 = .ok (.return_, 1) := by decide +kernel
theorem d_Court_brokenLaw_0 : decode c_Court_brokenLaw 0 = .ok (.iconst 1, 1) := by decide +kernel
theorem d_Court_brokenLaw_1 : decode c_Court_brokenLaw 1 = .ok (.istore_n 2, 1) := by decide +kernel
theorem d_Court_brokenLaw_2 : decode c_Court_brokenLaw 2 = .ok (.iload_n 2, 1) := by decide +kernel
theorem d_Court_brokenLaw_3 : decode c_Court_brokenLaw 3 = .ok (.bipush 6, 2) := by decide +kernel
theorem d_Court_brokenLaw_5 : decode c_Court_brokenLaw 5 = .ok (.if_icmp .gt 20, 3) := by decide +kernel
theorem d_Court_brokenLaw_8 : decode c_Court_brokenLaw 8 = .ok (.aload_n 0, 1) := by decide +kernel
theorem d_Court_brokenLaw_9 : decode c_Court_brokenLaw 9 = .ok (.iload_n 2, 1) := by decide +kernel
theorem d_Court_brokenLaw_10 : decode c_Court_brokenLaw 10 = .ok (.aload_n 1, 1) := by decide +kernel
theorem d_Court_brokenLaw_11 : decode c_Court_brokenLaw 11 = .ok (.invokevirtual 19, 3) := by decide +kernel
theorem d_Court_brokenLaw_14 : decode c_Court_brokenLaw 14 = .ok (.ifCond .lt 5, 3) := by decide +kernel
theorem d_Court_brokenLaw_17 : decode c_Court_brokenLaw 17 = .ok (.iload_n 2, 1) := by decide +kernel
theorem d_Court_brokenLaw_18 : decode c_Court_brokenLaw 18 = .ok (.ireturn, 1) := by decide +kernel
theorem d_Court_brokenLaw_19 : decode c_Court_brokenLaw 19 = .ok (.iinc 2 1, 3) := by decide +kernel
theorem d_Court_brokenLaw_22 : decode c_Court_brokenLaw 22 = .ok (.goto (-20), 3) := by decide +kernel
theorem d_Court_brokenLaw_25 : decode c_Court_brokenLaw 25 = .ok (.iconst 0, 1) := by decide +kernel
theorem d_Court_brokenLaw_26 : decode c_Court_brokenLaw 26 = .ok (.ireturn, 1) := by decide +kernel
theorem d_Court_culprit_0 : decode c_Court_culprit 0 = .ok (.iload_n 1, 1) := by decide +kernel
theorem d_Court_culprit_1 : decode c_Court_culprit 1 = .ok (.tableswitch 54 1 5 #[35, 35, 35, 42, 48], 35) := by decide +kernel
theorem d_Court_culprit_36 : decode c_Court_culprit 36 = .ok (.aload_n 0, 1) := by decide +kernel
theorem d_Court_culprit_37 : decode c_Court_culprit 37 = .ok (.iload_n 1, 1) := by decide +kernel
theorem d_Court_culprit_38 : decode c_Court_culprit 38 = .ok (.aload_n 2, 1) := by decide +kernel
theorem d_Court_culprit_39 : decode c_Court_culprit 39 = .ok (.invokevirtual 23, 3) := by decide +kernel
theorem d_Court_culprit_42 : decode c_Court_culprit 42 = .ok (.ireturn, 1) := by decide +kernel
theorem d_Court_culprit_43 : decode c_Court_culprit 43 = .ok (.aload_n 0, 1) := by decide +kernel
theorem d_Court_culprit_44 : decode c_Court_culprit 44 = .ok (.aload_n 2, 1) := by decide +kernel
theorem d_Court_culprit_45 : decode c_Court_culprit 45 = .ok (.invokevirtual 26, 3) := by decide +kernel
theorem d_Court_culprit_48 : decode c_Court_culprit 48 = .ok (.ireturn, 1) := by decide +kernel
theorem d_Court_culprit_49 : decode c_Court_culprit 49 = .ok (.aload_n 0, 1) := by decide +kernel
theorem d_Court_culprit_50 : decode c_Court_culprit 50 = .ok (.aload_n 2, 1) := by decide +kernel
theorem d_Court_culprit_51 : decode c_Court_culprit 51 = .ok (.invokevirtual 30, 3) := by decide +kernel
theorem d_Court_culprit_54 : decode c_Court_culprit 54 = .ok (.ireturn, 1) := by decide +kernel
theorem d_Court_culprit_55 : decode c_Court_culprit 55 = .ok (.aload_n 0, 1) := by decide +kernel
theorem d_Court_culprit_56 : decode c_Court_culprit 56 = .ok (.aload_n 2, 1) := by decide +kernel
theorem d_Court_culprit_57 : decode c_Court_culprit 57 = .ok (.invokevirtual 33, 3) := by decide +kernel
theorem d_Court_culprit_60 : decode c_Court_culprit 60 = .ok (.ireturn, 1) := by decide +kernel
theorem d_Court_looseEnd_0 : decode c_Court_looseEnd 0 = .ok (.iload_n 1, 1) := by decide +kernel
theorem d_Court_looseEnd_1 : decode c_Court_looseEnd 1 = .ok (.invokestatic 36, 3) := by decide +kernel
theorem d_Court_looseEnd_4 : decode c_Court_looseEnd 4 = .ok (.istore_n 3, 1) := by decide +kernel
theorem d_Court_looseEnd_5 : decode c_Court_looseEnd 5 = .ok (.iload_n 2, 1) := by decide +kernel
theorem d_Court_looseEnd_6 : decode c_Court_looseEnd 6 = .ok (.iconst 1, 1) := by decide +kernel
theorem d_Court_looseEnd_7 : decode c_Court_looseEnd 7 = .ok (.if_icmp .ne 5, 3) := by decide +kernel
theorem d_Court_looseEnd_10 : decode c_Court_looseEnd 10 = .ok (.iload_n 3, 1) := by decide +kernel
theorem d_Court_looseEnd_11 : decode c_Court_looseEnd 11 = .ok (.ireturn, 1) := by decide +kernel
theorem d_Court_looseEnd_12 : decode c_Court_looseEnd 12 = .ok (.iload_n 2, 1) := by decide +kernel
theorem d_Court_looseEnd_13 : decode c_Court_looseEnd 13 = .ok (.iconst 2, 1) := by decide +kernel
theorem d_Court_looseEnd_14 : decode c_Court_looseEnd 14 = .ok (.if_icmp .ne 8, 3) := by decide +kernel
theorem d_Court_looseEnd_17 : decode c_Court_looseEnd 17 = .ok (.iload_n 3, 1) := by decide +kernel
theorem d_Court_looseEnd_18 : decode c_Court_looseEnd 18 = .ok (.iconst (-1), 1) := by decide +kernel
theorem d_Court_looseEnd_19 : decode c_Court_looseEnd 19 = .ok (.if_icmp .ne 5, 3) := by decide +kernel
theorem d_Court_looseEnd_22 : decode c_Court_looseEnd 22 = .ok (.iconst (-1), 1) := by decide +kernel
theorem d_Court_looseEnd_23 : decode c_Court_looseEnd 23 = .ok (.ireturn, 1) := by decide +kernel
theorem d_Court_looseEnd_24 : decode c_Court_looseEnd 24 = .ok (.iload_n 1, 1) := by decide +kernel
theorem d_Court_looseEnd_25 : decode c_Court_looseEnd 25 = .ok (.aload_n 0, 1) := by decide +kernel
theorem d_Court_looseEnd_26 : decode c_Court_looseEnd 26 = .ok (.getfield 9, 3) := by decide +kernel
theorem d_Court_looseEnd_29 : decode c_Court_looseEnd 29 = .ok (.getfield 42, 3) := by decide +kernel
theorem d_Court_looseEnd_32 : decode c_Court_looseEnd 32 = .ok (.iload_n 1, 1) := by decide +kernel
theorem d_Court_looseEnd_33 : decode c_Court_looseEnd 33 = .ok (.iload_n 3, 1) := by decide +kernel
theorem d_Court_looseEnd_34 : decode c_Court_looseEnd 34 = .ok (.invokestatic 48, 3) := by decide +kernel
theorem d_Court_looseEnd_37 : decode c_Court_looseEnd 37 = .ok (.invokestatic 51, 3) := by decide +kernel
theorem d_Court_looseEnd_40 : decode c_Court_looseEnd 40 = .ok (.iconst (-1), 1) := by decide +kernel
theorem d_Court_looseEnd_41 : decode c_Court_looseEnd 41 = .ok (.ixor, 1) := by decide +kernel
theorem d_Court_looseEnd_42 : decode c_Court_looseEnd 42 = .ok (.iand, 1) := by decide +kernel
theorem d_Court_looseEnd_43 : decode c_Court_looseEnd 43 = .ok (.invokestatic 36, 3) := by decide +kernel
theorem d_Court_looseEnd_46 : decode c_Court_looseEnd 46 = .ok (.ireturn, 1) := by decide +kernel
theorem d_Court_allows_0 : decode c_Court_allows 0 = .ok (.iconst 0, 1) := by decide +kernel
theorem d_Court_allows_1 : decode c_Court_allows 1 = .ok (.istore_n 2, 1) := by decide +kernel
theorem d_Court_allows_2 : decode c_Court_allows 2 = .ok (.iload_n 2, 1) := by decide +kernel
theorem d_Court_allows_3 : decode c_Court_allows 3 = .ok (.aload_n 0, 1) := by decide +kernel
theorem d_Court_allows_4 : decode c_Court_allows 4 = .ok (.getfield 15, 3) := by decide +kernel
theorem d_Court_allows_7 : decode c_Court_allows 7 = .ok (.getfield 55, 3) := by decide +kernel
theorem d_Court_allows_10 : decode c_Court_allows 10 = .ok (.if_icmp .ge 24, 3) := by decide +kernel
theorem d_Court_allows_13 : decode c_Court_allows 13 = .ok (.aload_n 0, 1) := by decide +kernel
theorem d_Court_allows_14 : decode c_Court_allows 14 = .ok (.aload_n 1, 1) := by decide +kernel
theorem d_Court_allows_15 : decode c_Court_allows 15 = .ok (.getfield 61, 3) := by decide +kernel
theorem d_Court_allows_18 : decode c_Court_allows 18 = .ok (.iload_n 2, 1) := by decide +kernel
theorem d_Court_allows_19 : decode c_Court_allows 19 = .ok (.iaload, 1) := by decide +kernel
theorem d_Court_allows_20 : decode c_Court_allows 20 = .ok (.invokevirtual 66, 3) := by decide +kernel
theorem d_Court_allows_23 : decode c_Court_allows 23 = .ok (.ifCond .ne 5, 3) := by decide +kernel
theorem d_Court_allows_26 : decode c_Court_allows 26 = .ok (.iconst 0, 1) := by decide +kernel
theorem d_Court_allows_27 : decode c_Court_allows 27 = .ok (.ireturn, 1) := by decide +kernel
theorem d_Court_allows_28 : decode c_Court_allows 28 = .ok (.iinc 2 1, 3) := by decide +kernel
theorem d_Court_allows_31 : decode c_Court_allows 31 = .ok (.goto (-29), 3) := by decide +kernel
theorem d_Court_allows_34 : decode c_Court_allows 34 = .ok (.aload_n 0, 1) := by decide +kernel
theorem d_Court_allows_35 : decode c_Court_allows 35 = .ok (.aload_n 1, 1) := by decide +kernel
theorem d_Court_allows_36 : decode c_Court_allows 36 = .ok (.invokevirtual 30, 3) := by decide +kernel
theorem d_Court_allows_39 : decode c_Court_allows 39 = .ok (.iconst (-1), 1) := by decide +kernel
theorem d_Court_allows_40 : decode c_Court_allows 40 = .ok (.if_icmp .ne 16, 3) := by decide +kernel
theorem d_Court_allows_43 : decode c_Court_allows 43 = .ok (.aload_n 0, 1) := by decide +kernel
theorem d_Court_allows_44 : decode c_Court_allows 44 = .ok (.aload_n 1, 1) := by decide +kernel
theorem d_Court_allows_45 : decode c_Court_allows 45 = .ok (.invokevirtual 33, 3) := by decide +kernel
theorem d_Court_allows_48 : decode c_Court_allows 48 = .ok (.iconst (-1), 1) := by decide +kernel
theorem d_Court_allows_49 : decode c_Court_allows 49 = .ok (.if_icmp .ne 7, 3) := by decide +kernel
theorem d_Court_allows_52 : decode c_Court_allows 52 = .ok (.iconst 1, 1) := by decide +kernel
theorem d_Court_allows_53 : decode c_Court_allows 53 = .ok (.goto 4, 3) := by decide +kernel
theorem d_Court_allows_56 : decode c_Court_allows 56 = .ok (.iconst 0, 1) := by decide +kernel
theorem d_Court_allows_57 : decode c_Court_allows 57 = .ok (.ireturn, 1) := by decide +kernel
theorem d_Court_mayBeDistrict_0 : decode c_Court_mayBeDistrict 0 = .ok (.iload_n 1, 1) := by decide +kernel
theorem d_Court_mayBeDistrict_1 : decode c_Court_mayBeDistrict 1 = .ok (.ifCond .eq 41, 3) := by decide +kernel
theorem d_Court_mayBeDistrict_4 : decode c_Court_mayBeDistrict 4 = .ok (.aload_n 0, 1) := by decide +kernel
theorem d_Court_mayBeDistrict_5 : decode c_Court_mayBeDistrict 5 = .ok (.aload_n 0, 1) := by decide +kernel
theorem d_Court_mayBeDistrict_6 : decode c_Court_mayBeDistrict 6 = .ok (.getfield 9, 3) := by decide +kernel
theorem d_Court_mayBeDistrict_9 : decode c_Court_mayBeDistrict 9 = .ok (.getfield 70, 3) := by decide +kernel
theorem d_Court_mayBeDistrict_12 : decode c_Court_mayBeDistrict 12 = .ok (.iload_n 1, 1) := by decide +kernel
theorem d_Court_mayBeDistrict_13 : decode c_Court_mayBeDistrict 13 = .ok (.invokestatic 73, 3) := by decide +kernel
theorem d_Court_mayBeDistrict_16 : decode c_Court_mayBeDistrict 16 = .ok (.invokevirtual 77, 3) := by decide +kernel
theorem d_Court_mayBeDistrict_19 : decode c_Court_mayBeDistrict 19 = .ok (.ifCond .eq 23, 3) := by decide +kernel
theorem d_Court_mayBeDistrict_22 : decode c_Court_mayBeDistrict 22 = .ok (.aload_n 0, 1) := by decide +kernel
theorem d_Court_mayBeDistrict_23 : decode c_Court_mayBeDistrict 23 = .ok (.iload_n 1, 1) := by decide +kernel
theorem d_Court_mayBeDistrict_24 : decode c_Court_mayBeDistrict 24 = .ok (.invokevirtual 80, 3) := by decide +kernel
theorem d_Court_mayBeDistrict_27 : decode c_Court_mayBeDistrict 27 = .ok (.ifCond .eq 15, 3) := by decide +kernel
theorem d_Court_mayBeDistrict_30 : decode c_Court_mayBeDistrict 30 = .ok (.aload_n 0, 1) := by decide +kernel
theorem d_Court_mayBeDistrict_31 : decode c_Court_mayBeDistrict 31 = .ok (.iload_n 1, 1) := by decide +kernel
theorem d_Court_mayBeDistrict_32 : decode c_Court_mayBeDistrict 32 = .ok (.invokevirtual 83, 3) := by decide +kernel
theorem d_Court_mayBeDistrict_35 : decode c_Court_mayBeDistrict 35 = .ok (.ifCond .eq 7, 3) := by decide +kernel
theorem d_Court_mayBeDistrict_38 : decode c_Court_mayBeDistrict 38 = .ok (.iconst 1, 1) := by decide +kernel
theorem d_Court_mayBeDistrict_39 : decode c_Court_mayBeDistrict 39 = .ok (.goto 4, 3) := by decide +kernel
theorem d_Court_mayBeDistrict_42 : decode c_Court_mayBeDistrict 42 = .ok (.iconst 0, 1) := by decide +kernel
theorem d_Court_mayBeDistrict_43 : decode c_Court_mayBeDistrict 43 = .ok (.ireturn, 1) := by decide +kernel
theorem d_Court_hangs_0 : decode c_Court_hangs 0 = .ok (.aload_n 0, 1) := by decide +kernel
theorem d_Court_hangs_1 : decode c_Court_hangs 1 = .ok (.getfield 9, 3) := by decide +kernel
theorem d_Court_hangs_4 : decode c_Court_hangs 4 = .ok (.getfield 42, 3) := by decide +kernel
theorem d_Court_hangs_7 : decode c_Court_hangs 7 = .ok (.iload_n 1, 1) := by decide +kernel
theorem d_Court_hangs_8 : decode c_Court_hangs 8 = .ok (.iload_n 1, 1) := by decide +kernel
theorem d_Court_hangs_9 : decode c_Court_hangs 9 = .ok (.iload_n 1, 1) := by decide +kernel
theorem d_Court_hangs_10 : decode c_Court_hangs 10 = .ok (.ineg, 1) := by decide +kernel
theorem d_Court_hangs_11 : decode c_Court_hangs 11 = .ok (.iand, 1) := by decide +kernel
theorem d_Court_hangs_12 : decode c_Court_hangs 12 = .ok (.invokestatic 51, 3) := by decide +kernel
theorem d_Court_hangs_15 : decode c_Court_hangs 15 = .ok (.iload_n 1, 1) := by decide +kernel
theorem d_Court_hangs_16 : decode c_Court_hangs 16 = .ok (.if_icmp .ne 7, 3) := by decide +kernel
theorem d_Court_hangs_19 : decode c_Court_hangs 19 = .ok (.iconst 1, 1) := by decide +kernel
theorem d_Court_hangs_20 : decode c_Court_hangs 20 = .ok (.goto 4, 3) := by decide +kernel
theorem d_Court_hangs_23 : decode c_Court_hangs 23 = .ok (.iconst 0, 1) := by decide +kernel
theorem d_Court_hangs_24 : decode c_Court_hangs 24 = .ok (.ireturn, 1) := by decide +kernel
theorem d_Court_fits_0 : decode c_Court_fits 0 = .ok (.aload_n 0, 1) := by decide +kernel
theorem d_Court_fits_1 : decode c_Court_fits 1 = .ok (.getfield 15, 3) := by decide +kernel
theorem d_Court_fits_4 : decode c_Court_fits 4 = .ok (.getfield 55, 3) := by decide +kernel
theorem d_Court_fits_7 : decode c_Court_fits 7 = .ok (.iload_n 1, 1) := by decide +kernel
theorem d_Court_fits_8 : decode c_Court_fits 8 = .ok (.imul, 1) := by decide +kernel
theorem d_Court_fits_9 : decode c_Court_fits 9 = .ok (.aload_n 0, 1) := by decide +kernel
theorem d_Court_fits_10 : decode c_Court_fits 10 = .ok (.getfield 9, 3) := by decide +kernel
theorem d_Court_fits_13 : decode c_Court_fits 13 = .ok (.getfield 86, 3) := by decide +kernel
theorem d_Court_fits_16 : decode c_Court_fits 16 = .ok (.isub, 1) := by decide +kernel
theorem d_Court_fits_17 : decode c_Court_fits 17 = .ok (.invokestatic 89, 3) := by decide +kernel
theorem d_Court_fits_20 : decode c_Court_fits 20 = .ok (.istore_n 2, 1) := by decide +kernel
theorem d_Court_fits_21 : decode c_Court_fits 21 = .ok (.sipush 1000, 3) := by decide +kernel
theorem d_Court_fits_24 : decode c_Court_fits 24 = .ok (.iload_n 2, 1) := by decide +kernel
theorem d_Court_fits_25 : decode c_Court_fits 25 = .ok (.imul, 1) := by decide +kernel
theorem d_Court_fits_26 : decode c_Court_fits 26 = .ok (.aload_n 0, 1) := by decide +kernel
theorem d_Court_fits_27 : decode c_Court_fits 27 = .ok (.getfield 15, 3) := by decide +kernel
theorem d_Court_fits_30 : decode c_Court_fits 30 = .ok (.getfield 94, 3) := by decide +kernel
theorem d_Court_fits_33 : decode c_Court_fits 33 = .ok (.aload_n 0, 1) := by decide +kernel
theorem d_Court_fits_34 : decode c_Court_fits 34 = .ok (.getfield 9, 3) := by decide +kernel
theorem d_Court_fits_37 : decode c_Court_fits 37 = .ok (.getfield 86, 3) := by decide +kernel
theorem d_Court_fits_40 : decode c_Court_fits 40 = .ok (.imul, 1) := by decide +kernel
theorem d_Court_fits_41 : decode c_Court_fits 41 = .ok (.if_icmp .gt 7, 3) := by decide +kernel
theorem d_Court_fits_44 : decode c_Court_fits 44 = .ok (.iconst 1, 1) := by decide +kernel
theorem d_Court_fits_45 : decode c_Court_fits 45 = .ok (.goto 4, 3) := by decide +kernel
theorem d_Court_fits_48 : decode c_Court_fits 48 = .ok (.iconst 0, 1) := by decide +kernel
theorem d_Court_fits_49 : decode c_Court_fits 49 = .ok (.ireturn, 1) := by decide +kernel
theorem d_Court_leavesKeptWhole_0 : decode c_Court_leavesKeptWhole 0 = .ok (.iconst 0, 1) := by decide +kernel
theorem d_Court_leavesKeptWhole_1 : decode c_Court_leavesKeptWhole 1 = .ok (.istore_n 2, 1) := by decide +kernel
theorem d_Court_leavesKeptWhole_2 : decode c_Court_leavesKeptWhole 2 = .ok (.iload_n 2, 1) := by decide +kernel
theorem d_Court_leavesKeptWhole_3 : decode c_Court_leavesKeptWhole 3 = .ok (.bipush 10, 2) := by decide +kernel
theorem d_Court_leavesKeptWhole_5 : decode c_Court_leavesKeptWhole 5 = .ok (.if_icmp .ge 52, 3) := by decide +kernel
theorem d_Court_leavesKeptWhole_8 : decode c_Court_leavesKeptWhole 8 = .ok (.aload_n 0, 1) := by decide +kernel
theorem d_Court_leavesKeptWhole_9 : decode c_Court_leavesKeptWhole 9 = .ok (.getfield 9, 3) := by decide +kernel
theorem d_Court_leavesKeptWhole_12 : decode c_Court_leavesKeptWhole 12 = .ok (.getfield 97, 3) := by decide +kernel
theorem d_Court_leavesKeptWhole_15 : decode c_Court_leavesKeptWhole 15 = .ok (.iload_n 2, 1) := by decide +kernel
theorem d_Court_leavesKeptWhole_16 : decode c_Court_leavesKeptWhole 16 = .ok (.iaload, 1) := by decide +kernel
theorem d_Court_leavesKeptWhole_17 : decode c_Court_leavesKeptWhole 17 = .ok (.iload_n 1, 1) := by decide +kernel
theorem d_Court_leavesKeptWhole_18 : decode c_Court_leavesKeptWhole 18 = .ok (.iand, 1) := by decide +kernel
theorem d_Court_leavesKeptWhole_19 : decode c_Court_leavesKeptWhole 19 = .ok (.istore_n 3, 1) := by decide +kernel
theorem d_Court_leavesKeptWhole_20 : decode c_Court_leavesKeptWhole 20 = .ok (.aload_n 0, 1) := by decide +kernel
theorem d_Court_leavesKeptWhole_21 : decode c_Court_leavesKeptWhole 21 = .ok (.getfield 15, 3) := by decide +kernel
theorem d_Court_leavesKeptWhole_24 : decode c_Court_leavesKeptWhole 24 = .ok (.getfield 100, 3) := by decide +kernel
theorem d_Court_leavesKeptWhole_27 : decode c_Court_leavesKeptWhole 27 = .ok (.iload_n 2, 1) := by decide +kernel
theorem d_Court_leavesKeptWhole_28 : decode c_Court_leavesKeptWhole 28 = .ok (.baload, 1) := by decide +kernel
theorem d_Court_leavesKeptWhole_29 : decode c_Court_leavesKeptWhole 29 = .ok (.ifCond .eq 22, 3) := by decide +kernel
theorem d_Court_leavesKeptWhole_32 : decode c_Court_leavesKeptWhole 32 = .ok (.iload_n 3, 1) := by decide +kernel
theorem d_Court_leavesKeptWhole_33 : decode c_Court_leavesKeptWhole 33 = .ok (.ifCond .eq 18, 3) := by decide +kernel
theorem d_Court_leavesKeptWhole_36 : decode c_Court_leavesKeptWhole 36 = .ok (.iload_n 3, 1) := by decide +kernel
theorem d_Court_leavesKeptWhole_37 : decode c_Court_leavesKeptWhole 37 = .ok (.aload_n 0, 1) := by decide +kernel
theorem d_Court_leavesKeptWhole_38 : decode c_Court_leavesKeptWhole 38 = .ok (.getfield 9, 3) := by decide +kernel
theorem d_Court_leavesKeptWhole_41 : decode c_Court_leavesKeptWhole 41 = .ok (.getfield 97, 3) := by decide +kernel
theorem d_Court_leavesKeptWhole_44 : decode c_Court_leavesKeptWhole 44 = .ok (.iload_n 2, 1) := by decide +kernel
theorem d_Court_leavesKeptWhole_45 : decode c_Court_leavesKeptWhole 45 = .ok (.iaload, 1) := by decide +kernel
theorem d_Court_leavesKeptWhole_46 : decode c_Court_leavesKeptWhole 46 = .ok (.if_icmp .eq 5, 3) := by decide +kernel
theorem d_Court_leavesKeptWhole_49 : decode c_Court_leavesKeptWhole 49 = .ok (.iconst 0, 1) := by decide +kernel
theorem d_Court_leavesKeptWhole_50 : decode c_Court_leavesKeptWhole 50 = .ok (.ireturn, 1) := by decide +kernel
theorem d_Court_leavesKeptWhole_51 : decode c_Court_leavesKeptWhole 51 = .ok (.iinc 2 1, 3) := by decide +kernel
theorem d_Court_leavesKeptWhole_54 : decode c_Court_leavesKeptWhole 54 = .ok (.goto (-52), 3) := by decide +kernel
theorem d_Court_leavesKeptWhole_57 : decode c_Court_leavesKeptWhole 57 = .ok (.iconst 1, 1) := by decide +kernel
theorem d_Court_leavesKeptWhole_58 : decode c_Court_leavesKeptWhole 58 = .ok (.ireturn, 1) := by decide +kernel
theorem d_Court_badDistrict_0 : decode c_Court_badDistrict 0 = .ok (.iconst 0, 1) := by decide +kernel
theorem d_Court_badDistrict_1 : decode c_Court_badDistrict 1 = .ok (.istore_n 3, 1) := by decide +kernel
theorem d_Court_badDistrict_2 : decode c_Court_badDistrict 2 = .ok (.iload_n 3, 1) := by decide +kernel
theorem d_Court_badDistrict_3 : decode c_Court_badDistrict 3 = .ok (.aload_n 0, 1) := by decide +kernel
theorem d_Court_badDistrict_4 : decode c_Court_badDistrict 4 = .ok (.getfield 15, 3) := by decide +kernel
theorem d_Court_badDistrict_7 : decode c_Court_badDistrict 7 = .ok (.getfield 55, 3) := by decide +kernel
theorem d_Court_badDistrict_10 : decode c_Court_badDistrict 10 = .ok (.if_icmp .ge 25, 3) := by decide +kernel
theorem d_Court_badDistrict_13 : decode c_Court_badDistrict 13 = .ok (.aload_n 0, 1) := by decide +kernel
theorem d_Court_badDistrict_14 : decode c_Court_badDistrict 14 = .ok (.iload_n 1, 1) := by decide +kernel
theorem d_Court_badDistrict_15 : decode c_Court_badDistrict 15 = .ok (.aload_n 2, 1) := by decide +kernel
theorem d_Court_badDistrict_16 : decode c_Court_badDistrict 16 = .ok (.getfield 61, 3) := by decide +kernel
theorem d_Court_badDistrict_19 : decode c_Court_badDistrict 19 = .ok (.iload_n 3, 1) := by decide +kernel
theorem d_Court_badDistrict_20 : decode c_Court_badDistrict 20 = .ok (.iaload, 1) := by decide +kernel
theorem d_Court_badDistrict_21 : decode c_Court_badDistrict 21 = .ok (.invokevirtual 104, 3) := by decide +kernel
theorem d_Court_badDistrict_24 : decode c_Court_badDistrict 24 = .ok (.ifCond .eq 5, 3) := by decide +kernel
theorem d_Court_badDistrict_27 : decode c_Court_badDistrict 27 = .ok (.iload_n 3, 1) := by decide +kernel
theorem d_Court_badDistrict_28 : decode c_Court_badDistrict 28 = .ok (.ireturn, 1) := by decide +kernel
theorem d_Court_badDistrict_29 : decode c_Court_badDistrict 29 = .ok (.iinc 3 1, 3) := by decide +kernel
theorem d_Court_badDistrict_32 : decode c_Court_badDistrict 32 = .ok (.goto (-30), 3) := by decide +kernel
theorem d_Court_badDistrict_35 : decode c_Court_badDistrict 35 = .ok (.iconst (-1), 1) := by decide +kernel
theorem d_Court_badDistrict_36 : decode c_Court_badDistrict 36 = .ok (.ireturn, 1) := by decide +kernel
theorem d_Court_isBad_0 : decode c_Court_isBad 0 = .ok (.iload_n 1, 1) := by decide +kernel
theorem d_Court_isBad_1 : decode c_Court_isBad 1 = .ok (.lookupswitch 51 #[(1, 27), (2, 37)], 27) := by decide +kernel
theorem d_Court_isBad_28 : decode c_Court_isBad 28 = .ok (.iload_n 2, 1) := by decide +kernel
theorem d_Court_isBad_29 : decode c_Court_isBad 29 = .ok (.ifCond .ne 7, 3) := by decide +kernel
theorem d_Court_isBad_32 : decode c_Court_isBad 32 = .ok (.iconst 1, 1) := by decide +kernel
theorem d_Court_isBad_33 : decode c_Court_isBad 33 = .ok (.goto 4, 3) := by decide +kernel
theorem d_Court_isBad_36 : decode c_Court_isBad 36 = .ok (.iconst 0, 1) := by decide +kernel
theorem d_Court_isBad_37 : decode c_Court_isBad 37 = .ok (.ireturn, 1) := by decide +kernel
theorem d_Court_isBad_38 : decode c_Court_isBad 38 = .ok (.aload_n 0, 1) := by decide +kernel
theorem d_Court_isBad_39 : decode c_Court_isBad 39 = .ok (.iload_n 2, 1) := by decide +kernel
theorem d_Court_isBad_40 : decode c_Court_isBad 40 = .ok (.invokevirtual 83, 3) := by decide +kernel
theorem d_Court_isBad_43 : decode c_Court_isBad 43 = .ok (.ifCond .ne 7, 3) := by decide +kernel
theorem d_Court_isBad_46 : decode c_Court_isBad 46 = .ok (.iconst 1, 1) := by decide +kernel
theorem d_Court_isBad_47 : decode c_Court_isBad 47 = .ok (.goto 4, 3) := by decide +kernel
theorem d_Court_isBad_50 : decode c_Court_isBad 50 = .ok (.iconst 0, 1) := by decide +kernel
theorem d_Court_isBad_51 : decode c_Court_isBad 51 = .ok (.ireturn, 1) := by decide +kernel
theorem d_Court_isBad_52 : decode c_Court_isBad 52 = .ok (.aload_n 0, 1) := by decide +kernel
theorem d_Court_isBad_53 : decode c_Court_isBad 53 = .ok (.aload_n 0, 1) := by decide +kernel
theorem d_Court_isBad_54 : decode c_Court_isBad 54 = .ok (.getfield 9, 3) := by decide +kernel
theorem d_Court_isBad_57 : decode c_Court_isBad 57 = .ok (.getfield 70, 3) := by decide +kernel
theorem d_Court_isBad_60 : decode c_Court_isBad 60 = .ok (.iload_n 2, 1) := by decide +kernel
theorem d_Court_isBad_61 : decode c_Court_isBad 61 = .ok (.invokestatic 73, 3) := by decide +kernel
theorem d_Court_isBad_64 : decode c_Court_isBad 64 = .ok (.invokevirtual 77, 3) := by decide +kernel
theorem d_Court_isBad_67 : decode c_Court_isBad 67 = .ok (.ifCond .ne 7, 3) := by decide +kernel
theorem d_Court_isBad_70 : decode c_Court_isBad 70 = .ok (.iconst 1, 1) := by decide +kernel
theorem d_Court_isBad_71 : decode c_Court_isBad 71 = .ok (.goto 4, 3) := by decide +kernel
theorem d_Court_isBad_74 : decode c_Court_isBad 74 = .ok (.iconst 0, 1) := by decide +kernel
theorem d_Court_isBad_75 : decode c_Court_isBad 75 = .ok (.ireturn, 1) := by decide +kernel
theorem d_Court_cutKeptTown_0 : decode c_Court_cutKeptTown 0 = .ok (.iconst 0, 1) := by decide +kernel
theorem d_Court_cutKeptTown_1 : decode c_Court_cutKeptTown 1 = .ok (.istore_n 2, 1) := by decide +kernel
theorem d_Court_cutKeptTown_2 : decode c_Court_cutKeptTown 2 = .ok (.iload_n 2, 1) := by decide +kernel
theorem d_Court_cutKeptTown_3 : decode c_Court_cutKeptTown 3 = .ok (.bipush 10, 2) := by decide +kernel
theorem d_Court_cutKeptTown_5 : decode c_Court_cutKeptTown 5 = .ok (.if_icmp .ge 32, 3) := by decide +kernel
theorem d_Court_cutKeptTown_8 : decode c_Court_cutKeptTown 8 = .ok (.aload_n 0, 1) := by decide +kernel
theorem d_Court_cutKeptTown_9 : decode c_Court_cutKeptTown 9 = .ok (.getfield 15, 3) := by decide +kernel
theorem d_Court_cutKeptTown_12 : decode c_Court_cutKeptTown 12 = .ok (.getfield 100, 3) := by decide +kernel
theorem d_Court_cutKeptTown_15 : decode c_Court_cutKeptTown 15 = .ok (.iload_n 2, 1) := by decide +kernel
theorem d_Court_cutKeptTown_16 : decode c_Court_cutKeptTown 16 = .ok (.baload, 1) := by decide +kernel
theorem d_Court_cutKeptTown_17 : decode c_Court_cutKeptTown 17 = .ok (.ifCond .eq 14, 3) := by decide +kernel
theorem d_Court_cutKeptTown_20 : decode c_Court_cutKeptTown 20 = .ok (.aload_n 0, 1) := by decide +kernel
theorem d_Court_cutKeptTown_21 : decode c_Court_cutKeptTown 21 = .ok (.iload_n 2, 1) := by decide +kernel
theorem d_Court_cutKeptTown_22 : decode c_Court_cutKeptTown 22 = .ok (.aload_n 1, 1) := by decide +kernel
theorem d_Court_cutKeptTown_23 : decode c_Court_cutKeptTown 23 = .ok (.invokevirtual 108, 3) := by decide +kernel
theorem d_Court_cutKeptTown_26 : decode c_Court_cutKeptTown 26 = .ok (.ifCond .eq 5, 3) := by decide +kernel
theorem d_Court_cutKeptTown_29 : decode c_Court_cutKeptTown 29 = .ok (.iload_n 2, 1) := by decide +kernel
theorem d_Court_cutKeptTown_30 : decode c_Court_cutKeptTown 30 = .ok (.ireturn, 1) := by decide +kernel
theorem d_Court_cutKeptTown_31 : decode c_Court_cutKeptTown 31 = .ok (.iinc 2 1, 3) := by decide +kernel
theorem d_Court_cutKeptTown_34 : decode c_Court_cutKeptTown 34 = .ok (.goto (-32), 3) := by decide +kernel
theorem d_Court_cutKeptTown_37 : decode c_Court_cutKeptTown 37 = .ok (.iconst (-1), 1) := by decide +kernel
theorem d_Court_cutKeptTown_38 : decode c_Court_cutKeptTown 38 = .ok (.ireturn, 1) := by decide +kernel
theorem d_Court_strayPlace_0 : decode c_Court_strayPlace 0 = .ok (.iconst 0, 1) := by decide +kernel
theorem d_Court_strayPlace_1 : decode c_Court_strayPlace 1 = .ok (.istore_n 2, 1) := by decide +kernel
theorem d_Court_strayPlace_2 : decode c_Court_strayPlace 2 = .ok (.iload_n 2, 1) := by decide +kernel
theorem d_Court_strayPlace_3 : decode c_Court_strayPlace 3 = .ok (.aload_n 0, 1) := by decide +kernel
theorem d_Court_strayPlace_4 : decode c_Court_strayPlace 4 = .ok (.getfield 9, 3) := by decide +kernel
theorem d_Court_strayPlace_7 : decode c_Court_strayPlace 7 = .ok (.getfield 112, 3) := by decide +kernel
theorem d_Court_strayPlace_10 : decode c_Court_strayPlace 10 = .ok (.if_icmp .ge 42, 3) := by decide +kernel
theorem d_Court_strayPlace_13 : decode c_Court_strayPlace 13 = .ok (.aload_n 0, 1) := by decide +kernel
theorem d_Court_strayPlace_14 : decode c_Court_strayPlace 14 = .ok (.getfield 15, 3) := by decide +kernel
theorem d_Court_strayPlace_17 : decode c_Court_strayPlace 17 = .ok (.getfield 115, 3) := by decide +kernel
theorem d_Court_strayPlace_20 : decode c_Court_strayPlace 20 = .ok (.iload_n 2, 1) := by decide +kernel
theorem d_Court_strayPlace_21 : decode c_Court_strayPlace 21 = .ok (.iaload, 1) := by decide +kernel
theorem d_Court_strayPlace_22 : decode c_Court_strayPlace 22 = .ok (.iconst (-1), 1) := by decide +kernel
theorem d_Court_strayPlace_23 : decode c_Court_strayPlace 23 = .ok (.if_icmp .eq 23, 3) := by decide +kernel
theorem d_Court_strayPlace_26 : decode c_Court_strayPlace 26 = .ok (.aload_n 0, 1) := by decide +kernel
theorem d_Court_strayPlace_27 : decode c_Court_strayPlace 27 = .ok (.getfield 15, 3) := by decide +kernel
theorem d_Court_strayPlace_30 : decode c_Court_strayPlace 30 = .ok (.getfield 115, 3) := by decide +kernel
theorem d_Court_strayPlace_33 : decode c_Court_strayPlace 33 = .ok (.iload_n 2, 1) := by decide +kernel
theorem d_Court_strayPlace_34 : decode c_Court_strayPlace 34 = .ok (.iaload, 1) := by decide +kernel
theorem d_Court_strayPlace_35 : decode c_Court_strayPlace 35 = .ok (.aload_n 1, 1) := by decide +kernel
theorem d_Court_strayPlace_36 : decode c_Court_strayPlace 36 = .ok (.getfield 118, 3) := by decide +kernel
theorem d_Court_strayPlace_39 : decode c_Court_strayPlace 39 = .ok (.iload_n 2, 1) := by decide +kernel
theorem d_Court_strayPlace_40 : decode c_Court_strayPlace 40 = .ok (.iaload, 1) := by decide +kernel
theorem d_Court_strayPlace_41 : decode c_Court_strayPlace 41 = .ok (.if_icmp .eq 5, 3) := by decide +kernel
theorem d_Court_strayPlace_44 : decode c_Court_strayPlace 44 = .ok (.iload_n 2, 1) := by decide +kernel
theorem d_Court_strayPlace_45 : decode c_Court_strayPlace 45 = .ok (.ireturn, 1) := by decide +kernel
theorem d_Court_strayPlace_46 : decode c_Court_strayPlace 46 = .ok (.iinc 2 1, 3) := by decide +kernel
theorem d_Court_strayPlace_49 : decode c_Court_strayPlace 49 = .ok (.goto (-47), 3) := by decide +kernel
theorem d_Court_strayPlace_52 : decode c_Court_strayPlace 52 = .ok (.iconst (-1), 1) := by decide +kernel
theorem d_Court_strayPlace_53 : decode c_Court_strayPlace 53 = .ok (.ireturn, 1) := by decide +kernel
theorem d_Court_townTooMany_0 : decode c_Court_townTooMany 0 = .ok (.iconst 0, 1) := by decide +kernel
theorem d_Court_townTooMany_1 : decode c_Court_townTooMany 1 = .ok (.istore_n 2, 1) := by decide +kernel
theorem d_Court_townTooMany_2 : decode c_Court_townTooMany 2 = .ok (.iconst 0, 1) := by decide +kernel
theorem d_Court_townTooMany_3 : decode c_Court_townTooMany 3 = .ok (.istore_n 3, 1) := by decide +kernel
theorem d_Court_townTooMany_4 : decode c_Court_townTooMany 4 = .ok (.iload_n 3, 1) := by decide +kernel
theorem d_Court_townTooMany_5 : decode c_Court_townTooMany 5 = .ok (.bipush 10, 2) := by decide +kernel
theorem d_Court_townTooMany_7 : decode c_Court_townTooMany 7 = .ok (.if_icmp .ge 34, 3) := by decide +kernel
theorem d_Court_townTooMany_10 : decode c_Court_townTooMany 10 = .ok (.aload_n 0, 1) := by decide +kernel
theorem d_Court_townTooMany_11 : decode c_Court_townTooMany 11 = .ok (.iload_n 3, 1) := by decide +kernel
theorem d_Court_townTooMany_12 : decode c_Court_townTooMany 12 = .ok (.aload_n 1, 1) := by decide +kernel
theorem d_Court_townTooMany_13 : decode c_Court_townTooMany 13 = .ok (.invokevirtual 108, 3) := by decide +kernel
theorem d_Court_townTooMany_16 : decode c_Court_townTooMany 16 = .ok (.ifCond .eq 19, 3) := by decide +kernel
theorem d_Court_townTooMany_19 : decode c_Court_townTooMany 19 = .ok (.iinc 2 1, 3) := by decide +kernel
theorem d_Court_townTooMany_22 : decode c_Court_townTooMany 22 = .ok (.iload_n 2, 1) := by decide +kernel
theorem d_Court_townTooMany_23 : decode c_Court_townTooMany 23 = .ok (.aload_n 0, 1) := by decide +kernel
theorem d_Court_townTooMany_24 : decode c_Court_townTooMany 24 = .ok (.getfield 15, 3) := by decide +kernel
theorem d_Court_townTooMany_27 : decode c_Court_townTooMany 27 = .ok (.getfield 121, 3) := by decide +kernel
theorem d_Court_townTooMany_30 : decode c_Court_townTooMany 30 = .ok (.if_icmp .le 5, 3) := by decide +kernel
theorem d_Court_townTooMany_33 : decode c_Court_townTooMany 33 = .ok (.iload_n 3, 1) := by decide +kernel
theorem d_Court_townTooMany_34 : decode c_Court_townTooMany 34 = .ok (.ireturn, 1) := by decide +kernel
theorem d_Court_townTooMany_35 : decode c_Court_townTooMany 35 = .ok (.iinc 3 1, 3) := by decide +kernel
theorem d_Court_townTooMany_38 : decode c_Court_townTooMany 38 = .ok (.goto (-34), 3) := by decide +kernel
theorem d_Court_townTooMany_41 : decode c_Court_townTooMany 41 = .ok (.iconst (-1), 1) := by decide +kernel
theorem d_Court_townTooMany_42 : decode c_Court_townTooMany 42 = .ok (.ireturn, 1) := by decide +kernel
theorem d_Court_isCut_0 : decode c_Court_isCut 0 = .ok (.aload_n 0, 1) := by decide +kernel
theorem d_Court_isCut_1 : decode c_Court_isCut 1 = .ok (.getfield 9, 3) := by decide +kernel
theorem d_Court_isCut_4 : decode c_Court_isCut 4 = .ok (.getfield 97, 3) := by decide +kernel
theorem d_Court_isCut_7 : decode c_Court_isCut 7 = .ok (.iload_n 1, 1) := by decide +kernel
theorem d_Court_isCut_8 : decode c_Court_isCut 8 = .ok (.iaload, 1) := by decide +kernel
theorem d_Court_isCut_9 : decode c_Court_isCut 9 = .ok (.istore_n 3, 1) := by decide +kernel
theorem d_Court_isCut_10 : decode c_Court_isCut 10 = .ok (.iload_n 3, 1) := by decide +kernel
theorem d_Court_isCut_11 : decode c_Court_isCut 11 = .ok (.ifCond .eq 28, 3) := by decide +kernel
theorem d_Court_isCut_14 : decode c_Court_isCut 14 = .ok (.iload_n 3, 1) := by decide +kernel
theorem d_Court_isCut_15 : decode c_Court_isCut 15 = .ok (.aload_n 2, 1) := by decide +kernel
theorem d_Court_isCut_16 : decode c_Court_isCut 16 = .ok (.getfield 61, 3) := by decide +kernel
theorem d_Court_isCut_19 : decode c_Court_isCut 19 = .ok (.aload_n 2, 1) := by decide +kernel
theorem d_Court_isCut_20 : decode c_Court_isCut 20 = .ok (.getfield 118, 3) := by decide +kernel
theorem d_Court_isCut_23 : decode c_Court_isCut 23 = .ok (.iload_n 3, 1) := by decide +kernel
theorem d_Court_isCut_24 : decode c_Court_isCut 24 = .ok (.invokestatic 124, 3) := by decide +kernel
theorem d_Court_isCut_27 : decode c_Court_isCut 27 = .ok (.iaload, 1) := by decide +kernel
theorem d_Court_isCut_28 : decode c_Court_isCut 28 = .ok (.iaload, 1) := by decide +kernel
theorem d_Court_isCut_29 : decode c_Court_isCut 29 = .ok (.iconst (-1), 1) := by decide +kernel
theorem d_Court_isCut_30 : decode c_Court_isCut 30 = .ok (.ixor, 1) := by decide +kernel
theorem d_Court_isCut_31 : decode c_Court_isCut 31 = .ok (.iand, 1) := by decide +kernel
theorem d_Court_isCut_32 : decode c_Court_isCut 32 = .ok (.ifCond .eq 7, 3) := by decide +kernel
theorem d_Court_isCut_35 : decode c_Court_isCut 35 = .ok (.iconst 1, 1) := by decide +kernel
theorem d_Court_isCut_36 : decode c_Court_isCut 36 = .ok (.goto 4, 3) := by decide +kernel
theorem d_Court_isCut_39 : decode c_Court_isCut 39 = .ok (.iconst 0, 1) := by decide +kernel
theorem d_Court_isCut_40 : decode c_Court_isCut 40 = .ok (.ireturn, 1) := by decide +kernel
theorem d_Improver_init_0 : decode c_Improver_init 0 = .ok (.aload_n 0, 1) := by decide +kernel
theorem d_Improver_init_1 : decode c_Improver_init 1 = .ok (.invokespecial 3, 3) := by decide +kernel
theorem d_Improver_init_4 : decode c_Improver_init 4 = .ok (.aload_n 0, 1) := by decide +kernel
theorem d_Improver_init_5 : decode c_Improver_init 5 = .ok (.aload_n 1, 1) := by decide +kernel
theorem d_Improver_init_6 : decode c_Improver_init 6 = .ok (.putfield 9, 3) := by decide +kernel
theorem d_Improver_init_9 : decode c_Improver_init 9 = .ok (.aload_n 0, 1) := by decide +kernel
theorem d_Improver_init_10 : decode c_Improver_init 10 = .ok (.aload_n 2, 1) := by decide +kernel
theorem d_Improver_init_11 : decode c_Improver_init 11 = .ok (.putfield 15, 3) := by decide +kernel
theorem d_Improver_init_14 : decode c_Improver_init 14 = .ok (.aload_n 0, 1) := by decide +kernel
theorem d_Improver_init_15 : decode c_Improver_init 15 = .ok (.aload_n 3, 1) := by decide +kernel
theorem d_Improver_init_16 : decode c_Improver_init 16 = .ok (.putfield 19, 3) := by decide +kernel
theorem d_Improver_init_19 : decode c_Improver_init 19 = .ok (.return_, 1) := by decide +kernel
theorem d_Improver_improve_0 : decode c_Improver_improve 0 = .ok (.iconst 0, 1) := by decide +kernel
theorem d_Improver_improve_1 : decode c_Improver_improve 1 = .ok (.istore_n 2, 1) := by decide +kernel
theorem d_Improver_improve_2 : decode c_Improver_improve 2 = .ok (.iload_n 2, 1) := by decide +kernel
theorem d_Improver_improve_3 : decode c_Improver_improve 3 = .ok (.sipush 10000, 3) := by decide +kernel
theorem d_Improver_improve_6 : decode c_Improver_improve 6 = .ok (.if_icmp .ge 17, 3) := by decide +kernel
theorem d_Improver_improve_9 : decode c_Improver_improve 9 = .ok (.aload_n 0, 1) := by decide +kernel
theorem d_Improver_improve_10 : decode c_Improver_improve 10 = .ok (.aload_n 1, 1) := by decide +kernel
theorem d_Improver_improve_11 : decode c_Improver_improve 11 = .ok (.invokevirtual 23, 3) := by decide +kernel
theorem d_Improver_improve_14 : decode c_Improver_improve 14 = .ok (.ifCond .eq 9, 3) := by decide +kernel
theorem d_Improver_improve_17 : decode c_Improver_improve 17 = .ok (.iinc 2 1, 3) := by decide +kernel
theorem d_Improver_improve_20 : decode c_Improver_improve 20 = .ok (.goto (-18), 3) := by decide +kernel
theorem d_Improver_improve_23 : decode c_Improver_improve 23 = .ok (.iload_n 2, 1) := by decide +kernel
theorem d_Improver_improve_24 : decode c_Improver_improve 24 = .ok (.ireturn, 1) := by decide +kernel
theorem d_Improver_moveOne_0 : decode c_Improver_moveOne 0 = .ok (.iconst 0, 1) := by decide +kernel
theorem d_Improver_moveOne_1 : decode c_Improver_moveOne 1 = .ok (.istore_n 2, 1) := by decide +kernel
theorem d_Improver_moveOne_2 : decode c_Improver_moveOne 2 = .ok (.iload_n 2, 1) := by decide +kernel
theorem d_Improver_moveOne_3 : decode c_Improver_moveOne 3 = .ok (.aload_n 0, 1) := by decide +kernel
theorem d_Improver_moveOne_4 : decode c_Improver_moveOne 4 = .ok (.getfield 9, 3) := by decide +kernel
theorem d_Improver_moveOne_7 : decode c_Improver_moveOne 7 = .ok (.getfield 27, 3) := by decide +kernel
theorem d_Improver_moveOne_10 : decode c_Improver_moveOne 10 = .ok (.if_icmp .ge 74, 3) := by decide +kernel
theorem d_Improver_moveOne_13 : decode c_Improver_moveOne 13 = .ok (.aload_n 1, 1) := by decide +kernel
theorem d_Improver_moveOne_14 : decode c_Improver_moveOne 14 = .ok (.getfield 33, 3) := by decide +kernel
theorem d_Improver_moveOne_17 : decode c_Improver_moveOne 17 = .ok (.iload_n 2, 1) := by decide +kernel
theorem d_Improver_moveOne_18 : decode c_Improver_moveOne 18 = .ok (.iaload, 1) := by decide +kernel
theorem d_Improver_moveOne_19 : decode c_Improver_moveOne 19 = .ok (.istore_n 3, 1) := by decide +kernel
theorem d_Improver_moveOne_20 : decode c_Improver_moveOne 20 = .ok (.iconst 0, 1) := by decide +kernel
theorem d_Improver_moveOne_21 : decode c_Improver_moveOne 21 = .ok (.istore 4, 2) := by decide +kernel
theorem d_Improver_moveOne_23 : decode c_Improver_moveOne 23 = .ok (.iload 4, 2) := by decide +kernel
theorem d_Improver_moveOne_25 : decode c_Improver_moveOne 25 = .ok (.aload_n 0, 1) := by decide +kernel
theorem d_Improver_moveOne_26 : decode c_Improver_moveOne 26 = .ok (.getfield 15, 3) := by decide +kernel
theorem d_Improver_moveOne_29 : decode c_Improver_moveOne 29 = .ok (.getfield 39, 3) := by decide +kernel
theorem d_Improver_moveOne_32 : decode c_Improver_moveOne 32 = .ok (.if_icmp .ge 46, 3) := by decide +kernel
theorem d_Improver_moveOne_35 : decode c_Improver_moveOne 35 = .ok (.aload_n 0, 1) := by decide +kernel
theorem d_Improver_moveOne_36 : decode c_Improver_moveOne 36 = .ok (.aload_n 1, 1) := by decide +kernel
theorem d_Improver_moveOne_37 : decode c_Improver_moveOne 37 = .ok (.iload_n 2, 1) := by decide +kernel
theorem d_Improver_moveOne_38 : decode c_Improver_moveOne 38 = .ok (.iload 4, 2) := by decide +kernel
theorem d_Improver_moveOne_40 : decode c_Improver_moveOne 40 = .ok (.invokevirtual 44, 3) := by decide +kernel
theorem d_Improver_moveOne_43 : decode c_Improver_moveOne 43 = .ok (.ifCond .eq 29, 3) := by decide +kernel
theorem d_Improver_moveOne_46 : decode c_Improver_moveOne 46 = .ok (.aload_n 1, 1) := by decide +kernel
theorem d_Improver_moveOne_47 : decode c_Improver_moveOne 47 = .ok (.iload_n 2, 1) := by decide +kernel
theorem d_Improver_moveOne_48 : decode c_Improver_moveOne 48 = .ok (.iload 4, 2) := by decide +kernel
theorem d_Improver_moveOne_50 : decode c_Improver_moveOne 50 = .ok (.invokevirtual 48, 3) := by decide +kernel
theorem d_Improver_moveOne_53 : decode c_Improver_moveOne 53 = .ok (.aload_n 0, 1) := by decide +kernel
theorem d_Improver_moveOne_54 : decode c_Improver_moveOne 54 = .ok (.getfield 19, 3) := by decide +kernel
theorem d_Improver_moveOne_57 : decode c_Improver_moveOne 57 = .ok (.aload_n 1, 1) := by decide +kernel
theorem d_Improver_moveOne_58 : decode c_Improver_moveOne 58 = .ok (.invokevirtual 52, 3) := by decide +kernel
theorem d_Improver_moveOne_61 : decode c_Improver_moveOne 61 = .ok (.ifCond .eq 5, 3) := by decide +kernel
theorem d_Improver_moveOne_64 : decode c_Improver_moveOne 64 = .ok (.iconst 1, 1) := by decide +kernel
theorem d_Improver_moveOne_65 : decode c_Improver_moveOne 65 = .ok (.ireturn, 1) := by decide +kernel
theorem d_Improver_moveOne_66 : decode c_Improver_moveOne 66 = .ok (.aload_n 1, 1) := by decide +kernel
theorem d_Improver_moveOne_67 : decode c_Improver_moveOne 67 = .ok (.iload_n 2, 1) := by decide +kernel
theorem d_Improver_moveOne_68 : decode c_Improver_moveOne 68 = .ok (.iload_n 3, 1) := by decide +kernel
theorem d_Improver_moveOne_69 : decode c_Improver_moveOne 69 = .ok (.invokevirtual 48, 3) := by decide +kernel
theorem d_Improver_moveOne_72 : decode c_Improver_moveOne 72 = .ok (.iinc 4 1, 3) := by decide +kernel
theorem d_Improver_moveOne_75 : decode c_Improver_moveOne 75 = .ok (.goto (-52), 3) := by decide +kernel
theorem d_Improver_moveOne_78 : decode c_Improver_moveOne 78 = .ok (.iinc 2 1, 3) := by decide +kernel
theorem d_Improver_moveOne_81 : decode c_Improver_moveOne 81 = .ok (.goto (-79), 3) := by decide +kernel
theorem d_Improver_moveOne_84 : decode c_Improver_moveOne 84 = .ok (.iconst 0, 1) := by decide +kernel
theorem d_Improver_moveOne_85 : decode c_Improver_moveOne 85 = .ok (.ireturn, 1) := by decide +kernel
theorem d_Improver_isShorter_0 : decode c_Improver_isShorter 0 = .ok (.aload_n 1, 1) := by decide +kernel
theorem d_Improver_isShorter_1 : decode c_Improver_isShorter 1 = .ok (.getfield 33, 3) := by decide +kernel
theorem d_Improver_isShorter_4 : decode c_Improver_isShorter 4 = .ok (.iload_n 2, 1) := by decide +kernel
theorem d_Improver_isShorter_5 : decode c_Improver_isShorter 5 = .ok (.iaload, 1) := by decide +kernel
theorem d_Improver_isShorter_6 : decode c_Improver_isShorter 6 = .ok (.istore 4, 2) := by decide +kernel
theorem d_Improver_isShorter_8 : decode c_Improver_isShorter 8 = .ok (.iload_n 3, 1) := by decide +kernel
theorem d_Improver_isShorter_9 : decode c_Improver_isShorter 9 = .ok (.iload 4, 2) := by decide +kernel
theorem d_Improver_isShorter_11 : decode c_Improver_isShorter 11 = .ok (.if_icmp .eq 39, 3) := by decide +kernel
theorem d_Improver_isShorter_14 : decode c_Improver_isShorter 14 = .ok (.aload_n 0, 1) := by decide +kernel
theorem d_Improver_isShorter_15 : decode c_Improver_isShorter 15 = .ok (.getfield 9, 3) := by decide +kernel
theorem d_Improver_isShorter_18 : decode c_Improver_isShorter 18 = .ok (.iload_n 2, 1) := by decide +kernel
theorem d_Improver_isShorter_19 : decode c_Improver_isShorter 19 = .ok (.aload_n 1, 1) := by decide +kernel
theorem d_Improver_isShorter_20 : decode c_Improver_isShorter 20 = .ok (.getfield 57, 3) := by decide +kernel
theorem d_Improver_isShorter_23 : decode c_Improver_isShorter 23 = .ok (.iload_n 3, 1) := by decide +kernel
theorem d_Improver_isShorter_24 : decode c_Improver_isShorter 24 = .ok (.iaload, 1) := by decide +kernel
theorem d_Improver_isShorter_25 : decode c_Improver_isShorter 25 = .ok (.invokevirtual 60, 3) := by decide +kernel
theorem d_Improver_isShorter_28 : decode c_Improver_isShorter 28 = .ok (.aload_n 0, 1) := by decide +kernel
theorem d_Improver_isShorter_29 : decode c_Improver_isShorter 29 = .ok (.getfield 9, 3) := by decide +kernel
theorem d_Improver_isShorter_32 : decode c_Improver_isShorter 32 = .ok (.iload_n 2, 1) := by decide +kernel
theorem d_Improver_isShorter_33 : decode c_Improver_isShorter 33 = .ok (.aload_n 1, 1) := by decide +kernel
theorem d_Improver_isShorter_34 : decode c_Improver_isShorter 34 = .ok (.getfield 57, 3) := by decide +kernel
theorem d_Improver_isShorter_37 : decode c_Improver_isShorter 37 = .ok (.iload 4, 2) := by decide +kernel
theorem d_Improver_isShorter_39 : decode c_Improver_isShorter 39 = .ok (.iaload, 1) := by decide +kernel
theorem d_Improver_isShorter_40 : decode c_Improver_isShorter 40 = .ok (.invokevirtual 60, 3) := by decide +kernel
theorem d_Improver_isShorter_43 : decode c_Improver_isShorter 43 = .ok (.if_icmp .le 7, 3) := by decide +kernel
theorem d_Improver_isShorter_46 : decode c_Improver_isShorter 46 = .ok (.iconst 1, 1) := by decide +kernel
theorem d_Improver_isShorter_47 : decode c_Improver_isShorter 47 = .ok (.goto 4, 3) := by decide +kernel
theorem d_Improver_isShorter_50 : decode c_Improver_isShorter 50 = .ok (.iconst 0, 1) := by decide +kernel
theorem d_Improver_isShorter_51 : decode c_Improver_isShorter 51 = .ok (.ireturn, 1) := by decide +kernel
theorem d_Land_init_0 : decode c_Land_init 0 = .ok (.aload_n 0, 1) := by decide +kernel
theorem d_Land_init_1 : decode c_Land_init 1 = .ok (.invokespecial 3, 3) := by decide +kernel
theorem d_Land_init_4 : decode c_Land_init 4 = .ok (.aload_n 0, 1) := by decide +kernel
theorem d_Land_init_5 : decode c_Land_init 5 = .ok (.bipush 30, 2) := by decide +kernel
theorem d_Land_init_7 : decode c_Land_init 7 = .ok (.newarray .int, 2) := by decide +kernel
theorem d_Land_init_9 : decode c_Land_init 9 = .ok (.putfield 9, 3) := by decide +kernel
theorem d_Land_init_12 : decode c_Land_init 12 = .ok (.aload_n 0, 1) := by decide +kernel
theorem d_Land_init_13 : decode c_Land_init 13 = .ok (.bipush 30, 2) := by decide +kernel
theorem d_Land_init_15 : decode c_Land_init 15 = .ok (.newarray .int, 2) := by decide +kernel
theorem d_Land_init_17 : decode c_Land_init 17 = .ok (.putfield 15, 3) := by decide +kernel
theorem d_Land_init_20 : decode c_Land_init 20 = .ok (.aload_n 0, 1) := by decide +kernel
theorem d_Land_init_21 : decode c_Land_init 21 = .ok (.bipush 30, 2) := by decide +kernel
theorem d_Land_init_23 : decode c_Land_init 23 = .ok (.newarray .int, 2) := by decide +kernel
theorem d_Land_init_25 : decode c_Land_init 25 = .ok (.putfield 18, 3) := by decide +kernel
theorem d_Land_init_28 : decode c_Land_init 28 = .ok (.aload_n 0, 1) := by decide +kernel
theorem d_Land_init_29 : decode c_Land_init 29 = .ok (.bipush 30, 2) := by decide +kernel
theorem d_Land_init_31 : decode c_Land_init 31 = .ok (.newarray .int, 2) := by decide +kernel
end
section
theorem d_Land_init_33 : decode c_Land_init 33 = .ok (.putfield 21, 3) := by decide +kernel
theorem d_Land_init_36 : decode c_Land_init 36 = .ok (.aload_n 0, 1) := by decide +kernel
theorem d_Land_init_37 : decode c_Land_init 37 = .ok (.bipush 30, 2) := by decide +kernel
theorem d_Land_init_39 : decode c_Land_init 39 = .ok (.newarray .int, 2) := by decide +kernel
theorem d_Land_init_41 : decode c_Land_init 41 = .ok (.putfield 24, 3) := by decide +kernel
theorem d_Land_init_44 : decode c_Land_init 44 = .ok (.aload_n 0, 1) := by decide +kernel
theorem d_Land_init_45 : decode c_Land_init 45 = .ok (.bipush 10, 2) := by decide +kernel
theorem d_Land_init_47 : decode c_Land_init 47 = .ok (.newarray .int, 2) := by decide +kernel
theorem d_Land_init_49 : decode c_Land_init 49 = .ok (.putfield 27, 3) := by decide +kernel
theorem d_Land_init_52 : decode c_Land_init 52 = .ok (.aload_n 0, 1) := by decide +kernel
theorem d_Land_init_53 : decode c_Land_init 53 = .ok (.bipush 100, 2) := by decide +kernel
theorem d_Land_init_55 : decode c_Land_init 55 = .ok (.newarray .int, 2) := by decide +kernel
theorem d_Land_init_57 : decode c_Land_init 57 = .ok (.putfield 30, 3) := by decide +kernel
theorem d_Land_init_60 : decode c_Land_init 60 = .ok (.aload_n 0, 1) := by decide +kernel
theorem d_Land_init_61 : decode c_Land_init 61 = .ok (.bipush 100, 2) := by decide +kernel
theorem d_Land_init_63 : decode c_Land_init 63 = .ok (.newarray .int, 2) := by decide +kernel
theorem d_Land_init_65 : decode c_Land_init 65 = .ok (.putfield 33, 3) := by decide +kernel
theorem d_Land_init_68 : decode c_Land_init 68 = .ok (.aload_n 0, 1) := by decide +kernel
theorem d_Land_init_69 : decode c_Land_init 69 = .ok (.bipush 100, 2) := by decide +kernel
theorem d_Land_init_71 : decode c_Land_init 71 = .ok (.newarray .int, 2) := by decide +kernel
theorem d_Land_init_73 : decode c_Land_init 73 = .ok (.putfield 36, 3) := by decide +kernel
theorem d_Land_init_76 : decode c_Land_init 76 = .ok (.return_, 1) := by decide +kernel
theorem d_Land_hasPlace_0 : decode c_Land_hasPlace 0 = .ok (.iload_n 1, 1) := by decide +kernel
theorem d_Land_hasPlace_1 : decode c_Land_hasPlace 1 = .ok (.iconst 0, 1) := by decide +kernel
theorem d_Land_hasPlace_2 : decode c_Land_hasPlace 2 = .ok (.aload_n 0, 1) := by decide +kernel
theorem d_Land_hasPlace_3 : decode c_Land_hasPlace 3 = .ok (.getfield 39, 3) := by decide +kernel
theorem d_Land_hasPlace_6 : decode c_Land_hasPlace 6 = .ok (.iconst 1, 1) := by decide +kernel
theorem d_Land_hasPlace_7 : decode c_Land_hasPlace 7 = .ok (.isub, 1) := by decide +kernel
theorem d_Land_hasPlace_8 : decode c_Land_hasPlace 8 = .ok (.invokestatic 43, 3) := by decide +kernel
theorem d_Land_hasPlace_11 : decode c_Land_hasPlace 11 = .ok (.ireturn, 1) := by decide +kernel
theorem d_Land_addPlace_0 : decode c_Land_addPlace 0 = .ok (.aload_n 0, 1) := by decide +kernel
theorem d_Land_addPlace_1 : decode c_Land_addPlace 1 = .ok (.getfield 39, 3) := by decide +kernel
theorem d_Land_addPlace_4 : decode c_Land_addPlace 4 = .ok (.istore 6, 2) := by decide +kernel
theorem d_Land_addPlace_6 : decode c_Land_addPlace 6 = .ok (.aload_n 0, 1) := by decide +kernel
theorem d_Land_addPlace_7 : decode c_Land_addPlace 7 = .ok (.dup, 1) := by decide +kernel
theorem d_Land_addPlace_8 : decode c_Land_addPlace 8 = .ok (.getfield 39, 3) := by decide +kernel
theorem d_Land_addPlace_11 : decode c_Land_addPlace 11 = .ok (.iconst 1, 1) := by decide +kernel
theorem d_Land_addPlace_12 : decode c_Land_addPlace 12 = .ok (.iadd, 1) := by decide +kernel
theorem d_Land_addPlace_13 : decode c_Land_addPlace 13 = .ok (.putfield 39, 3) := by decide +kernel
theorem d_Land_addPlace_16 : decode c_Land_addPlace 16 = .ok (.aload_n 0, 1) := by decide +kernel
theorem d_Land_addPlace_17 : decode c_Land_addPlace 17 = .ok (.getfield 9, 3) := by decide +kernel
theorem d_Land_addPlace_20 : decode c_Land_addPlace 20 = .ok (.iload 6, 2) := by decide +kernel
theorem d_Land_addPlace_22 : decode c_Land_addPlace 22 = .ok (.iload_n 1, 1) := by decide +kernel
theorem d_Land_addPlace_23 : decode c_Land_addPlace 23 = .ok (.iastore, 1) := by decide +kernel
theorem d_Land_addPlace_24 : decode c_Land_addPlace 24 = .ok (.aload_n 0, 1) := by decide +kernel
theorem d_Land_addPlace_25 : decode c_Land_addPlace 25 = .ok (.dup, 1) := by decide +kernel
theorem d_Land_addPlace_26 : decode c_Land_addPlace 26 = .ok (.getfield 47, 3) := by decide +kernel
theorem d_Land_addPlace_29 : decode c_Land_addPlace 29 = .ok (.iload_n 1, 1) := by decide +kernel
theorem d_Land_addPlace_30 : decode c_Land_addPlace 30 = .ok (.iadd, 1) := by decide +kernel
theorem d_Land_addPlace_31 : decode c_Land_addPlace 31 = .ok (.putfield 47, 3) := by decide +kernel
theorem d_Land_addPlace_34 : decode c_Land_addPlace 34 = .ok (.aload_n 0, 1) := by decide +kernel
theorem d_Land_addPlace_35 : decode c_Land_addPlace 35 = .ok (.getfield 15, 3) := by decide +kernel
theorem d_Land_addPlace_38 : decode c_Land_addPlace 38 = .ok (.iload 6, 2) := by decide +kernel
theorem d_Land_addPlace_40 : decode c_Land_addPlace 40 = .ok (.iload_n 2, 1) := by decide +kernel
theorem d_Land_addPlace_41 : decode c_Land_addPlace 41 = .ok (.iastore, 1) := by decide +kernel
theorem d_Land_addPlace_42 : decode c_Land_addPlace 42 = .ok (.aload_n 0, 1) := by decide +kernel
theorem d_Land_addPlace_43 : decode c_Land_addPlace 43 = .ok (.getfield 18, 3) := by decide +kernel
theorem d_Land_addPlace_46 : decode c_Land_addPlace 46 = .ok (.iload 6, 2) := by decide +kernel
theorem d_Land_addPlace_48 : decode c_Land_addPlace 48 = .ok (.iload_n 3, 1) := by decide +kernel
theorem d_Land_addPlace_49 : decode c_Land_addPlace 49 = .ok (.iastore, 1) := by decide +kernel
theorem d_Land_addPlace_50 : decode c_Land_addPlace 50 = .ok (.aload_n 0, 1) := by decide +kernel
theorem d_Land_addPlace_51 : decode c_Land_addPlace 51 = .ok (.getfield 21, 3) := by decide +kernel
theorem d_Land_addPlace_54 : decode c_Land_addPlace 54 = .ok (.iload 6, 2) := by decide +kernel
theorem d_Land_addPlace_56 : decode c_Land_addPlace 56 = .ok (.iload 4, 2) := by decide +kernel
theorem d_Land_addPlace_58 : decode c_Land_addPlace 58 = .ok (.iastore, 1) := by decide +kernel
theorem d_Land_addPlace_59 : decode c_Land_addPlace 59 = .ok (.aload_n 0, 1) := by decide +kernel
theorem d_Land_addPlace_60 : decode c_Land_addPlace 60 = .ok (.getfield 27, 3) := by decide +kernel
theorem d_Land_addPlace_63 : decode c_Land_addPlace 63 = .ok (.iload 5, 2) := by decide +kernel
theorem d_Land_addPlace_65 : decode c_Land_addPlace 65 = .ok (.dup2, 1) := by decide +kernel
theorem d_Land_addPlace_66 : decode c_Land_addPlace 66 = .ok (.iaload, 1) := by decide +kernel
theorem d_Land_addPlace_67 : decode c_Land_addPlace 67 = .ok (.iload 6, 2) := by decide +kernel
theorem d_Land_addPlace_69 : decode c_Land_addPlace 69 = .ok (.invokestatic 50, 3) := by decide +kernel
theorem d_Land_addPlace_72 : decode c_Land_addPlace 72 = .ok (.ior, 1) := by decide +kernel
theorem d_Land_addPlace_73 : decode c_Land_addPlace 73 = .ok (.iastore, 1) := by decide +kernel
theorem d_Land_addPlace_74 : decode c_Land_addPlace 74 = .ok (.iload 6, 2) := by decide +kernel
theorem d_Land_addPlace_76 : decode c_Land_addPlace 76 = .ok (.ireturn, 1) := by decide +kernel
theorem d_Land_addBorder_0 : decode c_Land_addBorder 0 = .ok (.aload_n 0, 1) := by decide +kernel
theorem d_Land_addBorder_1 : decode c_Land_addBorder 1 = .ok (.getfield 56, 3) := by decide +kernel
theorem d_Land_addBorder_4 : decode c_Land_addBorder 4 = .ok (.istore 4, 2) := by decide +kernel
theorem d_Land_addBorder_6 : decode c_Land_addBorder 6 = .ok (.aload_n 0, 1) := by decide +kernel
theorem d_Land_addBorder_7 : decode c_Land_addBorder 7 = .ok (.dup, 1) := by decide +kernel
theorem d_Land_addBorder_8 : decode c_Land_addBorder 8 = .ok (.getfield 56, 3) := by decide +kernel
theorem d_Land_addBorder_11 : decode c_Land_addBorder 11 = .ok (.iconst 1, 1) := by decide +kernel
theorem d_Land_addBorder_12 : decode c_Land_addBorder 12 = .ok (.iadd, 1) := by decide +kernel
theorem d_Land_addBorder_13 : decode c_Land_addBorder 13 = .ok (.putfield 56, 3) := by decide +kernel
theorem d_Land_addBorder_16 : decode c_Land_addBorder 16 = .ok (.aload_n 0, 1) := by decide +kernel
theorem d_Land_addBorder_17 : decode c_Land_addBorder 17 = .ok (.getfield 30, 3) := by decide +kernel
theorem d_Land_addBorder_20 : decode c_Land_addBorder 20 = .ok (.iload 4, 2) := by decide +kernel
theorem d_Land_addBorder_22 : decode c_Land_addBorder 22 = .ok (.iload_n 1, 1) := by decide +kernel
theorem d_Land_addBorder_23 : decode c_Land_addBorder 23 = .ok (.iastore, 1) := by decide +kernel
theorem d_Land_addBorder_24 : decode c_Land_addBorder 24 = .ok (.aload_n 0, 1) := by decide +kernel
theorem d_Land_addBorder_25 : decode c_Land_addBorder 25 = .ok (.getfield 33, 3) := by decide +kernel
theorem d_Land_addBorder_28 : decode c_Land_addBorder 28 = .ok (.iload 4, 2) := by decide +kernel
theorem d_Land_addBorder_30 : decode c_Land_addBorder 30 = .ok (.iload_n 2, 1) := by decide +kernel
theorem d_Land_addBorder_31 : decode c_Land_addBorder 31 = .ok (.iastore, 1) := by decide +kernel
theorem d_Land_addBorder_32 : decode c_Land_addBorder 32 = .ok (.aload_n 0, 1) := by decide +kernel
theorem d_Land_addBorder_33 : decode c_Land_addBorder 33 = .ok (.getfield 36, 3) := by decide +kernel
theorem d_Land_addBorder_36 : decode c_Land_addBorder 36 = .ok (.iload 4, 2) := by decide +kernel
theorem d_Land_addBorder_38 : decode c_Land_addBorder 38 = .ok (.iload_n 3, 1) := by decide +kernel
theorem d_Land_addBorder_39 : decode c_Land_addBorder 39 = .ok (.iastore, 1) := by decide +kernel
theorem d_Land_addBorder_40 : decode c_Land_addBorder 40 = .ok (.aload_n 0, 1) := by decide +kernel
theorem d_Land_addBorder_41 : decode c_Land_addBorder 41 = .ok (.getfield 24, 3) := by decide +kernel
theorem d_Land_addBorder_44 : decode c_Land_addBorder 44 = .ok (.iload_n 1, 1) := by decide +kernel
theorem d_Land_addBorder_45 : decode c_Land_addBorder 45 = .ok (.dup2, 1) := by decide +kernel
theorem d_Land_addBorder_46 : decode c_Land_addBorder 46 = .ok (.iaload, 1) := by decide +kernel
theorem d_Land_addBorder_47 : decode c_Land_addBorder 47 = .ok (.iload_n 2, 1) := by decide +kernel
theorem d_Land_addBorder_48 : decode c_Land_addBorder 48 = .ok (.invokestatic 50, 3) := by decide +kernel
theorem d_Land_addBorder_51 : decode c_Land_addBorder 51 = .ok (.ior, 1) := by decide +kernel
theorem d_Land_addBorder_52 : decode c_Land_addBorder 52 = .ok (.iastore, 1) := by decide +kernel
theorem d_Land_addBorder_53 : decode c_Land_addBorder 53 = .ok (.aload_n 0, 1) := by decide +kernel
theorem d_Land_addBorder_54 : decode c_Land_addBorder 54 = .ok (.getfield 24, 3) := by decide +kernel
theorem d_Land_addBorder_57 : decode c_Land_addBorder 57 = .ok (.iload_n 2, 1) := by decide +kernel
theorem d_Land_addBorder_58 : decode c_Land_addBorder 58 = .ok (.dup2, 1) := by decide +kernel
theorem d_Land_addBorder_59 : decode c_Land_addBorder 59 = .ok (.iaload, 1) := by decide +kernel
theorem d_Land_addBorder_60 : decode c_Land_addBorder 60 = .ok (.iload_n 1, 1) := by decide +kernel
theorem d_Land_addBorder_61 : decode c_Land_addBorder 61 = .ok (.invokestatic 50, 3) := by decide +kernel
theorem d_Land_addBorder_64 : decode c_Land_addBorder 64 = .ok (.ior, 1) := by decide +kernel
theorem d_Land_addBorder_65 : decode c_Land_addBorder 65 = .ok (.iastore, 1) := by decide +kernel
theorem d_Land_addBorder_66 : decode c_Land_addBorder 66 = .ok (.iload 4, 2) := by decide +kernel
theorem d_Land_addBorder_68 : decode c_Land_addBorder 68 = .ok (.ireturn, 1) := by decide +kernel
theorem d_Land_changePeople_0 : decode c_Land_changePeople 0 = .ok (.aload_n 0, 1) := by decide +kernel
theorem d_Land_changePeople_1 : decode c_Land_changePeople 1 = .ok (.getfield 9, 3) := by decide +kernel
theorem d_Land_changePeople_4 : decode c_Land_changePeople 4 = .ok (.iload_n 1, 1) := by decide +kernel
theorem d_Land_changePeople_5 : decode c_Land_changePeople 5 = .ok (.iaload, 1) := by decide +kernel
theorem d_Land_changePeople_6 : decode c_Land_changePeople 6 = .ok (.istore_n 3, 1) := by decide +kernel
theorem d_Land_changePeople_7 : decode c_Land_changePeople 7 = .ok (.aload_n 0, 1) := by decide +kernel
theorem d_Land_changePeople_8 : decode c_Land_changePeople 8 = .ok (.getfield 9, 3) := by decide +kernel
theorem d_Land_changePeople_11 : decode c_Land_changePeople 11 = .ok (.iload_n 1, 1) := by decide +kernel
theorem d_Land_changePeople_12 : decode c_Land_changePeople 12 = .ok (.iload_n 2, 1) := by decide +kernel
theorem d_Land_changePeople_13 : decode c_Land_changePeople 13 = .ok (.iastore, 1) := by decide +kernel
theorem d_Land_changePeople_14 : decode c_Land_changePeople 14 = .ok (.aload_n 0, 1) := by decide +kernel
theorem d_Land_changePeople_15 : decode c_Land_changePeople 15 = .ok (.dup, 1) := by decide +kernel
theorem d_Land_changePeople_16 : decode c_Land_changePeople 16 = .ok (.getfield 47, 3) := by decide +kernel
theorem d_Land_changePeople_19 : decode c_Land_changePeople 19 = .ok (.iload_n 2, 1) := by decide +kernel
theorem d_Land_changePeople_20 : decode c_Land_changePeople 20 = .ok (.iload_n 3, 1) := by decide +kernel
theorem d_Land_changePeople_21 : decode c_Land_changePeople 21 = .ok (.isub, 1) := by decide +kernel
theorem d_Land_changePeople_22 : decode c_Land_changePeople 22 = .ok (.iadd, 1) := by decide +kernel
theorem d_Land_changePeople_23 : decode c_Land_changePeople 23 = .ok (.putfield 47, 3) := by decide +kernel
theorem d_Land_changePeople_26 : decode c_Land_changePeople 26 = .ok (.iload_n 3, 1) := by decide +kernel
theorem d_Land_changePeople_27 : decode c_Land_changePeople 27 = .ok (.ireturn, 1) := by decide +kernel
theorem d_Land_everywhere_0 : decode c_Land_everywhere 0 = .ok (.iconst 0, 1) := by decide +kernel
theorem d_Land_everywhere_1 : decode c_Land_everywhere 1 = .ok (.istore_n 1, 1) := by decide +kernel
theorem d_Land_everywhere_2 : decode c_Land_everywhere 2 = .ok (.iconst 0, 1) := by decide +kernel
theorem d_Land_everywhere_3 : decode c_Land_everywhere 3 = .ok (.istore_n 2, 1) := by decide +kernel
theorem d_Land_everywhere_4 : decode c_Land_everywhere 4 = .ok (.iload_n 2, 1) := by decide +kernel
theorem d_Land_everywhere_5 : decode c_Land_everywhere 5 = .ok (.aload_n 0, 1) := by decide +kernel
theorem d_Land_everywhere_6 : decode c_Land_everywhere 6 = .ok (.getfield 39, 3) := by decide +kernel
theorem d_Land_everywhere_9 : decode c_Land_everywhere 9 = .ok (.if_icmp .ge 16, 3) := by decide +kernel
theorem d_Land_everywhere_12 : decode c_Land_everywhere 12 = .ok (.iload_n 1, 1) := by decide +kernel
theorem d_Land_everywhere_13 : decode c_Land_everywhere 13 = .ok (.iload_n 2, 1) := by decide +kernel
theorem d_Land_everywhere_14 : decode c_Land_everywhere 14 = .ok (.invokestatic 50, 3) := by decide +kernel
theorem d_Land_everywhere_17 : decode c_Land_everywhere 17 = .ok (.ior, 1) := by decide +kernel
theorem d_Land_everywhere_18 : decode c_Land_everywhere 18 = .ok (.istore_n 1, 1) := by decide +kernel
theorem d_Land_everywhere_19 : decode c_Land_everywhere 19 = .ok (.iinc 2 1, 3) := by decide +kernel
theorem d_Land_everywhere_22 : decode c_Land_everywhere 22 = .ok (.goto (-18), 3) := by decide +kernel
theorem d_Land_everywhere_25 : decode c_Land_everywhere 25 = .ok (.iload_n 1, 1) := by decide +kernel
theorem d_Land_everywhere_26 : decode c_Land_everywhere 26 = .ok (.ireturn, 1) := by decide +kernel
theorem d_Land_isInside_0 : decode c_Land_isInside 0 = .ok (.iload_n 2, 1) := by decide +kernel
theorem d_Land_isInside_1 : decode c_Land_isInside 1 = .ok (.aload_n 0, 1) := by decide +kernel
theorem d_Land_isInside_2 : decode c_Land_isInside 2 = .ok (.getfield 30, 3) := by decide +kernel
theorem d_Land_isInside_5 : decode c_Land_isInside 5 = .ok (.iload_n 1, 1) := by decide +kernel
theorem d_Land_isInside_6 : decode c_Land_isInside 6 = .ok (.iaload, 1) := by decide +kernel
theorem d_Land_isInside_7 : decode c_Land_isInside 7 = .ok (.invokestatic 59, 3) := by decide +kernel
theorem d_Land_isInside_10 : decode c_Land_isInside 10 = .ok (.ifCond .eq 20, 3) := by decide +kernel
theorem d_Land_isInside_13 : decode c_Land_isInside 13 = .ok (.iload_n 2, 1) := by decide +kernel
theorem d_Land_isInside_14 : decode c_Land_isInside 14 = .ok (.aload_n 0, 1) := by decide +kernel
theorem d_Land_isInside_15 : decode c_Land_isInside 15 = .ok (.getfield 33, 3) := by decide +kernel
theorem d_Land_isInside_18 : decode c_Land_isInside 18 = .ok (.iload_n 1, 1) := by decide +kernel
theorem d_Land_isInside_19 : decode c_Land_isInside 19 = .ok (.iaload, 1) := by decide +kernel
theorem d_Land_isInside_20 : decode c_Land_isInside 20 = .ok (.invokestatic 59, 3) := by decide +kernel
theorem d_Land_isInside_23 : decode c_Land_isInside 23 = .ok (.ifCond .eq 7, 3) := by decide +kernel
theorem d_Land_isInside_26 : decode c_Land_isInside 26 = .ok (.iconst 1, 1) := by decide +kernel
theorem d_Land_isInside_27 : decode c_Land_isInside 27 = .ok (.goto 4, 3) := by decide +kernel
theorem d_Land_isInside_30 : decode c_Land_isInside 30 = .ok (.iconst 0, 1) := by decide +kernel
theorem d_Land_isInside_31 : decode c_Land_isInside 31 = .ok (.ireturn, 1) := by decide +kernel
theorem d_Land_outline_0 : decode c_Land_outline 0 = .ok (.iconst 0, 1) := by decide +kernel
theorem d_Land_outline_1 : decode c_Land_outline 1 = .ok (.istore_n 2, 1) := by decide +kernel
theorem d_Land_outline_2 : decode c_Land_outline 2 = .ok (.iconst 0, 1) := by decide +kernel
theorem d_Land_outline_3 : decode c_Land_outline 3 = .ok (.istore_n 3, 1) := by decide +kernel
theorem d_Land_outline_4 : decode c_Land_outline 4 = .ok (.iload_n 3, 1) := by decide +kernel
theorem d_Land_outline_5 : decode c_Land_outline 5 = .ok (.aload_n 0, 1) := by decide +kernel
theorem d_Land_outline_6 : decode c_Land_outline 6 = .ok (.getfield 56, 3) := by decide +kernel
theorem d_Land_outline_9 : decode c_Land_outline 9 = .ok (.if_icmp .ge 41, 3) := by decide +kernel
theorem d_Land_outline_12 : decode c_Land_outline 12 = .ok (.iload_n 1, 1) := by decide +kernel
theorem d_Land_outline_13 : decode c_Land_outline 13 = .ok (.aload_n 0, 1) := by decide +kernel
theorem d_Land_outline_14 : decode c_Land_outline 14 = .ok (.getfield 30, 3) := by decide +kernel
theorem d_Land_outline_17 : decode c_Land_outline 17 = .ok (.iload_n 3, 1) := by decide +kernel
theorem d_Land_outline_18 : decode c_Land_outline 18 = .ok (.iaload, 1) := by decide +kernel
theorem d_Land_outline_19 : decode c_Land_outline 19 = .ok (.invokestatic 59, 3) := by decide +kernel
theorem d_Land_outline_22 : decode c_Land_outline 22 = .ok (.iload_n 1, 1) := by decide +kernel
theorem d_Land_outline_23 : decode c_Land_outline 23 = .ok (.aload_n 0, 1) := by decide +kernel
theorem d_Land_outline_24 : decode c_Land_outline 24 = .ok (.getfield 33, 3) := by decide +kernel
theorem d_Land_outline_27 : decode c_Land_outline 27 = .ok (.iload_n 3, 1) := by decide +kernel
theorem d_Land_outline_28 : decode c_Land_outline 28 = .ok (.iaload, 1) := by decide +kernel
theorem d_Land_outline_29 : decode c_Land_outline 29 = .ok (.invokestatic 59, 3) := by decide +kernel
theorem d_Land_outline_32 : decode c_Land_outline 32 = .ok (.if_icmp .eq 12, 3) := by decide +kernel
theorem d_Land_outline_35 : decode c_Land_outline 35 = .ok (.iload_n 2, 1) := by decide +kernel
theorem d_Land_outline_36 : decode c_Land_outline 36 = .ok (.aload_n 0, 1) := by decide +kernel
theorem d_Land_outline_37 : decode c_Land_outline 37 = .ok (.getfield 36, 3) := by decide +kernel
theorem d_Land_outline_40 : decode c_Land_outline 40 = .ok (.iload_n 3, 1) := by decide +kernel
theorem d_Land_outline_41 : decode c_Land_outline 41 = .ok (.iaload, 1) := by decide +kernel
theorem d_Land_outline_42 : decode c_Land_outline 42 = .ok (.iadd, 1) := by decide +kernel
theorem d_Land_outline_43 : decode c_Land_outline 43 = .ok (.istore_n 2, 1) := by decide +kernel
theorem d_Land_outline_44 : decode c_Land_outline 44 = .ok (.iinc 3 1, 3) := by decide +kernel
theorem d_Land_outline_47 : decode c_Land_outline 47 = .ok (.goto (-43), 3) := by decide +kernel
theorem d_Land_outline_50 : decode c_Land_outline 50 = .ok (.iload_n 2, 1) := by decide +kernel
theorem d_Land_outline_51 : decode c_Land_outline 51 = .ok (.ireturn, 1) := by decide +kernel
theorem d_Land_outgoing_0 : decode c_Land_outgoing 0 = .ok (.iconst 0, 1) := by decide +kernel
theorem d_Land_outgoing_1 : decode c_Land_outgoing 1 = .ok (.istore_n 2, 1) := by decide +kernel
theorem d_Land_outgoing_2 : decode c_Land_outgoing 2 = .ok (.iconst 0, 1) := by decide +kernel
theorem d_Land_outgoing_3 : decode c_Land_outgoing 3 = .ok (.istore_n 3, 1) := by decide +kernel
theorem d_Land_outgoing_4 : decode c_Land_outgoing 4 = .ok (.iload_n 3, 1) := by decide +kernel
theorem d_Land_outgoing_5 : decode c_Land_outgoing 5 = .ok (.aload_n 0, 1) := by decide +kernel
theorem d_Land_outgoing_6 : decode c_Land_outgoing 6 = .ok (.getfield 56, 3) := by decide +kernel
theorem d_Land_outgoing_9 : decode c_Land_outgoing 9 = .ok (.if_icmp .ge 44, 3) := by decide +kernel
theorem d_Land_outgoing_12 : decode c_Land_outgoing 12 = .ok (.iload_n 1, 1) := by decide +kernel
theorem d_Land_outgoing_13 : decode c_Land_outgoing 13 = .ok (.aload_n 0, 1) := by decide +kernel
theorem d_Land_outgoing_14 : decode c_Land_outgoing 14 = .ok (.getfield 30, 3) := by decide +kernel
theorem d_Land_outgoing_17 : decode c_Land_outgoing 17 = .ok (.iload_n 3, 1) := by decide +kernel
theorem d_Land_outgoing_18 : decode c_Land_outgoing 18 = .ok (.iaload, 1) := by decide +kernel
theorem d_Land_outgoing_19 : decode c_Land_outgoing 19 = .ok (.invokestatic 59, 3) := by decide +kernel
theorem d_Land_outgoing_22 : decode c_Land_outgoing 22 = .ok (.ifCond .eq 25, 3) := by decide +kernel
theorem d_Land_outgoing_25 : decode c_Land_outgoing 25 = .ok (.iload_n 1, 1) := by decide +kernel
theorem d_Land_outgoing_26 : decode c_Land_outgoing 26 = .ok (.aload_n 0, 1) := by decide +kernel
theorem d_Land_outgoing_27 : decode c_Land_outgoing 27 = .ok (.getfield 33, 3) := by decide +kernel
theorem d_Land_outgoing_30 : decode c_Land_outgoing 30 = .ok (.iload_n 3, 1) := by decide +kernel
theorem d_Land_outgoing_31 : decode c_Land_outgoing 31 = .ok (.iaload, 1) := by decide +kernel
theorem d_Land_outgoing_32 : decode c_Land_outgoing 32 = .ok (.invokestatic 59, 3) := by decide +kernel
theorem d_Land_outgoing_35 : decode c_Land_outgoing 35 = .ok (.ifCond .ne 12, 3) := by decide +kernel
theorem d_Land_outgoing_38 : decode c_Land_outgoing 38 = .ok (.iload_n 2, 1) := by decide +kernel
theorem d_Land_outgoing_39 : decode c_Land_outgoing 39 = .ok (.aload_n 0, 1) := by decide +kernel
theorem d_Land_outgoing_40 : decode c_Land_outgoing 40 = .ok (.getfield 36, 3) := by decide +kernel
theorem d_Land_outgoing_43 : decode c_Land_outgoing 43 = .ok (.iload_n 3, 1) := by decide +kernel
theorem d_Land_outgoing_44 : decode c_Land_outgoing 44 = .ok (.iaload, 1) := by decide +kernel
theorem d_Land_outgoing_45 : decode c_Land_outgoing 45 = .ok (.iadd, 1) := by decide +kernel
theorem d_Land_outgoing_46 : decode c_Land_outgoing 46 = .ok (.istore_n 2, 1) := by decide +kernel
theorem d_Land_outgoing_47 : decode c_Land_outgoing 47 = .ok (.iinc 3 1, 3) := by decide +kernel
theorem d_Land_outgoing_50 : decode c_Land_outgoing 50 = .ok (.goto (-46), 3) := by decide +kernel
theorem d_Land_outgoing_53 : decode c_Land_outgoing 53 = .ok (.iload_n 2, 1) := by decide +kernel
theorem d_Land_outgoing_54 : decode c_Land_outgoing 54 = .ok (.ireturn, 1) := by decide +kernel
theorem d_Land_contact_0 : decode c_Land_contact 0 = .ok (.aload_n 0, 1) := by decide +kernel
theorem d_Land_contact_1 : decode c_Land_contact 1 = .ok (.getfield 24, 3) := by decide +kernel
theorem d_Land_contact_4 : decode c_Land_contact 4 = .ok (.iload_n 1, 1) := by decide +kernel
theorem d_Land_contact_5 : decode c_Land_contact 5 = .ok (.iaload, 1) := by decide +kernel
theorem d_Land_contact_6 : decode c_Land_contact 6 = .ok (.iload_n 2, 1) := by decide +kernel
theorem d_Land_contact_7 : decode c_Land_contact 7 = .ok (.iand, 1) := by decide +kernel
theorem d_Land_contact_8 : decode c_Land_contact 8 = .ok (.ifCond .ne 5, 3) := by decide +kernel
theorem d_Land_contact_11 : decode c_Land_contact 11 = .ok (.iconst 0, 1) := by decide +kernel
theorem d_Land_contact_12 : decode c_Land_contact 12 = .ok (.ireturn, 1) := by decide +kernel
theorem d_Land_contact_13 : decode c_Land_contact 13 = .ok (.iconst 0, 1) := by decide +kernel
theorem d_Land_contact_14 : decode c_Land_contact 14 = .ok (.istore_n 3, 1) := by decide +kernel
theorem d_Land_contact_15 : decode c_Land_contact 15 = .ok (.iconst 0, 1) := by decide +kernel
theorem d_Land_contact_16 : decode c_Land_contact 16 = .ok (.istore 4, 2) := by decide +kernel
theorem d_Land_contact_18 : decode c_Land_contact 18 = .ok (.iload 4, 2) := by decide +kernel
theorem d_Land_contact_20 : decode c_Land_contact 20 = .ok (.aload_n 0, 1) := by decide +kernel
theorem d_Land_contact_21 : decode c_Land_contact 21 = .ok (.getfield 56, 3) := by decide +kernel
theorem d_Land_contact_24 : decode c_Land_contact 24 = .ok (.if_icmp .ge 81, 3) := by decide +kernel
theorem d_Land_contact_27 : decode c_Land_contact 27 = .ok (.aload_n 0, 1) := by decide +kernel
theorem d_Land_contact_28 : decode c_Land_contact 28 = .ok (.getfield 30, 3) := by decide +kernel
theorem d_Land_contact_31 : decode c_Land_contact 31 = .ok (.iload 4, 2) := by decide +kernel
theorem d_Land_contact_33 : decode c_Land_contact 33 = .ok (.iaload, 1) := by decide +kernel
theorem d_Land_contact_34 : decode c_Land_contact 34 = .ok (.iload_n 1, 1) := by decide +kernel
theorem d_Land_contact_35 : decode c_Land_contact 35 = .ok (.if_icmp .ne 17, 3) := by decide +kernel
theorem d_Land_contact_38 : decode c_Land_contact 38 = .ok (.iload_n 2, 1) := by decide +kernel
theorem d_Land_contact_39 : decode c_Land_contact 39 = .ok (.aload_n 0, 1) := by decide +kernel
theorem d_Land_contact_40 : decode c_Land_contact 40 = .ok (.getfield 33, 3) := by decide +kernel
theorem d_Land_contact_43 : decode c_Land_contact 43 = .ok (.iload 4, 2) := by decide +kernel
theorem d_Land_contact_45 : decode c_Land_contact 45 = .ok (.iaload, 1) := by decide +kernel
theorem d_Land_contact_46 : decode c_Land_contact 46 = .ok (.invokestatic 59, 3) := by decide +kernel
theorem d_Land_contact_49 : decode c_Land_contact 49 = .ok (.ifCond .ne 28, 3) := by decide +kernel
theorem d_Land_contact_52 : decode c_Land_contact 52 = .ok (.aload_n 0, 1) := by decide +kernel
theorem d_Land_contact_53 : decode c_Land_contact 53 = .ok (.getfield 33, 3) := by decide +kernel
theorem d_Land_contact_56 : decode c_Land_contact 56 = .ok (.iload 4, 2) := by decide +kernel
theorem d_Land_contact_58 : decode c_Land_contact 58 = .ok (.iaload, 1) := by decide +kernel
theorem d_Land_contact_59 : decode c_Land_contact 59 = .ok (.iload_n 1, 1) := by decide +kernel
theorem d_Land_contact_60 : decode c_Land_contact 60 = .ok (.if_icmp .ne 21, 3) := by decide +kernel
theorem d_Land_contact_63 : decode c_Land_contact 63 = .ok (.iload_n 2, 1) := by decide +kernel
theorem d_Land_contact_64 : decode c_Land_contact 64 = .ok (.aload_n 0, 1) := by decide +kernel
theorem d_Land_contact_65 : decode c_Land_contact 65 = .ok (.getfield 30, 3) := by decide +kernel
theorem d_Land_contact_68 : decode c_Land_contact 68 = .ok (.iload 4, 2) := by decide +kernel
theorem d_Land_contact_70 : decode c_Land_contact 70 = .ok (.iaload, 1) := by decide +kernel
theorem d_Land_contact_71 : decode c_Land_contact 71 = .ok (.invokestatic 59, 3) := by decide +kernel
theorem d_Land_contact_74 : decode c_Land_contact 74 = .ok (.ifCond .eq 7, 3) := by decide +kernel
theorem d_Land_contact_77 : decode c_Land_contact 77 = .ok (.iconst 1, 1) := by decide +kernel
theorem d_Land_contact_78 : decode c_Land_contact 78 = .ok (.goto 4, 3) := by decide +kernel
theorem d_Land_contact_81 : decode c_Land_contact 81 = .ok (.iconst 0, 1) := by decide +kernel
theorem d_Land_contact_82 : decode c_Land_contact 82 = .ok (.istore 5, 2) := by decide +kernel
theorem d_Land_contact_84 : decode c_Land_contact 84 = .ok (.iload 5, 2) := by decide +kernel
theorem d_Land_contact_86 : decode c_Land_contact 86 = .ok (.ifCond .eq 13, 3) := by decide +kernel
theorem d_Land_contact_89 : decode c_Land_contact 89 = .ok (.iload_n 3, 1) := by decide +kernel
theorem d_Land_contact_90 : decode c_Land_contact 90 = .ok (.aload_n 0, 1) := by decide +kernel
theorem d_Land_contact_91 : decode c_Land_contact 91 = .ok (.getfield 36, 3) := by decide +kernel
theorem d_Land_contact_94 : decode c_Land_contact 94 = .ok (.iload 4, 2) := by decide +kernel
theorem d_Land_contact_96 : decode c_Land_contact 96 = .ok (.iaload, 1) := by decide +kernel
theorem d_Land_contact_97 : decode c_Land_contact 97 = .ok (.iadd, 1) := by decide +kernel
theorem d_Land_contact_98 : decode c_Land_contact 98 = .ok (.istore_n 3, 1) := by decide +kernel
theorem d_Land_contact_99 : decode c_Land_contact 99 = .ok (.iinc 4 1, 3) := by decide +kernel
theorem d_Land_contact_102 : decode c_Land_contact 102 = .ok (.goto (-84), 3) := by decide +kernel
theorem d_Land_contact_105 : decode c_Land_contact 105 = .ok (.iload_n 3, 1) := by decide +kernel
theorem d_Land_contact_106 : decode c_Land_contact 106 = .ok (.ireturn, 1) := by decide +kernel
theorem d_Law_init_0 : decode c_Law_init 0 = .ok (.aload_n 0, 1) := by decide +kernel
theorem d_Law_init_1 : decode c_Law_init 1 = .ok (.invokespecial 3, 3) := by decide +kernel
theorem d_Law_init_4 : decode c_Law_init 4 = .ok (.aload_n 0, 1) := by decide +kernel
theorem d_Law_init_5 : decode c_Law_init 5 = .ok (.iconst 2, 1) := by decide +kernel
theorem d_Law_init_6 : decode c_Law_init 6 = .ok (.putfield 9, 3) := by decide +kernel
theorem d_Law_init_9 : decode c_Law_init 9 = .ok (.aload_n 0, 1) := by decide +kernel
theorem d_Law_init_10 : decode c_Law_init 10 = .ok (.bipush 100, 2) := by decide +kernel
theorem d_Law_init_12 : decode c_Law_init 12 = .ok (.putfield 15, 3) := by decide +kernel
theorem d_Law_init_15 : decode c_Law_init 15 = .ok (.aload_n 0, 1) := by decide +kernel
theorem d_Law_init_16 : decode c_Law_init 16 = .ok (.bipush 10, 2) := by decide +kernel
theorem d_Law_init_18 : decode c_Law_init 18 = .ok (.putfield 18, 3) := by decide +kernel
theorem d_Law_init_21 : decode c_Law_init 21 = .ok (.aload_n 0, 1) := by decide +kernel
theorem d_Law_init_22 : decode c_Law_init 22 = .ok (.bipush 10, 2) := by decide +kernel
theorem d_Law_init_24 : decode c_Law_init 24 = .ok (.newarray .boolean, 2) := by decide +kernel
theorem d_Law_init_26 : decode c_Law_init 26 = .ok (.putfield 21, 3) := by decide +kernel
theorem d_Law_init_29 : decode c_Law_init 29 = .ok (.aload_n 0, 1) := by decide +kernel
theorem d_Law_init_30 : decode c_Law_init 30 = .ok (.bipush 30, 2) := by decide +kernel
theorem d_Law_init_32 : decode c_Law_init 32 = .ok (.newarray .int, 2) := by decide +kernel
theorem d_Law_init_34 : decode c_Law_init 34 = .ok (.putfield 25, 3) := by decide +kernel
theorem d_Law_init_37 : decode c_Law_init 37 = .ok (.aload_n 0, 1) := by decide +kernel
theorem d_Law_init_38 : decode c_Law_init 38 = .ok (.getfield 25, 3) := by decide +kernel
theorem d_Law_init_41 : decode c_Law_init 41 = .ok (.iconst (-1), 1) := by decide +kernel
theorem d_Law_init_42 : decode c_Law_init 42 = .ok (.invokestatic 29, 3) := by decide +kernel
theorem d_Law_init_45 : decode c_Law_init 45 = .ok (.return_, 1) := by decide +kernel
theorem d_Law_hasDistrict_0 : decode c_Law_hasDistrict 0 = .ok (.iload_n 1, 1) := by decide +kernel
theorem d_Law_hasDistrict_1 : decode c_Law_hasDistrict 1 = .ok (.iconst 0, 1) := by decide +kernel
theorem d_Law_hasDistrict_2 : decode c_Law_hasDistrict 2 = .ok (.aload_n 0, 1) := by decide +kernel
theorem d_Law_hasDistrict_3 : decode c_Law_hasDistrict 3 = .ok (.getfield 9, 3) := by decide +kernel
theorem d_Law_hasDistrict_6 : decode c_Law_hasDistrict 6 = .ok (.iconst 1, 1) := by decide +kernel
theorem d_Law_hasDistrict_7 : decode c_Law_hasDistrict 7 = .ok (.isub, 1) := by decide +kernel
theorem d_Law_hasDistrict_8 : decode c_Law_hasDistrict 8 = .ok (.invokestatic 35, 3) := by decide +kernel
theorem d_Law_hasDistrict_11 : decode c_Law_hasDistrict 11 = .ok (.ireturn, 1) := by decide +kernel
theorem d_Law_fixNothing_0 : decode c_Law_fixNothing 0 = .ok (.aload_n 0, 1) := by decide +kernel
theorem d_Law_fixNothing_1 : decode c_Law_fixNothing 1 = .ok (.getfield 25, 3) := by decide +kernel
theorem d_Law_fixNothing_4 : decode c_Law_fixNothing 4 = .ok (.iconst (-1), 1) := by decide +kernel
theorem d_Law_fixNothing_5 : decode c_Law_fixNothing 5 = .ok (.invokestatic 29, 3) := by decide +kernel
theorem d_Law_fixNothing_8 : decode c_Law_fixNothing 8 = .ok (.return_, 1) := by decide +kernel
theorem d_Law_fixedPlaces_0 : decode c_Law_fixedPlaces 0 = .ok (.iconst 0, 1) := by decide +kernel
theorem d_Law_fixedPlaces_1 : decode c_Law_fixedPlaces 1 = .ok (.istore_n 1, 1) := by decide +kernel
theorem d_Law_fixedPlaces_2 : decode c_Law_fixedPlaces 2 = .ok (.iconst 0, 1) := by decide +kernel
theorem d_Law_fixedPlaces_3 : decode c_Law_fixedPlaces 3 = .ok (.istore_n 2, 1) := by decide +kernel
theorem d_Law_fixedPlaces_4 : decode c_Law_fixedPlaces 4 = .ok (.iload_n 2, 1) := by decide +kernel
theorem d_Law_fixedPlaces_5 : decode c_Law_fixedPlaces 5 = .ok (.bipush 30, 2) := by decide +kernel
theorem d_Law_fixedPlaces_7 : decode c_Law_fixedPlaces 7 = .ok (.if_icmp .ge 22, 3) := by decide +kernel
theorem d_Law_fixedPlaces_10 : decode c_Law_fixedPlaces 10 = .ok (.aload_n 0, 1) := by decide +kernel
theorem d_Law_fixedPlaces_11 : decode c_Law_fixedPlaces 11 = .ok (.getfield 25, 3) := by decide +kernel
theorem d_Law_fixedPlaces_14 : decode c_Law_fixedPlaces 14 = .ok (.iload_n 2, 1) := by decide +kernel
theorem d_Law_fixedPlaces_15 : decode c_Law_fixedPlaces 15 = .ok (.iaload, 1) := by decide +kernel
theorem d_Law_fixedPlaces_16 : decode c_Law_fixedPlaces 16 = .ok (.iconst (-1), 1) := by decide +kernel
theorem d_Law_fixedPlaces_17 : decode c_Law_fixedPlaces 17 = .ok (.if_icmp .eq 6, 3) := by decide +kernel
theorem d_Law_fixedPlaces_20 : decode c_Law_fixedPlaces 20 = .ok (.iinc 1 1, 3) := by decide +kernel
theorem d_Law_fixedPlaces_23 : decode c_Law_fixedPlaces 23 = .ok (.iinc 2 1, 3) := by decide +kernel
theorem d_Law_fixedPlaces_26 : decode c_Law_fixedPlaces 26 = .ok (.goto (-22), 3) := by decide +kernel
theorem d_Law_fixedPlaces_29 : decode c_Law_fixedPlaces 29 = .ok (.iload_n 1, 1) := by decide +kernel
theorem d_Law_fixedPlaces_30 : decode c_Law_fixedPlaces 30 = .ok (.ireturn, 1) := by decide +kernel
theorem d_Mender_init_0 : decode c_Mender_init 0 = .ok (.aload_n 0, 1) := by decide +kernel
theorem d_Mender_init_1 : decode c_Mender_init 1 = .ok (.invokespecial 3, 3) := by decide +kernel
theorem d_Mender_init_4 : decode c_Mender_init 4 = .ok (.aload_n 0, 1) := by decide +kernel
theorem d_Mender_init_5 : decode c_Mender_init 5 = .ok (.aload_n 1, 1) := by decide +kernel
theorem d_Mender_init_6 : decode c_Mender_init 6 = .ok (.putfield 9, 3) := by decide +kernel
theorem d_Mender_init_9 : decode c_Mender_init 9 = .ok (.aload_n 0, 1) := by decide +kernel
theorem d_Mender_init_10 : decode c_Mender_init 10 = .ok (.aload_n 2, 1) := by decide +kernel
theorem d_Mender_init_11 : decode c_Mender_init 11 = .ok (.putfield 15, 3) := by decide +kernel
theorem d_Mender_init_14 : decode c_Mender_init 14 = .ok (.aload_n 0, 1) := by decide +kernel
theorem d_Mender_init_15 : decode c_Mender_init 15 = .ok (.aload_n 3, 1) := by decide +kernel
theorem d_Mender_init_16 : decode c_Mender_init 16 = .ok (.putfield 19, 3) := by decide +kernel
theorem d_Mender_init_19 : decode c_Mender_init 19 = .ok (.aload_n 0, 1) := by decide +kernel
theorem d_Mender_init_20 : decode c_Mender_init 20 = .ok (.new 23, 3) := by decide +kernel
theorem d_Mender_init_23 : decode c_Mender_init 23 = .ok (.dup, 1) := by decide +kernel
theorem d_Mender_init_24 : decode c_Mender_init 24 = .ok (.invokespecial 25, 3) := by decide +kernel
theorem d_Mender_init_27 : decode c_Mender_init 27 = .ok (.putfield 26, 3) := by decide +kernel
theorem d_Mender_init_30 : decode c_Mender_init 30 = .ok (.aload_n 0, 1) := by decide +kernel
theorem d_Mender_init_31 : decode c_Mender_init 31 = .ok (.new 23, 3) := by decide +kernel
theorem d_Mender_init_34 : decode c_Mender_init 34 = .ok (.dup, 1) := by decide +kernel
theorem d_Mender_init_35 : decode c_Mender_init 35 = .ok (.invokespecial 25, 3) := by decide +kernel
theorem d_Mender_init_38 : decode c_Mender_init 38 = .ok (.putfield 30, 3) := by decide +kernel
theorem d_Mender_init_41 : decode c_Mender_init 41 = .ok (.return_, 1) := by decide +kernel
theorem d_Mender_repair_0 : decode c_Mender_repair 0 = .ok (.aload_n 0, 1) := by decide +kernel
theorem d_Mender_repair_1 : decode c_Mender_repair 1 = .ok (.ldc 35, 2) := by decide +kernel
theorem d_Mender_repair_3 : decode c_Mender_repair 3 = .ok (.putfield 36, 3) := by decide +kernel
theorem d_Mender_repair_6 : decode c_Mender_repair 6 = .ok (.aload_n 0, 1) := by decide +kernel
theorem d_Mender_repair_7 : decode c_Mender_repair 7 = .ok (.iconst 0, 1) := by decide +kernel
theorem d_Mender_repair_8 : decode c_Mender_repair 8 = .ok (.putfield 40, 3) := by decide +kernel
theorem d_Mender_repair_11 : decode c_Mender_repair 11 = .ok (.aload_n 0, 1) := by decide +kernel
theorem d_Mender_repair_12 : decode c_Mender_repair 12 = .ok (.getfield 26, 3) := by decide +kernel
theorem d_Mender_repair_15 : decode c_Mender_repair 15 = .ok (.aload_n 1, 1) := by decide +kernel
theorem d_Mender_repair_16 : decode c_Mender_repair 16 = .ok (.invokevirtual 43, 3) := by decide +kernel
theorem d_Mender_repair_19 : decode c_Mender_repair 19 = .ok (.iconst 0, 1) := by decide +kernel
theorem d_Mender_repair_20 : decode c_Mender_repair 20 = .ok (.istore_n 3, 1) := by decide +kernel
theorem d_Mender_repair_21 : decode c_Mender_repair 21 = .ok (.iload_n 3, 1) := by decide +kernel
theorem d_Mender_repair_22 : decode c_Mender_repair 22 = .ok (.iload_n 2, 1) := by decide +kernel
theorem d_Mender_repair_23 : decode c_Mender_repair 23 = .ok (.if_icmp .gt 17, 3) := by decide +kernel
theorem d_Mender_repair_26 : decode c_Mender_repair 26 = .ok (.aload_n 0, 1) := by decide +kernel
theorem d_Mender_repair_27 : decode c_Mender_repair 27 = .ok (.iload_n 3, 1) := by decide +kernel
theorem d_Mender_repair_28 : decode c_Mender_repair 28 = .ok (.iload_n 3, 1) := by decide +kernel
theorem d_Mender_repair_29 : decode c_Mender_repair 29 = .ok (.iconst 0, 1) := by decide +kernel
theorem d_Mender_repair_30 : decode c_Mender_repair 30 = .ok (.iconst 0, 1) := by decide +kernel
theorem d_Mender_repair_31 : decode c_Mender_repair 31 = .ok (.invokevirtual 47, 3) := by decide +kernel
theorem d_Mender_repair_34 : decode c_Mender_repair 34 = .ok (.iinc 3 1, 3) := by decide +kernel
theorem d_Mender_repair_37 : decode c_Mender_repair 37 = .ok (.goto (-16), 3) := by decide +kernel
theorem d_Mender_repair_40 : decode c_Mender_repair 40 = .ok (.aload_n 0, 1) := by decide +kernel
theorem d_Mender_repair_41 : decode c_Mender_repair 41 = .ok (.getfield 36, 3) := by decide +kernel
theorem d_Mender_repair_44 : decode c_Mender_repair 44 = .ok (.ldc 35, 2) := by decide +kernel
theorem d_Mender_repair_46 : decode c_Mender_repair 46 = .ok (.if_icmp .ne 6, 3) := by decide +kernel
theorem d_Mender_repair_49 : decode c_Mender_repair 49 = .ok (.bipush (-6), 2) := by decide +kernel
theorem d_Mender_repair_51 : decode c_Mender_repair 51 = .ok (.ireturn, 1) := by decide +kernel
theorem d_Mender_repair_52 : decode c_Mender_repair 52 = .ok (.aload_n 1, 1) := by decide +kernel
theorem d_Mender_repair_53 : decode c_Mender_repair 53 = .ok (.aload_n 0, 1) := by decide +kernel
theorem d_Mender_repair_54 : decode c_Mender_repair 54 = .ok (.getfield 30, 3) := by decide +kernel
theorem d_Mender_repair_57 : decode c_Mender_repair 57 = .ok (.invokevirtual 43, 3) := by decide +kernel
theorem d_Mender_repair_60 : decode c_Mender_repair 60 = .ok (.aload_n 0, 1) := by decide +kernel
theorem d_Mender_repair_61 : decode c_Mender_repair 61 = .ok (.getfield 36, 3) := by decide +kernel
theorem d_Mender_repair_64 : decode c_Mender_repair 64 = .ok (.ireturn, 1) := by decide +kernel
theorem d_Mender_tryMoves_0 : decode c_Mender_tryMoves 0 = .ok (.iload 4, 2) := by decide +kernel
theorem d_Mender_tryMoves_2 : decode c_Mender_tryMoves 2 = .ok (.aload_n 0, 1) := by decide +kernel
theorem d_Mender_tryMoves_3 : decode c_Mender_tryMoves 3 = .ok (.getfield 36, 3) := by decide +kernel
theorem d_Mender_tryMoves_6 : decode c_Mender_tryMoves 6 = .ok (.if_icmp .le 4, 3) := by decide +kernel
theorem d_Mender_tryMoves_9 : decode c_Mender_tryMoves 9 = .ok (.return_, 1) := by decide +kernel
theorem d_Mender_tryMoves_10 : decode c_Mender_tryMoves 10 = .ok (.iload_n 2, 1) := by decide +kernel
theorem d_Mender_tryMoves_11 : decode c_Mender_tryMoves 11 = .ok (.ifCond .gt 50, 3) := by decide +kernel
theorem d_Mender_tryMoves_14 : decode c_Mender_tryMoves 14 = .ok (.aload_n 0, 1) := by decide +kernel
theorem d_Mender_tryMoves_15 : decode c_Mender_tryMoves 15 = .ok (.iload_n 1, 1) := by decide +kernel
theorem d_Mender_tryMoves_16 : decode c_Mender_tryMoves 16 = .ok (.iload 4, 2) := by decide +kernel
theorem d_Mender_tryMoves_18 : decode c_Mender_tryMoves 18 = .ok (.invokevirtual 51, 3) := by decide +kernel
theorem d_Mender_tryMoves_21 : decode c_Mender_tryMoves 21 = .ok (.ifCond .eq 39, 3) := by decide +kernel
theorem d_Mender_tryMoves_24 : decode c_Mender_tryMoves 24 = .ok (.aload_n 0, 1) := by decide +kernel
theorem d_Mender_tryMoves_25 : decode c_Mender_tryMoves 25 = .ok (.getfield 19, 3) := by decide +kernel
theorem d_Mender_tryMoves_28 : decode c_Mender_tryMoves 28 = .ok (.aload_n 0, 1) := by decide +kernel
theorem d_Mender_tryMoves_29 : decode c_Mender_tryMoves 29 = .ok (.getfield 26, 3) := by decide +kernel
theorem d_Mender_tryMoves_32 : decode c_Mender_tryMoves 32 = .ok (.invokevirtual 55, 3) := by decide +kernel
theorem d_Mender_tryMoves_35 : decode c_Mender_tryMoves 35 = .ok (.ifCond .eq 25, 3) := by decide +kernel
theorem d_Mender_tryMoves_38 : decode c_Mender_tryMoves 38 = .ok (.aload_n 0, 1) := by decide +kernel
theorem d_Mender_tryMoves_39 : decode c_Mender_tryMoves 39 = .ok (.iload 4, 2) := by decide +kernel
theorem d_Mender_tryMoves_41 : decode c_Mender_tryMoves 41 = .ok (.putfield 36, 3) := by decide +kernel
theorem d_Mender_tryMoves_44 : decode c_Mender_tryMoves 44 = .ok (.aload_n 0, 1) := by decide +kernel
theorem d_Mender_tryMoves_45 : decode c_Mender_tryMoves 45 = .ok (.iload_n 1, 1) := by decide +kernel
theorem d_Mender_tryMoves_46 : decode c_Mender_tryMoves 46 = .ok (.putfield 40, 3) := by decide +kernel
theorem d_Mender_tryMoves_49 : decode c_Mender_tryMoves 49 = .ok (.aload_n 0, 1) := by decide +kernel
theorem d_Mender_tryMoves_50 : decode c_Mender_tryMoves 50 = .ok (.getfield 30, 3) := by decide +kernel
theorem d_Mender_tryMoves_53 : decode c_Mender_tryMoves 53 = .ok (.aload_n 0, 1) := by decide +kernel
theorem d_Mender_tryMoves_54 : decode c_Mender_tryMoves 54 = .ok (.getfield 26, 3) := by decide +kernel
theorem d_Mender_tryMoves_57 : decode c_Mender_tryMoves 57 = .ok (.invokevirtual 43, 3) := by decide +kernel
theorem d_Mender_tryMoves_60 : decode c_Mender_tryMoves 60 = .ok (.return_, 1) := by decide +kernel
theorem d_Mender_tryMoves_61 : decode c_Mender_tryMoves 61 = .ok (.iload_n 3, 1) := by decide +kernel
theorem d_Mender_tryMoves_62 : decode c_Mender_tryMoves 62 = .ok (.istore 5, 2) := by decide +kernel
theorem d_Mender_tryMoves_64 : decode c_Mender_tryMoves 64 = .ok (.iload 5, 2) := by decide +kernel
theorem d_Mender_tryMoves_66 : decode c_Mender_tryMoves 66 = .ok (.aload_n 0, 1) := by decide +kernel
theorem d_Mender_tryMoves_67 : decode c_Mender_tryMoves 67 = .ok (.getfield 9, 3) := by decide +kernel
theorem d_Mender_tryMoves_70 : decode c_Mender_tryMoves 70 = .ok (.getfield 61, 3) := by decide +kernel
theorem d_Mender_tryMoves_73 : decode c_Mender_tryMoves 73 = .ok (.if_icmp .ge 96, 3) := by decide +kernel
theorem d_Mender_tryMoves_76 : decode c_Mender_tryMoves 76 = .ok (.aload_n 0, 1) := by decide +kernel
theorem d_Mender_tryMoves_77 : decode c_Mender_tryMoves 77 = .ok (.getfield 26, 3) := by decide +kernel
theorem d_Mender_tryMoves_80 : decode c_Mender_tryMoves 80 = .ok (.getfield 66, 3) := by decide +kernel
theorem d_Mender_tryMoves_83 : decode c_Mender_tryMoves 83 = .ok (.iload 5, 2) := by decide +kernel
theorem d_Mender_tryMoves_85 : decode c_Mender_tryMoves 85 = .ok (.iaload, 1) := by decide +kernel
theorem d_Mender_tryMoves_86 : decode c_Mender_tryMoves 86 = .ok (.istore 6, 2) := by decide +kernel
theorem d_Mender_tryMoves_88 : decode c_Mender_tryMoves 88 = .ok (.iconst 0, 1) := by decide +kernel
theorem d_Mender_tryMoves_89 : decode c_Mender_tryMoves 89 = .ok (.istore 7, 2) := by decide +kernel
theorem d_Mender_tryMoves_91 : decode c_Mender_tryMoves 91 = .ok (.iload 7, 2) := by decide +kernel
theorem d_Mender_tryMoves_93 : decode c_Mender_tryMoves 93 = .ok (.aload_n 0, 1) := by decide +kernel
theorem d_Mender_tryMoves_94 : decode c_Mender_tryMoves 94 = .ok (.getfield 15, 3) := by decide +kernel
theorem d_Mender_tryMoves_97 : decode c_Mender_tryMoves 97 = .ok (.getfield 70, 3) := by decide +kernel
theorem d_Mender_tryMoves_100 : decode c_Mender_tryMoves 100 = .ok (.if_icmp .ge 52, 3) := by decide +kernel
theorem d_Mender_tryMoves_103 : decode c_Mender_tryMoves 103 = .ok (.iload 7, 2) := by decide +kernel
theorem d_Mender_tryMoves_105 : decode c_Mender_tryMoves 105 = .ok (.iload 6, 2) := by decide +kernel
theorem d_Mender_tryMoves_107 : decode c_Mender_tryMoves 107 = .ok (.if_icmp .eq 39, 3) := by decide +kernel
theorem d_Mender_tryMoves_110 : decode c_Mender_tryMoves 110 = .ok (.aload_n 0, 1) := by decide +kernel
theorem d_Mender_tryMoves_111 : decode c_Mender_tryMoves 111 = .ok (.getfield 26, 3) := by decide +kernel
theorem d_Mender_tryMoves_114 : decode c_Mender_tryMoves 114 = .ok (.iload 5, 2) := by decide +kernel
theorem d_Mender_tryMoves_116 : decode c_Mender_tryMoves 116 = .ok (.iload 7, 2) := by decide +kernel
theorem d_Mender_tryMoves_118 : decode c_Mender_tryMoves 118 = .ok (.invokevirtual 75, 3) := by decide +kernel
theorem d_Mender_tryMoves_121 : decode c_Mender_tryMoves 121 = .ok (.aload_n 0, 1) := by decide +kernel
theorem d_Mender_tryMoves_122 : decode c_Mender_tryMoves 122 = .ok (.iload_n 1, 1) := by decide +kernel
theorem d_Mender_tryMoves_123 : decode c_Mender_tryMoves 123 = .ok (.iload_n 2, 1) := by decide +kernel
theorem d_Mender_tryMoves_124 : decode c_Mender_tryMoves 124 = .ok (.iconst 1, 1) := by decide +kernel
theorem d_Mender_tryMoves_125 : decode c_Mender_tryMoves 125 = .ok (.isub, 1) := by decide +kernel
theorem d_Mender_tryMoves_126 : decode c_Mender_tryMoves 126 = .ok (.iload 5, 2) := by decide +kernel
theorem d_Mender_tryMoves_128 : decode c_Mender_tryMoves 128 = .ok (.iconst 1, 1) := by decide +kernel
theorem d_Mender_tryMoves_129 : decode c_Mender_tryMoves 129 = .ok (.iadd, 1) := by decide +kernel
theorem d_Mender_tryMoves_130 : decode c_Mender_tryMoves 130 = .ok (.iload 4, 2) := by decide +kernel
theorem d_Mender_tryMoves_132 : decode c_Mender_tryMoves 132 = .ok (.aload_n 0, 1) := by decide +kernel
theorem d_Mender_tryMoves_133 : decode c_Mender_tryMoves 133 = .ok (.getfield 9, 3) := by decide +kernel
theorem d_Mender_tryMoves_136 : decode c_Mender_tryMoves 136 = .ok (.getfield 79, 3) := by decide +kernel
theorem d_Mender_tryMoves_139 : decode c_Mender_tryMoves 139 = .ok (.iload 5, 2) := by decide +kernel
theorem d_Mender_tryMoves_141 : decode c_Mender_tryMoves 141 = .ok (.iaload, 1) := by decide +kernel
theorem d_Mender_tryMoves_142 : decode c_Mender_tryMoves 142 = .ok (.iadd, 1) := by decide +kernel
theorem d_Mender_tryMoves_143 : decode c_Mender_tryMoves 143 = .ok (.invokevirtual 47, 3) := by decide +kernel
theorem d_Mender_tryMoves_146 : decode c_Mender_tryMoves 146 = .ok (.iinc 7 1, 3) := by decide +kernel
theorem d_Mender_tryMoves_149 : decode c_Mender_tryMoves 149 = .ok (.goto (-58), 3) := by decide +kernel
theorem d_Mender_tryMoves_152 : decode c_Mender_tryMoves 152 = .ok (.aload_n 0, 1) := by decide +kernel
theorem d_Mender_tryMoves_153 : decode c_Mender_tryMoves 153 = .ok (.getfield 26, 3) := by decide +kernel
theorem d_Mender_tryMoves_156 : decode c_Mender_tryMoves 156 = .ok (.iload 5, 2) := by decide +kernel
theorem d_Mender_tryMoves_158 : decode c_Mender_tryMoves 158 = .ok (.iload 6, 2) := by decide +kernel
theorem d_Mender_tryMoves_160 : decode c_Mender_tryMoves 160 = .ok (.invokevirtual 75, 3) := by decide +kernel
theorem d_Mender_tryMoves_163 : decode c_Mender_tryMoves 163 = .ok (.iinc 5 1, 3) := by decide +kernel
theorem d_Mender_tryMoves_166 : decode c_Mender_tryMoves 166 = .ok (.goto (-102), 3) := by decide +kernel
theorem d_Mender_tryMoves_169 : decode c_Mender_tryMoves 169 = .ok (.return_, 1) := by decide +kernel
theorem d_Mender_isBetter_0 : decode c_Mender_isBetter 0 = .ok (.iload_n 2, 1) := by decide +kernel
theorem d_Mender_isBetter_1 : decode c_Mender_isBetter 1 = .ok (.aload_n 0, 1) := by decide +kernel
theorem d_Mender_isBetter_2 : decode c_Mender_isBetter 2 = .ok (.getfield 36, 3) := by decide +kernel
theorem d_Mender_isBetter_5 : decode c_Mender_isBetter 5 = .ok (.if_icmp .lt 33, 3) := by decide +kernel
theorem d_Mender_isBetter_8 : decode c_Mender_isBetter 8 = .ok (.iload_n 2, 1) := by decide +kernel
theorem d_Mender_isBetter_9 : decode c_Mender_isBetter 9 = .ok (.aload_n 0, 1) := by decide +kernel
theorem d_Mender_isBetter_10 : decode c_Mender_isBetter 10 = .ok (.getfield 36, 3) := by decide +kernel
theorem d_Mender_isBetter_13 : decode c_Mender_isBetter 13 = .ok (.if_icmp .ne 29, 3) := by decide +kernel
theorem d_Mender_isBetter_16 : decode c_Mender_isBetter 16 = .ok (.iload_n 1, 1) := by decide +kernel
theorem d_Mender_isBetter_17 : decode c_Mender_isBetter 17 = .ok (.aload_n 0, 1) := by decide +kernel
theorem d_Mender_isBetter_18 : decode c_Mender_isBetter 18 = .ok (.getfield 40, 3) := by decide +kernel
theorem d_Mender_isBetter_21 : decode c_Mender_isBetter 21 = .ok (.if_icmp .ne 21, 3) := by decide +kernel
theorem d_Mender_isBetter_24 : decode c_Mender_isBetter 24 = .ok (.aload_n 0, 1) := by decide +kernel
theorem d_Mender_isBetter_25 : decode c_Mender_isBetter 25 = .ok (.getfield 26, 3) := by decide +kernel
theorem d_Mender_isBetter_28 : decode c_Mender_isBetter 28 = .ok (.aload_n 0, 1) := by decide +kernel
theorem d_Mender_isBetter_29 : decode c_Mender_isBetter 29 = .ok (.getfield 30, 3) := by decide +kernel
theorem d_Mender_isBetter_32 : decode c_Mender_isBetter 32 = .ok (.invokevirtual 82, 3) := by decide +kernel
theorem d_Mender_isBetter_35 : decode c_Mender_isBetter 35 = .ok (.ifCond .eq 7, 3) := by decide +kernel
theorem d_Mender_isBetter_38 : decode c_Mender_isBetter 38 = .ok (.iconst 1, 1) := by decide +kernel
theorem d_Mender_isBetter_39 : decode c_Mender_isBetter 39 = .ok (.goto 4, 3) := by decide +kernel
theorem d_Mender_isBetter_42 : decode c_Mender_isBetter 42 = .ok (.iconst 0, 1) := by decide +kernel
theorem d_Mender_isBetter_43 : decode c_Mender_isBetter 43 = .ok (.ireturn, 1) := by decide +kernel
theorem d_Parting_init_0 : decode c_Parting_init 0 = .ok (.aload_n 0, 1) := by decide +kernel
theorem d_Parting_init_1 : decode c_Parting_init 1 = .ok (.invokespecial 3, 3) := by decide +kernel
theorem d_Parting_init_4 : decode c_Parting_init 4 = .ok (.aload_n 0, 1) := by decide +kernel
theorem d_Parting_init_5 : decode c_Parting_init 5 = .ok (.bipush 30, 2) := by decide +kernel
theorem d_Parting_init_7 : decode c_Parting_init 7 = .ok (.newarray .int, 2) := by decide +kernel
theorem d_Parting_init_9 : decode c_Parting_init 9 = .ok (.putfield 9, 3) := by decide +kernel
theorem d_Parting_init_12 : decode c_Parting_init 12 = .ok (.aload_n 0, 1) := by decide +kernel
theorem d_Parting_init_13 : decode c_Parting_init 13 = .ok (.bipush 6, 2) := by decide +kernel
theorem d_Parting_init_15 : decode c_Parting_init 15 = .ok (.newarray .int, 2) := by decide +kernel
theorem d_Parting_init_17 : decode c_Parting_init 17 = .ok (.putfield 15, 3) := by decide +kernel
theorem d_Parting_init_20 : decode c_Parting_init 20 = .ok (.return_, 1) := by decide +kernel
theorem d_Parting_move_0 : decode c_Parting_move 0 = .ok (.aload_n 0, 1) := by decide +kernel
theorem d_Parting_move_1 : decode c_Parting_move 1 = .ok (.getfield 15, 3) := by decide +kernel
theorem d_Parting_move_4 : decode c_Parting_move 4 = .ok (.aload_n 0, 1) := by decide +kernel
theorem d_Parting_move_5 : decode c_Parting_move 5 = .ok (.getfield 9, 3) := by decide +kernel
theorem d_Parting_move_8 : decode c_Parting_move 8 = .ok (.iload_n 1, 1) := by decide +kernel
theorem d_Parting_move_9 : decode c_Parting_move 9 = .ok (.iaload, 1) := by decide +kernel
theorem d_Parting_move_10 : decode c_Parting_move 10 = .ok (.dup2, 1) := by decide +kernel
theorem d_Parting_move_11 : decode c_Parting_move 11 = .ok (.iaload, 1) := by decide +kernel
theorem d_Parting_move_12 : decode c_Parting_move 12 = .ok (.iload_n 1, 1) := by decide +kernel
theorem d_Parting_move_13 : decode c_Parting_move 13 = .ok (.invokestatic 18, 3) := by decide +kernel
theorem d_Parting_move_16 : decode c_Parting_move 16 = .ok (.iconst (-1), 1) := by decide +kernel
theorem d_Parting_move_17 : decode c_Parting_move 17 = .ok (.ixor, 1) := by decide +kernel
theorem d_Parting_move_18 : decode c_Parting_move 18 = .ok (.iand, 1) := by decide +kernel
theorem d_Parting_move_19 : decode c_Parting_move 19 = .ok (.iastore, 1) := by decide +kernel
theorem d_Parting_move_20 : decode c_Parting_move 20 = .ok (.aload_n 0, 1) := by decide +kernel
theorem d_Parting_move_21 : decode c_Parting_move 21 = .ok (.getfield 15, 3) := by decide +kernel
theorem d_Parting_move_24 : decode c_Parting_move 24 = .ok (.iload_n 2, 1) := by decide +kernel
theorem d_Parting_move_25 : decode c_Parting_move 25 = .ok (.dup2, 1) := by decide +kernel
theorem d_Parting_move_26 : decode c_Parting_move 26 = .ok (.iaload, 1) := by decide +kernel
theorem d_Parting_move_27 : decode c_Parting_move 27 = .ok (.iload_n 1, 1) := by decide +kernel
theorem d_Parting_move_28 : decode c_Parting_move 28 = .ok (.invokestatic 18, 3) := by decide +kernel
theorem d_Parting_move_31 : decode c_Parting_move 31 = .ok (.ior, 1) := by decide +kernel
theorem d_Parting_move_32 : decode c_Parting_move 32 = .ok (.iastore, 1) := by decide +kernel
theorem d_Parting_move_33 : decode c_Parting_move 33 = .ok (.aload_n 0, 1) := by decide +kernel
theorem d_Parting_move_34 : decode c_Parting_move 34 = .ok (.getfield 9, 3) := by decide +kernel
theorem d_Parting_move_37 : decode c_Parting_move 37 = .ok (.iload_n 1, 1) := by decide +kernel
theorem d_Parting_move_38 : decode c_Parting_move 38 = .ok (.iload_n 2, 1) := by decide +kernel
theorem d_Parting_move_39 : decode c_Parting_move 39 = .ok (.iastore, 1) := by decide +kernel
theorem d_Parting_move_40 : decode c_Parting_move 40 = .ok (.return_, 1) := by decide +kernel
theorem d_Parting_gather_0 : decode c_Parting_gather 0 = .ok (.aload_n 0, 1) := by decide +kernel
theorem d_Parting_gather_1 : decode c_Parting_gather 1 = .ok (.getfield 9, 3) := by decide +kernel
theorem d_Parting_gather_4 : decode c_Parting_gather 4 = .ok (.iconst 0, 1) := by decide +kernel
theorem d_Parting_gather_5 : decode c_Parting_gather 5 = .ok (.invokestatic 24, 3) := by decide +kernel
theorem d_Parting_gather_8 : decode c_Parting_gather 8 = .ok (.aload_n 0, 1) := by decide +kernel
theorem d_Parting_gather_9 : decode c_Parting_gather 9 = .ok (.getfield 15, 3) := by decide +kernel
theorem d_Parting_gather_12 : decode c_Parting_gather 12 = .ok (.iconst 0, 1) := by decide +kernel
theorem d_Parting_gather_13 : decode c_Parting_gather 13 = .ok (.invokestatic 24, 3) := by decide +kernel
theorem d_Parting_gather_16 : decode c_Parting_gather 16 = .ok (.aload_n 0, 1) := by decide +kernel
theorem d_Parting_gather_17 : decode c_Parting_gather 17 = .ok (.getfield 15, 3) := by decide +kernel
theorem d_Parting_gather_20 : decode c_Parting_gather 20 = .ok (.iconst 0, 1) := by decide +kernel
theorem d_Parting_gather_21 : decode c_Parting_gather 21 = .ok (.iload_n 1, 1) := by decide +kernel
theorem d_Parting_gather_22 : decode c_Parting_gather 22 = .ok (.iastore, 1) := by decide +kernel
theorem d_Parting_gather_23 : decode c_Parting_gather 23 = .ok (.return_, 1) := by decide +kernel
theorem d_Parting_deal_0 : decode c_Parting_deal 0 = .ok (.aload_n 0, 1) := by decide +kernel
theorem d_Parting_deal_1 : decode c_Parting_deal 1 = .ok (.getfield 15, 3) := by decide +kernel
theorem d_Parting_deal_4 : decode c_Parting_deal 4 = .ok (.iload_n 1, 1) := by decide +kernel
theorem d_Parting_deal_5 : decode c_Parting_deal 5 = .ok (.iload_n 2, 1) := by decide +kernel
theorem d_Parting_deal_6 : decode c_Parting_deal 6 = .ok (.iastore, 1) := by decide +kernel
theorem d_Parting_deal_7 : decode c_Parting_deal 7 = .ok (.iconst 0, 1) := by decide +kernel
theorem d_Parting_deal_8 : decode c_Parting_deal 8 = .ok (.istore_n 3, 1) := by decide +kernel
theorem d_Parting_deal_9 : decode c_Parting_deal 9 = .ok (.iload_n 3, 1) := by decide +kernel
theorem d_Parting_deal_10 : decode c_Parting_deal 10 = .ok (.bipush 30, 2) := by decide +kernel
theorem d_Parting_deal_12 : decode c_Parting_deal 12 = .ok (.if_icmp .ge 24, 3) := by decide +kernel
theorem d_Parting_deal_15 : decode c_Parting_deal 15 = .ok (.iload_n 2, 1) := by decide +kernel
theorem d_Parting_deal_16 : decode c_Parting_deal 16 = .ok (.iload_n 3, 1) := by decide +kernel
theorem d_Parting_deal_17 : decode c_Parting_deal 17 = .ok (.invokestatic 30, 3) := by decide +kernel
theorem d_Parting_deal_20 : decode c_Parting_deal 20 = .ok (.ifCond .eq 10, 3) := by decide +kernel
theorem d_Parting_deal_23 : decode c_Parting_deal 23 = .ok (.aload_n 0, 1) := by decide +kernel
theorem d_Parting_deal_24 : decode c_Parting_deal 24 = .ok (.getfield 9, 3) := by decide +kernel
theorem d_Parting_deal_27 : decode c_Parting_deal 27 = .ok (.iload_n 3, 1) := by decide +kernel
theorem d_Parting_deal_28 : decode c_Parting_deal 28 = .ok (.iload_n 1, 1) := by decide +kernel
theorem d_Parting_deal_29 : decode c_Parting_deal 29 = .ok (.iastore, 1) := by decide +kernel
theorem d_Parting_deal_30 : decode c_Parting_deal 30 = .ok (.iinc 3 1, 3) := by decide +kernel
theorem d_Parting_deal_33 : decode c_Parting_deal 33 = .ok (.goto (-24), 3) := by decide +kernel
theorem d_Parting_deal_36 : decode c_Parting_deal 36 = .ok (.return_, 1) := by decide +kernel
theorem d_Parting_become_0 : decode c_Parting_become 0 = .ok (.aload_n 1, 1) := by decide +kernel
theorem d_Parting_become_1 : decode c_Parting_become 1 = .ok (.getfield 9, 3) := by decide +kernel
theorem d_Parting_become_4 : decode c_Parting_become 4 = .ok (.iconst 0, 1) := by decide +kernel
theorem d_Parting_become_5 : decode c_Parting_become 5 = .ok (.aload_n 0, 1) := by decide +kernel
theorem d_Parting_become_6 : decode c_Parting_become 6 = .ok (.getfield 9, 3) := by decide +kernel
theorem d_Parting_become_9 : decode c_Parting_become 9 = .ok (.iconst 0, 1) := by decide +kernel
theorem d_Parting_become_10 : decode c_Parting_become 10 = .ok (.bipush 30, 2) := by decide +kernel
theorem d_Parting_become_12 : decode c_Parting_become 12 = .ok (.invokestatic 34, 3) := by decide +kernel
theorem d_Parting_become_15 : decode c_Parting_become 15 = .ok (.aload_n 1, 1) := by decide +kernel
theorem d_Parting_become_16 : decode c_Parting_become 16 = .ok (.getfield 15, 3) := by decide +kernel
theorem d_Parting_become_19 : decode c_Parting_become 19 = .ok (.iconst 0, 1) := by decide +kernel
theorem d_Parting_become_20 : decode c_Parting_become 20 = .ok (.aload_n 0, 1) := by decide +kernel
theorem d_Parting_become_21 : decode c_Parting_become 21 = .ok (.getfield 15, 3) := by decide +kernel
theorem d_Parting_become_24 : decode c_Parting_become 24 = .ok (.iconst 0, 1) := by decide +kernel
theorem d_Parting_become_25 : decode c_Parting_become 25 = .ok (.bipush 6, 2) := by decide +kernel
theorem d_Parting_become_27 : decode c_Parting_become 27 = .ok (.invokestatic 34, 3) := by decide +kernel
theorem d_Parting_become_30 : decode c_Parting_become 30 = .ok (.return_, 1) := by decide +kernel
theorem d_Parting_comesAhead_0 : decode c_Parting_comesAhead 0 = .ok (.iconst 0, 1) := by decide +kernel
theorem d_Parting_comesAhead_1 : decode c_Parting_comesAhead 1 = .ok (.istore_n 2, 1) := by decide +kernel
theorem d_Parting_comesAhead_2 : decode c_Parting_comesAhead 2 = .ok (.iload_n 2, 1) := by decide +kernel
theorem d_Parting_comesAhead_3 : decode c_Parting_comesAhead 3 = .ok (.bipush 30, 2) := by decide +kernel
theorem d_Parting_comesAhead_5 : decode c_Parting_comesAhead 5 = .ok (.if_icmp .ge 45, 3) := by decide +kernel
theorem d_Parting_comesAhead_8 : decode c_Parting_comesAhead 8 = .ok (.aload_n 0, 1) := by decide +kernel
theorem d_Parting_comesAhead_9 : decode c_Parting_comesAhead 9 = .ok (.getfield 9, 3) := by decide +kernel
theorem d_Parting_comesAhead_12 : decode c_Parting_comesAhead 12 = .ok (.iload_n 2, 1) := by decide +kernel
theorem d_Parting_comesAhead_13 : decode c_Parting_comesAhead 13 = .ok (.iaload, 1) := by decide +kernel
theorem d_Parting_comesAhead_14 : decode c_Parting_comesAhead 14 = .ok (.aload_n 1, 1) := by decide +kernel
theorem d_Parting_comesAhead_15 : decode c_Parting_comesAhead 15 = .ok (.getfield 9, 3) := by decide +kernel
theorem d_Parting_comesAhead_18 : decode c_Parting_comesAhead 18 = .ok (.iload_n 2, 1) := by decide +kernel
theorem d_Parting_comesAhead_19 : decode c_Parting_comesAhead 19 = .ok (.iaload, 1) := by decide +kernel
theorem d_Parting_comesAhead_20 : decode c_Parting_comesAhead 20 = .ok (.if_icmp .eq 24, 3) := by decide +kernel
theorem d_Parting_comesAhead_23 : decode c_Parting_comesAhead 23 = .ok (.aload_n 0, 1) := by decide +kernel
theorem d_Parting_comesAhead_24 : decode c_Parting_comesAhead 24 = .ok (.getfield 9, 3) := by decide +kernel
theorem d_Parting_comesAhead_27 : decode c_Parting_comesAhead 27 = .ok (.iload_n 2, 1) := by decide +kernel
theorem d_Parting_comesAhead_28 : decode c_Parting_comesAhead 28 = .ok (.iaload, 1) := by decide +kernel
theorem d_Parting_comesAhead_29 : decode c_Parting_comesAhead 29 = .ok (.aload_n 1, 1) := by decide +kernel
theorem d_Parting_comesAhead_30 : decode c_Parting_comesAhead 30 = .ok (.getfield 9, 3) := by decide +kernel
theorem d_Parting_comesAhead_33 : decode c_Parting_comesAhead 33 = .ok (.iload_n 2, 1) := by decide +kernel
theorem d_Parting_comesAhead_34 : decode c_Parting_comesAhead 34 = .ok (.iaload, 1) := by decide +kernel
theorem d_Parting_comesAhead_35 : decode c_Parting_comesAhead 35 = .ok (.if_icmp .ge 7, 3) := by decide +kernel
theorem d_Parting_comesAhead_38 : decode c_Parting_comesAhead 38 = .ok (.iconst 1, 1) := by decide +kernel
theorem d_Parting_comesAhead_39 : decode c_Parting_comesAhead 39 = .ok (.goto 4, 3) := by decide +kernel
theorem d_Parting_comesAhead_42 : decode c_Parting_comesAhead 42 = .ok (.iconst 0, 1) := by decide +kernel
theorem d_Parting_comesAhead_43 : decode c_Parting_comesAhead 43 = .ok (.ireturn, 1) := by decide +kernel
theorem d_Parting_comesAhead_44 : decode c_Parting_comesAhead 44 = .ok (.iinc 2 1, 3) := by decide +kernel
theorem d_Parting_comesAhead_47 : decode c_Parting_comesAhead 47 = .ok (.goto (-45), 3) := by decide +kernel
theorem d_Parting_comesAhead_50 : decode c_Parting_comesAhead 50 = .ok (.iconst 0, 1) := by decide +kernel
theorem d_Parting_comesAhead_51 : decode c_Parting_comesAhead 51 = .ok (.ireturn, 1) := by decide +kernel
theorem d_Scale_init_0 : decode c_Scale_init 0 = .ok (.aload_n 0, 1) := by decide +kernel
theorem d_Scale_init_1 : decode c_Scale_init 1 = .ok (.invokespecial 3, 3) := by decide +kernel
theorem d_Scale_init_4 : decode c_Scale_init 4 = .ok (.aload_n 0, 1) := by decide +kernel
theorem d_Scale_init_5 : decode c_Scale_init 5 = .ok (.aload_n 1, 1) := by decide +kernel
theorem d_Scale_init_6 : decode c_Scale_init 6 = .ok (.putfield 9, 3) := by decide +kernel
theorem d_Scale_init_9 : decode c_Scale_init 9 = .ok (.aload_n 0, 1) := by decide +kernel
theorem d_Scale_init_10 : decode c_Scale_init 10 = .ok (.aload_n 2, 1) := by decide +kernel
theorem d_Scale_init_11 : decode c_Scale_init 11 = .ok (.putfield 15, 3) := by decide +kernel
theorem d_Scale_init_14 : decode c_Scale_init 14 = .ok (.aload_n 0, 1) := by decide +kernel
theorem d_Scale_init_15 : decode c_Scale_init 15 = .ok (.bipush 6, 2) := by decide +kernel
theorem d_Scale_init_17 : decode c_Scale_init 17 = .ok (.newarray .int, 2) := by decide +kernel
theorem d_Scale_init_19 : decode c_Scale_init 19 = .ok (.putfield 19, 3) := by decide +kernel
theorem d_Scale_init_22 : decode c_Scale_init 22 = .ok (.return_, 1) := by decide +kernel
theorem d_Scale_weigh_0 : decode c_Scale_weigh 0 = .ok (.iconst 0, 1) := by decide +kernel
theorem d_Scale_weigh_1 : decode c_Scale_weigh 1 = .ok (.istore_n 3, 1) := by decide +kernel
theorem d_Scale_weigh_2 : decode c_Scale_weigh 2 = .ok (.iload_n 3, 1) := by decide +kernel
theorem d_Scale_weigh_3 : decode c_Scale_weigh 3 = .ok (.aload_n 0, 1) := by decide +kernel
theorem d_Scale_weigh_4 : decode c_Scale_weigh 4 = .ok (.getfield 15, 3) := by decide +kernel
theorem d_Scale_weigh_7 : decode c_Scale_weigh 7 = .ok (.getfield 23, 3) := by decide +kernel
theorem d_Scale_weigh_10 : decode c_Scale_weigh 10 = .ok (.if_icmp .ge 26, 3) := by decide +kernel
theorem d_Scale_weigh_13 : decode c_Scale_weigh 13 = .ok (.aload_n 0, 1) := by decide +kernel
theorem d_Scale_weigh_14 : decode c_Scale_weigh 14 = .ok (.getfield 19, 3) := by decide +kernel
theorem d_Scale_weigh_17 : decode c_Scale_weigh 17 = .ok (.iload_n 3, 1) := by decide +kernel
theorem d_Scale_weigh_18 : decode c_Scale_weigh 18 = .ok (.aload_n 0, 1) := by decide +kernel
theorem d_Scale_weigh_19 : decode c_Scale_weigh 19 = .ok (.aload_n 1, 1) := by decide +kernel
theorem d_Scale_weigh_20 : decode c_Scale_weigh 20 = .ok (.getfield 29, 3) := by decide +kernel
theorem d_Scale_weigh_23 : decode c_Scale_weigh 23 = .ok (.iload_n 3, 1) := by decide +kernel
theorem d_Scale_weigh_24 : decode c_Scale_weigh 24 = .ok (.iaload, 1) := by decide +kernel
theorem d_Scale_weigh_25 : decode c_Scale_weigh 25 = .ok (.iload_n 2, 1) := by decide +kernel
theorem d_Scale_weigh_26 : decode c_Scale_weigh 26 = .ok (.invokevirtual 34, 3) := by decide +kernel
theorem d_Scale_weigh_29 : decode c_Scale_weigh 29 = .ok (.iastore, 1) := by decide +kernel
theorem d_Scale_weigh_30 : decode c_Scale_weigh 30 = .ok (.iinc 3 1, 3) := by decide +kernel
theorem d_Scale_weigh_33 : decode c_Scale_weigh 33 = .ok (.goto (-31), 3) := by decide +kernel
theorem d_Scale_weigh_36 : decode c_Scale_weigh 36 = .ok (.aload_n 0, 1) := by decide +kernel
theorem d_Scale_weigh_37 : decode c_Scale_weigh 37 = .ok (.iload_n 2, 1) := by decide +kernel
theorem d_Scale_weigh_38 : decode c_Scale_weigh 38 = .ok (.invokevirtual 38, 3) := by decide +kernel
theorem d_Scale_weigh_41 : decode c_Scale_weigh 41 = .ok (.ireturn, 1) := by decide +kernel
theorem d_Scale_together_0 : decode c_Scale_together 0 = .ok (.iconst 0, 1) := by decide +kernel
theorem d_Scale_together_1 : decode c_Scale_together 1 = .ok (.istore_n 2, 1) := by decide +kernel
theorem d_Scale_together_2 : decode c_Scale_together 2 = .ok (.iconst 0, 1) := by decide +kernel
theorem d_Scale_together_3 : decode c_Scale_together 3 = .ok (.istore_n 3, 1) := by decide +kernel
theorem d_Scale_together_4 : decode c_Scale_together 4 = .ok (.ldc 44, 2) := by decide +kernel
theorem d_Scale_together_6 : decode c_Scale_together 6 = .ok (.istore 4, 2) := by decide +kernel
theorem d_Scale_together_8 : decode c_Scale_together 8 = .ok (.iconst 0, 1) := by decide +kernel
theorem d_Scale_together_9 : decode c_Scale_together 9 = .ok (.istore 5, 2) := by decide +kernel
theorem d_Scale_together_11 : decode c_Scale_together 11 = .ok (.iload 5, 2) := by decide +kernel
theorem d_Scale_together_13 : decode c_Scale_together 13 = .ok (.aload_n 0, 1) := by decide +kernel
theorem d_Scale_together_14 : decode c_Scale_together 14 = .ok (.getfield 15, 3) := by decide +kernel
theorem d_Scale_together_17 : decode c_Scale_together 17 = .ok (.getfield 23, 3) := by decide +kernel
theorem d_Scale_together_20 : decode c_Scale_together 20 = .ok (.if_icmp .ge 45, 3) := by decide +kernel
theorem d_Scale_together_23 : decode c_Scale_together 23 = .ok (.iload_n 2, 1) := by decide +kernel
theorem d_Scale_together_24 : decode c_Scale_together 24 = .ok (.aload_n 0, 1) := by decide +kernel
theorem d_Scale_together_25 : decode c_Scale_together 25 = .ok (.getfield 19, 3) := by decide +kernel
theorem d_Scale_together_28 : decode c_Scale_together 28 = .ok (.iload 5, 2) := by decide +kernel
theorem d_Scale_together_30 : decode c_Scale_together 30 = .ok (.iaload, 1) := by decide +kernel
theorem d_Scale_together_31 : decode c_Scale_together 31 = .ok (.iadd, 1) := by decide +kernel
theorem d_Scale_together_32 : decode c_Scale_together 32 = .ok (.istore_n 2, 1) := by decide +kernel
theorem d_Scale_together_33 : decode c_Scale_together 33 = .ok (.iload_n 3, 1) := by decide +kernel
theorem d_Scale_together_34 : decode c_Scale_together 34 = .ok (.aload_n 0, 1) := by decide +kernel
theorem d_Scale_together_35 : decode c_Scale_together 35 = .ok (.getfield 19, 3) := by decide +kernel
theorem d_Scale_together_38 : decode c_Scale_together 38 = .ok (.iload 5, 2) := by decide +kernel
theorem d_Scale_together_40 : decode c_Scale_together 40 = .ok (.iaload, 1) := by decide +kernel
theorem d_Scale_together_41 : decode c_Scale_together 41 = .ok (.invokestatic 45, 3) := by decide +kernel
theorem d_Scale_together_44 : decode c_Scale_together 44 = .ok (.istore_n 3, 1) := by decide +kernel
theorem d_Scale_together_45 : decode c_Scale_together 45 = .ok (.iload 4, 2) := by decide +kernel
theorem d_Scale_together_47 : decode c_Scale_together 47 = .ok (.aload_n 0, 1) := by decide +kernel
theorem d_Scale_together_48 : decode c_Scale_together 48 = .ok (.getfield 19, 3) := by decide +kernel
theorem d_Scale_together_51 : decode c_Scale_together 51 = .ok (.iload 5, 2) := by decide +kernel
theorem d_Scale_together_53 : decode c_Scale_together 53 = .ok (.iaload, 1) := by decide +kernel
theorem d_Scale_together_54 : decode c_Scale_together 54 = .ok (.invokestatic 50, 3) := by decide +kernel
theorem d_Scale_together_57 : decode c_Scale_together 57 = .ok (.istore 4, 2) := by decide +kernel
theorem d_Scale_together_59 : decode c_Scale_together 59 = .ok (.iinc 5 1, 3) := by decide +kernel
theorem d_Scale_together_62 : decode c_Scale_together 62 = .ok (.goto (-51), 3) := by decide +kernel
theorem d_Scale_together_65 : decode c_Scale_together 65 = .ok (.iload_n 1, 1) := by decide +kernel
theorem d_Scale_together_66 : decode c_Scale_together 66 = .ok (.bipush 6, 2) := by decide +kernel
theorem d_Scale_together_68 : decode c_Scale_together 68 = .ok (.if_icmp .ne 10, 3) := by decide +kernel
theorem d_Scale_together_71 : decode c_Scale_together 71 = .ok (.iload_n 3, 1) := by decide +kernel
theorem d_Scale_together_72 : decode c_Scale_together 72 = .ok (.iload 4, 2) := by decide +kernel
theorem d_Scale_together_74 : decode c_Scale_together 74 = .ok (.isub, 1) := by decide +kernel
theorem d_Scale_together_75 : decode c_Scale_together 75 = .ok (.goto 4, 3) := by decide +kernel
theorem d_Scale_together_78 : decode c_Scale_together 78 = .ok (.iload_n 2, 1) := by decide +kernel
theorem d_Scale_together_79 : decode c_Scale_together 79 = .ok (.ireturn, 1) := by decide +kernel
theorem d_Scale_shareOf_0 : decode c_Scale_shareOf 0 = .ok (.iload_n 2, 1) := by decide +kernel
theorem d_Scale_shareOf_1 : decode c_Scale_shareOf 1 = .ok (.lookupswitch 62 #[(0, 35), (1, 44), (6, 50)], 35) := by decide +kernel
theorem d_Scale_shareOf_36 : decode c_Scale_shareOf 36 = .ok (.aload_n 0, 1) := by decide +kernel
theorem d_Scale_shareOf_37 : decode c_Scale_shareOf 37 = .ok (.getfield 9, 3) := by decide +kernel
theorem d_Scale_shareOf_40 : decode c_Scale_shareOf 40 = .ok (.iload_n 1, 1) := by decide +kernel
theorem d_Scale_shareOf_41 : decode c_Scale_shareOf 41 = .ok (.invokevirtual 53, 3) := by decide +kernel
theorem d_Scale_shareOf_44 : decode c_Scale_shareOf 44 = .ok (.ireturn, 1) := by decide +kernel
theorem d_Scale_shareOf_45 : decode c_Scale_shareOf 45 = .ok (.aload_n 0, 1) := by decide +kernel
theorem d_Scale_shareOf_46 : decode c_Scale_shareOf 46 = .ok (.iload_n 1, 1) := by decide +kernel
theorem d_Scale_shareOf_47 : decode c_Scale_shareOf 47 = .ok (.invokevirtual 58, 3) := by decide +kernel
theorem d_Scale_shareOf_50 : decode c_Scale_shareOf 50 = .ok (.ireturn, 1) := by decide +kernel
theorem d_Scale_shareOf_51 : decode c_Scale_shareOf 51 = .ok (.aload_n 0, 1) := by decide +kernel
theorem d_Scale_shareOf_52 : decode c_Scale_shareOf 52 = .ok (.getfield 9, 3) := by decide +kernel
theorem d_Scale_shareOf_55 : decode c_Scale_shareOf 55 = .ok (.getfield 61, 3) := by decide +kernel
theorem d_Scale_shareOf_58 : decode c_Scale_shareOf 58 = .ok (.iload_n 1, 1) := by decide +kernel
theorem d_Scale_shareOf_59 : decode c_Scale_shareOf 59 = .ok (.invokestatic 64, 3) := by decide +kernel
theorem d_Scale_shareOf_62 : decode c_Scale_shareOf 62 = .ok (.ireturn, 1) := by decide +kernel
theorem d_Scale_shareOf_63 : decode c_Scale_shareOf 63 = .ok (.aload_n 0, 1) := by decide +kernel
theorem d_Scale_shareOf_64 : decode c_Scale_shareOf 64 = .ok (.iload_n 1, 1) := by decide +kernel
theorem d_Scale_shareOf_65 : decode c_Scale_shareOf 65 = .ok (.iload_n 2, 1) := by decide +kernel
theorem d_Scale_shareOf_66 : decode c_Scale_shareOf 66 = .ok (.invokevirtual 70, 3) := by decide +kernel
theorem d_Scale_shareOf_69 : decode c_Scale_shareOf 69 = .ok (.ireturn, 1) := by decide +kernel
theorem d_Scale_voteShare_0 : decode c_Scale_voteShare 0 = .ok (.aload_n 0, 1) := by decide +kernel
theorem d_Scale_voteShare_1 : decode c_Scale_voteShare 1 = .ok (.getfield 9, 3) := by decide +kernel
theorem d_Scale_voteShare_4 : decode c_Scale_voteShare 4 = .ok (.getfield 73, 3) := by decide +kernel
theorem d_Scale_voteShare_7 : decode c_Scale_voteShare 7 = .ok (.iload_n 1, 1) := by decide +kernel
theorem d_Scale_voteShare_8 : decode c_Scale_voteShare 8 = .ok (.invokestatic 64, 3) := by decide +kernel
theorem d_Scale_voteShare_11 : decode c_Scale_voteShare 11 = .ok (.istore_n 3, 1) := by decide +kernel
theorem d_Scale_voteShare_12 : decode c_Scale_voteShare 12 = .ok (.aload_n 0, 1) := by decide +kernel
theorem d_Scale_voteShare_13 : decode c_Scale_voteShare 13 = .ok (.getfield 9, 3) := by decide +kernel
theorem d_Scale_voteShare_16 : decode c_Scale_voteShare 16 = .ok (.getfield 76, 3) := by decide +kernel
theorem d_Scale_voteShare_19 : decode c_Scale_voteShare 19 = .ok (.iload_n 1, 1) := by decide +kernel
theorem d_Scale_voteShare_20 : decode c_Scale_voteShare 20 = .ok (.invokestatic 64, 3) := by decide +kernel
theorem d_Scale_voteShare_23 : decode c_Scale_voteShare 23 = .ok (.istore 4, 2) := by decide +kernel
theorem d_Scale_voteShare_25 : decode c_Scale_voteShare 25 = .ok (.iload_n 2, 1) := by decide +kernel
theorem d_Scale_voteShare_26 : decode c_Scale_voteShare 26 = .ok (.tableswitch 57 2 4 #[26, 38, 50], 26) := by decide +kernel
theorem d_Scale_voteShare_52 : decode c_Scale_voteShare 52 = .ok (.iload_n 3, 1) := by decide +kernel
theorem d_Scale_voteShare_53 : decode c_Scale_voteShare 53 = .ok (.iload 4, 2) := by decide +kernel
theorem d_Scale_voteShare_55 : decode c_Scale_voteShare 55 = .ok (.if_icmp .le 7, 3) := by decide +kernel
theorem d_Scale_voteShare_58 : decode c_Scale_voteShare 58 = .ok (.iconst 1, 1) := by decide +kernel
theorem d_Scale_voteShare_59 : decode c_Scale_voteShare 59 = .ok (.goto 4, 3) := by decide +kernel
theorem d_Scale_voteShare_62 : decode c_Scale_voteShare 62 = .ok (.iconst 0, 1) := by decide +kernel
theorem d_Scale_voteShare_63 : decode c_Scale_voteShare 63 = .ok (.ireturn, 1) := by decide +kernel
theorem d_Scale_voteShare_64 : decode c_Scale_voteShare 64 = .ok (.iload 4, 2) := by decide +kernel
theorem d_Scale_voteShare_66 : decode c_Scale_voteShare 66 = .ok (.iload_n 3, 1) := by decide +kernel
theorem d_Scale_voteShare_67 : decode c_Scale_voteShare 67 = .ok (.if_icmp .le 7, 3) := by decide +kernel
theorem d_Scale_voteShare_70 : decode c_Scale_voteShare 70 = .ok (.iconst 1, 1) := by decide +kernel
theorem d_Scale_voteShare_71 : decode c_Scale_voteShare 71 = .ok (.goto 4, 3) := by decide +kernel
theorem d_Scale_voteShare_74 : decode c_Scale_voteShare 74 = .ok (.iconst 0, 1) := by decide +kernel
theorem d_Scale_voteShare_75 : decode c_Scale_voteShare 75 = .ok (.ireturn, 1) := by decide +kernel
theorem d_Scale_voteShare_76 : decode c_Scale_voteShare 76 = .ok (.iload_n 3, 1) := by decide +kernel
theorem d_Scale_voteShare_77 : decode c_Scale_voteShare 77 = .ok (.iload 4, 2) := by decide +kernel
theorem d_Scale_voteShare_79 : decode c_Scale_voteShare 79 = .ok (.invokestatic 79, 3) := by decide +kernel
theorem d_Scale_voteShare_82 : decode c_Scale_voteShare 82 = .ok (.ireturn, 1) := by decide +kernel
theorem d_Scale_voteShare_83 : decode c_Scale_voteShare 83 = .ok (.iload 4, 2) := by decide +kernel
theorem d_Scale_voteShare_85 : decode c_Scale_voteShare 85 = .ok (.iload_n 3, 1) := by decide +kernel
theorem d_Scale_voteShare_86 : decode c_Scale_voteShare 86 = .ok (.invokestatic 79, 3) := by decide +kernel
theorem d_Scale_voteShare_89 : decode c_Scale_voteShare 89 = .ok (.ireturn, 1) := by decide +kernel
theorem d_Scale_cutTowns_0 : decode c_Scale_cutTowns 0 = .ok (.iconst 0, 1) := by decide +kernel
theorem d_Scale_cutTowns_1 : decode c_Scale_cutTowns 1 = .ok (.istore_n 2, 1) := by decide +kernel
theorem d_Scale_cutTowns_2 : decode c_Scale_cutTowns 2 = .ok (.iconst 0, 1) := by decide +kernel
theorem d_Scale_cutTowns_3 : decode c_Scale_cutTowns 3 = .ok (.istore_n 3, 1) := by decide +kernel
theorem d_Scale_cutTowns_4 : decode c_Scale_cutTowns 4 = .ok (.iload_n 3, 1) := by decide +kernel
theorem d_Scale_cutTowns_5 : decode c_Scale_cutTowns 5 = .ok (.bipush 10, 2) := by decide +kernel
theorem d_Scale_cutTowns_7 : decode c_Scale_cutTowns 7 = .ok (.if_icmp .ge 49, 3) := by decide +kernel
theorem d_Scale_cutTowns_10 : decode c_Scale_cutTowns 10 = .ok (.aload_n 0, 1) := by decide +kernel
theorem d_Scale_cutTowns_11 : decode c_Scale_cutTowns 11 = .ok (.getfield 9, 3) := by decide +kernel
theorem d_Scale_cutTowns_14 : decode c_Scale_cutTowns 14 = .ok (.getfield 82, 3) := by decide +kernel
theorem d_Scale_cutTowns_17 : decode c_Scale_cutTowns 17 = .ok (.iload_n 3, 1) := by decide +kernel
theorem d_Scale_cutTowns_18 : decode c_Scale_cutTowns 18 = .ok (.iaload, 1) := by decide +kernel
theorem d_Scale_cutTowns_19 : decode c_Scale_cutTowns 19 = .ok (.istore 4, 2) := by decide +kernel
theorem d_Scale_cutTowns_21 : decode c_Scale_cutTowns 21 = .ok (.iload 4, 2) := by decide +kernel
theorem d_Scale_cutTowns_23 : decode c_Scale_cutTowns 23 = .ok (.ifCond .eq 27, 3) := by decide +kernel
theorem d_Scale_cutTowns_26 : decode c_Scale_cutTowns 26 = .ok (.iload_n 1, 1) := by decide +kernel
theorem d_Scale_cutTowns_27 : decode c_Scale_cutTowns 27 = .ok (.iload 4, 2) := by decide +kernel
theorem d_Scale_cutTowns_29 : decode c_Scale_cutTowns 29 = .ok (.invokestatic 85, 3) := by decide +kernel
theorem d_Scale_cutTowns_32 : decode c_Scale_cutTowns 32 = .ok (.invokestatic 88, 3) := by decide +kernel
theorem d_Scale_cutTowns_35 : decode c_Scale_cutTowns 35 = .ok (.ifCond .eq 15, 3) := by decide +kernel
theorem d_Scale_cutTowns_38 : decode c_Scale_cutTowns 38 = .ok (.iload 4, 2) := by decide +kernel
theorem d_Scale_cutTowns_40 : decode c_Scale_cutTowns 40 = .ok (.iload_n 1, 1) := by decide +kernel
theorem d_Scale_cutTowns_41 : decode c_Scale_cutTowns 41 = .ok (.iconst (-1), 1) := by decide +kernel
theorem d_Scale_cutTowns_42 : decode c_Scale_cutTowns 42 = .ok (.ixor, 1) := by decide +kernel
theorem d_Scale_cutTowns_43 : decode c_Scale_cutTowns 43 = .ok (.iand, 1) := by decide +kernel
theorem d_Scale_cutTowns_44 : decode c_Scale_cutTowns 44 = .ok (.ifCond .eq 6, 3) := by decide +kernel
theorem d_Scale_cutTowns_47 : decode c_Scale_cutTowns 47 = .ok (.iinc 2 1, 3) := by decide +kernel
theorem d_Scale_cutTowns_50 : decode c_Scale_cutTowns 50 = .ok (.iinc 3 1, 3) := by decide +kernel
theorem d_Scale_cutTowns_53 : decode c_Scale_cutTowns 53 = .ok (.goto (-49), 3) := by decide +kernel
theorem d_Scale_cutTowns_56 : decode c_Scale_cutTowns 56 = .ok (.iload_n 2, 1) := by decide +kernel
theorem d_Scale_cutTowns_57 : decode c_Scale_cutTowns 57 = .ok (.ireturn, 1) := by decide +kernel
theorem d_Scale_wasted_0 : decode c_Scale_wasted 0 = .ok (.iload_n 0, 1) := by decide +kernel
theorem d_Scale_wasted_1 : decode c_Scale_wasted 1 = .ok (.iload_n 1, 1) := by decide +kernel
theorem d_Scale_wasted_2 : decode c_Scale_wasted 2 = .ok (.if_icmp .le 15, 3) := by decide +kernel
theorem d_Scale_wasted_5 : decode c_Scale_wasted 5 = .ok (.iload_n 0, 1) := by decide +kernel
theorem d_Scale_wasted_6 : decode c_Scale_wasted 6 = .ok (.iload_n 0, 1) := by decide +kernel
theorem d_Scale_wasted_7 : decode c_Scale_wasted 7 = .ok (.iload_n 1, 1) := by decide +kernel
theorem d_Scale_wasted_8 : decode c_Scale_wasted 8 = .ok (.iadd, 1) := by decide +kernel
theorem d_Scale_wasted_9 : decode c_Scale_wasted 9 = .ok (.iconst 2, 1) := by decide +kernel
theorem d_Scale_wasted_10 : decode c_Scale_wasted 10 = .ok (.idiv, 1) := by decide +kernel
theorem d_Scale_wasted_11 : decode c_Scale_wasted 11 = .ok (.isub, 1) := by decide +kernel
theorem d_Scale_wasted_12 : decode c_Scale_wasted 12 = .ok (.iconst 1, 1) := by decide +kernel
theorem d_Scale_wasted_13 : decode c_Scale_wasted 13 = .ok (.isub, 1) := by decide +kernel
theorem d_Scale_wasted_14 : decode c_Scale_wasted 14 = .ok (.goto 4, 3) := by decide +kernel
theorem d_Scale_wasted_17 : decode c_Scale_wasted 17 = .ok (.iload_n 0, 1) := by decide +kernel
theorem d_Scale_wasted_18 : decode c_Scale_wasted 18 = .ok (.ireturn, 1) := by decide +kernel
theorem d_Sets_only_0 : decode c_Sets_only 0 = .ok (.iconst 1, 1) := by decide +kernel
theorem d_Sets_only_1 : decode c_Sets_only 1 = .ok (.bipush 29, 2) := by decide +kernel
theorem d_Sets_only_3 : decode c_Sets_only 3 = .ok (.iload_n 0, 1) := by decide +kernel
theorem d_Sets_only_4 : decode c_Sets_only 4 = .ok (.isub, 1) := by decide +kernel
theorem d_Sets_only_5 : decode c_Sets_only 5 = .ok (.ishl, 1) := by decide +kernel
theorem d_Sets_only_6 : decode c_Sets_only 6 = .ok (.ireturn, 1) := by decide +kernel
theorem d_Sets_has_0 : decode c_Sets_has 0 = .ok (.iload_n 0, 1) := by decide +kernel
theorem d_Sets_has_1 : decode c_Sets_has 1 = .ok (.bipush 29, 2) := by decide +kernel
theorem d_Sets_has_3 : decode c_Sets_has 3 = .ok (.iload_n 1, 1) := by decide +kernel
theorem d_Sets_has_4 : decode c_Sets_has 4 = .ok (.isub, 1) := by decide +kernel
theorem d_Sets_has_5 : decode c_Sets_has 5 = .ok (.iushr, 1) := by decide +kernel
theorem d_Sets_has_6 : decode c_Sets_has 6 = .ok (.iconst 1, 1) := by decide +kernel
theorem d_Sets_has_7 : decode c_Sets_has 7 = .ok (.iand, 1) := by decide +kernel
theorem d_Sets_has_8 : decode c_Sets_has 8 = .ok (.ifCond .eq 7, 3) := by decide +kernel
theorem d_Sets_has_11 : decode c_Sets_has 11 = .ok (.iconst 1, 1) := by decide +kernel
theorem d_Sets_has_12 : decode c_Sets_has 12 = .ok (.goto 4, 3) := by decide +kernel
theorem d_Sets_has_15 : decode c_Sets_has 15 = .ok (.iconst 0, 1) := by decide +kernel
theorem d_Sets_has_16 : decode c_Sets_has 16 = .ok (.ireturn, 1) := by decide +kernel
theorem d_Sets_first_0 : decode c_Sets_first 0 = .ok (.iconst 0, 1) := by decide +kernel
theorem d_Sets_first_1 : decode c_Sets_first 1 = .ok (.istore_n 1, 1) := by decide +kernel
theorem d_Sets_first_2 : decode c_Sets_first 2 = .ok (.iload_n 1, 1) := by decide +kernel
theorem d_Sets_first_3 : decode c_Sets_first 3 = .ok (.bipush 30, 2) := by decide +kernel
theorem d_Sets_first_5 : decode c_Sets_first 5 = .ok (.if_icmp .ge 19, 3) := by decide +kernel
theorem d_Sets_first_8 : decode c_Sets_first 8 = .ok (.iload_n 0, 1) := by decide +kernel
theorem d_Sets_first_9 : decode c_Sets_first 9 = .ok (.iload_n 1, 1) := by decide +kernel
theorem d_Sets_first_10 : decode c_Sets_first 10 = .ok (.invokestatic 9, 3) := by decide +kernel
theorem d_Sets_first_13 : decode c_Sets_first 13 = .ok (.ifCond .eq 5, 3) := by decide +kernel
theorem d_Sets_first_16 : decode c_Sets_first 16 = .ok (.iload_n 1, 1) := by decide +kernel
theorem d_Sets_first_17 : decode c_Sets_first 17 = .ok (.ireturn, 1) := by decide +kernel
theorem d_Sets_first_18 : decode c_Sets_first 18 = .ok (.iinc 1 1, 3) := by decide +kernel
theorem d_Sets_first_21 : decode c_Sets_first 21 = .ok (.goto (-19), 3) := by decide +kernel
theorem d_Sets_first_24 : decode c_Sets_first 24 = .ok (.iconst (-1), 1) := by decide +kernel
theorem d_Sets_first_25 : decode c_Sets_first 25 = .ok (.ireturn, 1) := by decide +kernel
theorem d_Sets_last_0 : decode c_Sets_last 0 = .ok (.bipush 29, 2) := by decide +kernel
theorem d_Sets_last_2 : decode c_Sets_last 2 = .ok (.iload_n 0, 1) := by decide +kernel
theorem d_Sets_last_3 : decode c_Sets_last 3 = .ok (.iload_n 0, 1) := by decide +kernel
theorem d_Sets_last_4 : decode c_Sets_last 4 = .ok (.ineg, 1) := by decide +kernel
theorem d_Sets_last_5 : decode c_Sets_last 5 = .ok (.iand, 1) := by decide +kernel
theorem d_Sets_last_6 : decode c_Sets_last 6 = .ok (.iconst 1, 1) := by decide +kernel
theorem d_Sets_last_7 : decode c_Sets_last 7 = .ok (.isub, 1) := by decide +kernel
theorem d_Sets_last_8 : decode c_Sets_last 8 = .ok (.invokestatic 15, 3) := by decide +kernel
theorem d_Sets_last_11 : decode c_Sets_last 11 = .ok (.isub, 1) := by decide +kernel
theorem d_Sets_last_12 : decode c_Sets_last 12 = .ok (.ireturn, 1) := by decide +kernel
theorem d_Sets_sum_0 : decode c_Sets_sum 0 = .ok (.iconst 0, 1) := by decide +kernel
theorem d_Sets_sum_1 : decode c_Sets_sum 1 = .ok (.istore_n 2, 1) := by decide +kernel
theorem d_Sets_sum_2 : decode c_Sets_sum 2 = .ok (.iload_n 1, 1) := by decide +kernel
theorem d_Sets_sum_3 : decode c_Sets_sum 3 = .ok (.istore_n 3, 1) := by decide +kernel
theorem d_Sets_sum_4 : decode c_Sets_sum 4 = .ok (.iconst 0, 1) := by decide +kernel
theorem d_Sets_sum_5 : decode c_Sets_sum 5 = .ok (.istore 4, 2) := by decide +kernel
theorem d_Sets_sum_7 : decode c_Sets_sum 7 = .ok (.iload 4, 2) := by decide +kernel
theorem d_Sets_sum_9 : decode c_Sets_sum 9 = .ok (.bipush 30, 2) := by decide +kernel
theorem d_Sets_sum_11 : decode c_Sets_sum 11 = .ok (.if_icmp .ge 28, 3) := by decide +kernel
theorem d_Sets_sum_14 : decode c_Sets_sum 14 = .ok (.iload_n 3, 1) := by decide +kernel
theorem d_Sets_sum_15 : decode c_Sets_sum 15 = .ok (.ifCond .eq 24, 3) := by decide +kernel
theorem d_Sets_sum_18 : decode c_Sets_sum 18 = .ok (.iload_n 2, 1) := by decide +kernel
theorem d_Sets_sum_19 : decode c_Sets_sum 19 = .ok (.aload_n 0, 1) := by decide +kernel
theorem d_Sets_sum_20 : decode c_Sets_sum 20 = .ok (.iload_n 3, 1) := by decide +kernel
theorem d_Sets_sum_21 : decode c_Sets_sum 21 = .ok (.invokestatic 21, 3) := by decide +kernel
theorem d_Sets_sum_24 : decode c_Sets_sum 24 = .ok (.iaload, 1) := by decide +kernel
theorem d_Sets_sum_25 : decode c_Sets_sum 25 = .ok (.iadd, 1) := by decide +kernel
theorem d_Sets_sum_26 : decode c_Sets_sum 26 = .ok (.istore_n 2, 1) := by decide +kernel
theorem d_Sets_sum_27 : decode c_Sets_sum 27 = .ok (.iload_n 3, 1) := by decide +kernel
theorem d_Sets_sum_28 : decode c_Sets_sum 28 = .ok (.iload_n 3, 1) := by decide +kernel
theorem d_Sets_sum_29 : decode c_Sets_sum 29 = .ok (.iconst 1, 1) := by decide +kernel
theorem d_Sets_sum_30 : decode c_Sets_sum 30 = .ok (.isub, 1) := by decide +kernel
theorem d_Sets_sum_31 : decode c_Sets_sum 31 = .ok (.iand, 1) := by decide +kernel
theorem d_Sets_sum_32 : decode c_Sets_sum 32 = .ok (.istore_n 3, 1) := by decide +kernel
theorem d_Sets_sum_33 : decode c_Sets_sum 33 = .ok (.iinc 4 1, 3) := by decide +kernel
theorem d_Sets_sum_36 : decode c_Sets_sum 36 = .ok (.goto (-29), 3) := by decide +kernel
theorem d_Sets_sum_39 : decode c_Sets_sum 39 = .ok (.iload_n 2, 1) := by decide +kernel
theorem d_Sets_sum_40 : decode c_Sets_sum 40 = .ok (.ireturn, 1) := by decide +kernel
theorem d_Sets_spread_0 : decode c_Sets_spread 0 = .ok (.iload_n 2, 1) := by decide +kernel
theorem d_Sets_spread_1 : decode c_Sets_spread 1 = .ok (.iload_n 1, 1) := by decide +kernel
theorem d_Sets_spread_2 : decode c_Sets_spread 2 = .ok (.iand, 1) := by decide +kernel
theorem d_Sets_spread_3 : decode c_Sets_spread 3 = .ok (.istore_n 3, 1) := by decide +kernel
theorem d_Sets_spread_4 : decode c_Sets_spread 4 = .ok (.iload_n 3, 1) := by decide +kernel
theorem d_Sets_spread_5 : decode c_Sets_spread 5 = .ok (.istore 4, 2) := by decide +kernel
theorem d_Sets_spread_7 : decode c_Sets_spread 7 = .ok (.iconst 0, 1) := by decide +kernel
theorem d_Sets_spread_8 : decode c_Sets_spread 8 = .ok (.istore 5, 2) := by decide +kernel
theorem d_Sets_spread_10 : decode c_Sets_spread 10 = .ok (.iload 5, 2) := by decide +kernel
theorem d_Sets_spread_12 : decode c_Sets_spread 12 = .ok (.bipush 30, 2) := by decide +kernel
theorem d_Sets_spread_14 : decode c_Sets_spread 14 = .ok (.if_icmp .ge 59, 3) := by decide +kernel
theorem d_Sets_spread_17 : decode c_Sets_spread 17 = .ok (.iload 4, 2) := by decide +kernel
theorem d_Sets_spread_19 : decode c_Sets_spread 19 = .ok (.ifCond .eq 54, 3) := by decide +kernel
theorem d_Sets_spread_22 : decode c_Sets_spread 22 = .ok (.bipush 29, 2) := by decide +kernel
theorem d_Sets_spread_24 : decode c_Sets_spread 24 = .ok (.iload 4, 2) := by decide +kernel
theorem d_Sets_spread_26 : decode c_Sets_spread 26 = .ok (.iload 4, 2) := by decide +kernel
theorem d_Sets_spread_28 : decode c_Sets_spread 28 = .ok (.ineg, 1) := by decide +kernel
theorem d_Sets_spread_29 : decode c_Sets_spread 29 = .ok (.iand, 1) := by decide +kernel
theorem d_Sets_spread_30 : decode c_Sets_spread 30 = .ok (.iconst 1, 1) := by decide +kernel
theorem d_Sets_spread_31 : decode c_Sets_spread 31 = .ok (.isub, 1) := by decide +kernel
theorem d_Sets_spread_32 : decode c_Sets_spread 32 = .ok (.invokestatic 15, 3) := by decide +kernel
theorem d_Sets_spread_35 : decode c_Sets_spread 35 = .ok (.isub, 1) := by decide +kernel
theorem d_Sets_spread_36 : decode c_Sets_spread 36 = .ok (.istore 6, 2) := by decide +kernel
theorem d_Sets_spread_38 : decode c_Sets_spread 38 = .ok (.aload_n 0, 1) := by decide +kernel
theorem d_Sets_spread_39 : decode c_Sets_spread 39 = .ok (.iload 6, 2) := by decide +kernel
theorem d_Sets_spread_41 : decode c_Sets_spread 41 = .ok (.iaload, 1) := by decide +kernel
theorem d_Sets_spread_42 : decode c_Sets_spread 42 = .ok (.iload_n 1, 1) := by decide +kernel
theorem d_Sets_spread_43 : decode c_Sets_spread 43 = .ok (.iand, 1) := by decide +kernel
theorem d_Sets_spread_44 : decode c_Sets_spread 44 = .ok (.iload_n 3, 1) := by decide +kernel
theorem d_Sets_spread_45 : decode c_Sets_spread 45 = .ok (.iconst (-1), 1) := by decide +kernel
theorem d_Sets_spread_46 : decode c_Sets_spread 46 = .ok (.ixor, 1) := by decide +kernel
theorem d_Sets_spread_47 : decode c_Sets_spread 47 = .ok (.iand, 1) := by decide +kernel
theorem d_Sets_spread_48 : decode c_Sets_spread 48 = .ok (.istore 7, 2) := by decide +kernel
theorem d_Sets_spread_50 : decode c_Sets_spread 50 = .ok (.iload_n 3, 1) := by decide +kernel
theorem d_Sets_spread_51 : decode c_Sets_spread 51 = .ok (.iload 7, 2) := by decide +kernel
theorem d_Sets_spread_53 : decode c_Sets_spread 53 = .ok (.ior, 1) := by decide +kernel
theorem d_Sets_spread_54 : decode c_Sets_spread 54 = .ok (.istore_n 3, 1) := by decide +kernel
theorem d_Sets_spread_55 : decode c_Sets_spread 55 = .ok (.iload 4, 2) := by decide +kernel
theorem d_Sets_spread_57 : decode c_Sets_spread 57 = .ok (.iload 4, 2) := by decide +kernel
theorem d_Sets_spread_59 : decode c_Sets_spread 59 = .ok (.iconst 1, 1) := by decide +kernel
theorem d_Sets_spread_60 : decode c_Sets_spread 60 = .ok (.isub, 1) := by decide +kernel
theorem d_Sets_spread_61 : decode c_Sets_spread 61 = .ok (.iand, 1) := by decide +kernel
theorem d_Sets_spread_62 : decode c_Sets_spread 62 = .ok (.iload 7, 2) := by decide +kernel
theorem d_Sets_spread_64 : decode c_Sets_spread 64 = .ok (.ior, 1) := by decide +kernel
theorem d_Sets_spread_65 : decode c_Sets_spread 65 = .ok (.istore 4, 2) := by decide +kernel
theorem d_Sets_spread_67 : decode c_Sets_spread 67 = .ok (.iinc 5 1, 3) := by decide +kernel
theorem d_Sets_spread_70 : decode c_Sets_spread 70 = .ok (.goto (-60), 3) := by decide +kernel
theorem d_Sets_spread_73 : decode c_Sets_spread 73 = .ok (.iload_n 3, 1) := by decide +kernel
theorem d_Sets_spread_74 : decode c_Sets_spread 74 = .ok (.ireturn, 1) := by decide +kernel
theorem d_Walker_init_0 : decode c_Walker_init 0 = .ok (.aload_n 0, 1) := by decide +kernel
theorem d_Walker_init_1 : decode c_Walker_init 1 = .ok (.invokespecial 3, 3) := by decide +kernel
theorem d_Walker_init_4 : decode c_Walker_init 4 = .ok (.aload_n 0, 1) := by decide +kernel
theorem d_Walker_init_5 : decode c_Walker_init 5 = .ok (.aload_n 1, 1) := by decide +kernel
theorem d_Walker_init_6 : decode c_Walker_init 6 = .ok (.putfield 9, 3) := by decide +kernel
theorem d_Walker_init_9 : decode c_Walker_init 9 = .ok (.aload_n 0, 1) := by decide +kernel
theorem d_Walker_init_10 : decode c_Walker_init 10 = .ok (.aload_n 2, 1) := by decide +kernel
theorem d_Walker_init_11 : decode c_Walker_init 11 = .ok (.putfield 15, 3) := by decide +kernel
theorem d_Walker_init_14 : decode c_Walker_init 14 = .ok (.aload_n 0, 1) := by decide +kernel
theorem d_Walker_init_15 : decode c_Walker_init 15 = .ok (.aload_n 3, 1) := by decide +kernel
theorem d_Walker_init_16 : decode c_Walker_init 16 = .ok (.putfield 19, 3) := by decide +kernel
theorem d_Walker_init_19 : decode c_Walker_init 19 = .ok (.aload_n 0, 1) := by decide +kernel
theorem d_Walker_init_20 : decode c_Walker_init 20 = .ok (.bipush 6, 2) := by decide +kernel
theorem d_Walker_init_22 : decode c_Walker_init 22 = .ok (.newarray .int, 2) := by decide +kernel
theorem d_Walker_init_24 : decode c_Walker_init 24 = .ok (.putfield 23, 3) := by decide +kernel
theorem d_Walker_init_27 : decode c_Walker_init 27 = .ok (.aload_n 0, 1) := by decide +kernel
theorem d_Walker_init_28 : decode c_Walker_init 28 = .ok (.new 27, 3) := by decide +kernel
theorem d_Walker_init_31 : decode c_Walker_init 31 = .ok (.dup, 1) := by decide +kernel
theorem d_Walker_init_32 : decode c_Walker_init 32 = .ok (.invokespecial 29, 3) := by decide +kernel
theorem d_Walker_init_35 : decode c_Walker_init 35 = .ok (.putfield 30, 3) := by decide +kernel
theorem d_Walker_init_38 : decode c_Walker_init 38 = .ok (.aload_n 0, 1) := by decide +kernel
theorem d_Walker_init_39 : decode c_Walker_init 39 = .ok (.bipush 30, 2) := by decide +kernel
theorem d_Walker_init_41 : decode c_Walker_init 41 = .ok (.newarray .int, 2) := by decide +kernel
theorem d_Walker_init_43 : decode c_Walker_init 43 = .ok (.putfield 34, 3) := by decide +kernel
theorem d_Walker_init_46 : decode c_Walker_init 46 = .ok (.aload_n 0, 1) := by decide +kernel
theorem d_Walker_init_47 : decode c_Walker_init 47 = .ok (.bipush 30, 2) := by decide +kernel
theorem d_Walker_init_49 : decode c_Walker_init 49 = .ok (.newarray .int, 2) := by decide +kernel
theorem d_Walker_init_51 : decode c_Walker_init 51 = .ok (.putfield 37, 3) := by decide +kernel
theorem d_Walker_init_54 : decode c_Walker_init 54 = .ok (.aload_n 0, 1) := by decide +kernel
theorem d_Walker_init_55 : decode c_Walker_init 55 = .ok (.bipush 100, 2) := by decide +kernel
theorem d_Walker_init_57 : decode c_Walker_init 57 = .ok (.newarray .int, 2) := by decide +kernel
theorem d_Walker_init_59 : decode c_Walker_init 59 = .ok (.putfield 40, 3) := by decide +kernel
theorem d_Walker_init_62 : decode c_Walker_init 62 = .ok (.return_, 1) := by decide +kernel
theorem d_Walker_roam_0 : decode c_Walker_roam 0 = .ok (.aload_n 0, 1) := by decide +kernel
theorem d_Walker_roam_1 : decode c_Walker_roam 1 = .ok (.getfield 30, 3) := by decide +kernel
theorem d_Walker_roam_4 : decode c_Walker_roam 4 = .ok (.aload_n 1, 1) := by decide +kernel
theorem d_Walker_roam_5 : decode c_Walker_roam 5 = .ok (.invokevirtual 43, 3) := by decide +kernel
theorem d_Walker_roam_8 : decode c_Walker_roam 8 = .ok (.aload_n 0, 1) := by decide +kernel
theorem d_Walker_roam_9 : decode c_Walker_roam 9 = .ok (.getfield 19, 3) := by decide +kernel
theorem d_Walker_roam_12 : decode c_Walker_roam 12 = .ok (.aload_n 1, 1) := by decide +kernel
theorem d_Walker_roam_13 : decode c_Walker_roam 13 = .ok (.iload_n 3, 1) := by decide +kernel
theorem d_Walker_roam_14 : decode c_Walker_roam 14 = .ok (.invokevirtual 47, 3) := by decide +kernel
theorem d_Walker_roam_17 : decode c_Walker_roam 17 = .ok (.istore 4, 2) := by decide +kernel
theorem d_Walker_roam_19 : decode c_Walker_roam 19 = .ok (.iload 4, 2) := by decide +kernel
theorem d_Walker_roam_21 : decode c_Walker_roam 21 = .ok (.istore 5, 2) := by decide +kernel
theorem d_Walker_roam_23 : decode c_Walker_roam 23 = .ok (.aload_n 0, 1) := by decide +kernel
theorem d_Walker_roam_24 : decode c_Walker_roam 24 = .ok (.getfield 23, 3) := by decide +kernel
theorem d_Walker_roam_27 : decode c_Walker_roam 27 = .ok (.iconst 0, 1) := by decide +kernel
theorem d_Walker_roam_28 : decode c_Walker_roam 28 = .ok (.invokestatic 53, 3) := by decide +kernel
theorem d_Walker_roam_31 : decode c_Walker_roam 31 = .ok (.iconst 0, 1) := by decide +kernel
theorem d_Walker_roam_32 : decode c_Walker_roam 32 = .ok (.istore 6, 2) := by decide +kernel
theorem d_Walker_roam_34 : decode c_Walker_roam 34 = .ok (.iload 6, 2) := by decide +kernel
theorem d_Walker_roam_36 : decode c_Walker_roam 36 = .ok (.iload_n 2, 1) := by decide +kernel
theorem d_Walker_roam_37 : decode c_Walker_roam 37 = .ok (.if_icmp .ge 116, 3) := by decide +kernel
theorem d_Walker_roam_40 : decode c_Walker_roam 40 = .ok (.aload_n 0, 1) := by decide +kernel
theorem d_Walker_roam_41 : decode c_Walker_roam 41 = .ok (.aload_n 0, 1) := by decide +kernel
theorem d_Walker_roam_42 : decode c_Walker_roam 42 = .ok (.getfield 30, 3) := by decide +kernel
theorem d_Walker_roam_45 : decode c_Walker_roam 45 = .ok (.invokevirtual 59, 3) := by decide +kernel
theorem d_Walker_roam_48 : decode c_Walker_roam 48 = .ok (.ifCond .eq 27, 3) := by decide +kernel
theorem d_Walker_roam_51 : decode c_Walker_roam 51 = .ok (.aload_n 0, 1) := by decide +kernel
theorem d_Walker_roam_52 : decode c_Walker_roam 52 = .ok (.getfield 23, 3) := by decide +kernel
theorem d_Walker_roam_55 : decode c_Walker_roam 55 = .ok (.iconst 5, 1) := by decide +kernel
theorem d_Walker_roam_56 : decode c_Walker_roam 56 = .ok (.dup2, 1) := by decide +kernel
theorem d_Walker_roam_57 : decode c_Walker_roam 57 = .ok (.iaload, 1) := by decide +kernel
theorem d_Walker_roam_58 : decode c_Walker_roam 58 = .ok (.iconst 1, 1) := by decide +kernel
theorem d_Walker_roam_59 : decode c_Walker_roam 59 = .ok (.iadd, 1) := by decide +kernel
theorem d_Walker_roam_60 : decode c_Walker_roam 60 = .ok (.iastore, 1) := by decide +kernel
theorem d_Walker_roam_61 : decode c_Walker_roam 61 = .ok (.aload_n 0, 1) := by decide +kernel
theorem d_Walker_roam_62 : decode c_Walker_roam 62 = .ok (.getfield 19, 3) := by decide +kernel
theorem d_Walker_roam_65 : decode c_Walker_roam 65 = .ok (.aload_n 0, 1) := by decide +kernel
theorem d_Walker_roam_66 : decode c_Walker_roam 66 = .ok (.getfield 30, 3) := by decide +kernel
theorem d_Walker_roam_69 : decode c_Walker_roam 69 = .ok (.iload_n 3, 1) := by decide +kernel
theorem d_Walker_roam_70 : decode c_Walker_roam 70 = .ok (.invokevirtual 47, 3) := by decide +kernel
theorem d_Walker_roam_73 : decode c_Walker_roam 73 = .ok (.istore 5, 2) := by decide +kernel
theorem d_Walker_roam_75 : decode c_Walker_roam 75 = .ok (.aload_n 0, 1) := by decide +kernel
theorem d_Walker_roam_76 : decode c_Walker_roam 76 = .ok (.getfield 23, 3) := by decide +kernel
theorem d_Walker_roam_79 : decode c_Walker_roam 79 = .ok (.iconst 1, 1) := by decide +kernel
theorem d_Walker_roam_80 : decode c_Walker_roam 80 = .ok (.iload 5, 2) := by decide +kernel
theorem d_Walker_roam_82 : decode c_Walker_roam 82 = .ok (.iload 4, 2) := by decide +kernel
theorem d_Walker_roam_84 : decode c_Walker_roam 84 = .ok (.invokestatic 63, 3) := by decide +kernel
theorem d_Walker_roam_87 : decode c_Walker_roam 87 = .ok (.iadd, 1) := by decide +kernel
theorem d_Walker_roam_88 : decode c_Walker_roam 88 = .ok (.dup2, 1) := by decide +kernel
theorem d_Walker_roam_89 : decode c_Walker_roam 89 = .ok (.iaload, 1) := by decide +kernel
theorem d_Walker_roam_90 : decode c_Walker_roam 90 = .ok (.iconst 1, 1) := by decide +kernel
theorem d_Walker_roam_91 : decode c_Walker_roam 91 = .ok (.iadd, 1) := by decide +kernel
theorem d_Walker_roam_92 : decode c_Walker_roam 92 = .ok (.iastore, 1) := by decide +kernel
theorem d_Walker_roam_93 : decode c_Walker_roam 93 = .ok (.aload_n 0, 1) := by decide +kernel
theorem d_Walker_roam_94 : decode c_Walker_roam 94 = .ok (.getfield 23, 3) := by decide +kernel
theorem d_Walker_roam_97 : decode c_Walker_roam 97 = .ok (.iconst 3, 1) := by decide +kernel
theorem d_Walker_roam_98 : decode c_Walker_roam 98 = .ok (.iload 6, 2) := by decide +kernel
theorem d_Walker_roam_100 : decode c_Walker_roam 100 = .ok (.ifCond .ne 8, 3) := by decide +kernel
theorem d_Walker_roam_103 : decode c_Walker_roam 103 = .ok (.iload 5, 2) := by decide +kernel
theorem d_Walker_roam_105 : decode c_Walker_roam 105 = .ok (.goto 14, 3) := by decide +kernel
theorem d_Walker_roam_108 : decode c_Walker_roam 108 = .ok (.aload_n 0, 1) := by decide +kernel
theorem d_Walker_roam_109 : decode c_Walker_roam 109 = .ok (.getfield 23, 3) := by decide +kernel
theorem d_Walker_roam_112 : decode c_Walker_roam 112 = .ok (.iconst 3, 1) := by decide +kernel
theorem d_Walker_roam_113 : decode c_Walker_roam 113 = .ok (.iaload, 1) := by decide +kernel
theorem d_Walker_roam_114 : decode c_Walker_roam 114 = .ok (.iload 5, 2) := by decide +kernel
theorem d_Walker_roam_116 : decode c_Walker_roam 116 = .ok (.invokestatic 69, 3) := by decide +kernel
theorem d_Walker_roam_119 : decode c_Walker_roam 119 = .ok (.iastore, 1) := by decide +kernel
theorem d_Walker_roam_120 : decode c_Walker_roam 120 = .ok (.aload_n 0, 1) := by decide +kernel
theorem d_Walker_roam_121 : decode c_Walker_roam 121 = .ok (.getfield 23, 3) := by decide +kernel
theorem d_Walker_roam_124 : decode c_Walker_roam 124 = .ok (.iconst 4, 1) := by decide +kernel
theorem d_Walker_roam_125 : decode c_Walker_roam 125 = .ok (.iload 6, 2) := by decide +kernel
theorem d_Walker_roam_127 : decode c_Walker_roam 127 = .ok (.ifCond .ne 8, 3) := by decide +kernel
theorem d_Walker_roam_130 : decode c_Walker_roam 130 = .ok (.iload 5, 2) := by decide +kernel
theorem d_Walker_roam_132 : decode c_Walker_roam 132 = .ok (.goto 14, 3) := by decide +kernel
theorem d_Walker_roam_135 : decode c_Walker_roam 135 = .ok (.aload_n 0, 1) := by decide +kernel
theorem d_Walker_roam_136 : decode c_Walker_roam 136 = .ok (.getfield 23, 3) := by decide +kernel
theorem d_Walker_roam_139 : decode c_Walker_roam 139 = .ok (.iconst 4, 1) := by decide +kernel
theorem d_Walker_roam_140 : decode c_Walker_roam 140 = .ok (.iaload, 1) := by decide +kernel
theorem d_Walker_roam_141 : decode c_Walker_roam 141 = .ok (.iload 5, 2) := by decide +kernel
theorem d_Walker_roam_143 : decode c_Walker_roam 143 = .ok (.invokestatic 74, 3) := by decide +kernel
theorem d_Walker_roam_146 : decode c_Walker_roam 146 = .ok (.iastore, 1) := by decide +kernel
theorem d_Walker_roam_147 : decode c_Walker_roam 147 = .ok (.iinc 6 1, 3) := by decide +kernel
theorem d_Walker_roam_150 : decode c_Walker_roam 150 = .ok (.goto (-116), 3) := by decide +kernel
theorem d_Walker_roam_153 : decode c_Walker_roam 153 = .ok (.aload_n 0, 1) := by decide +kernel
theorem d_Walker_roam_154 : decode c_Walker_roam 154 = .ok (.iconst 1, 1) := by decide +kernel
theorem d_Walker_roam_155 : decode c_Walker_roam 155 = .ok (.putfield 77, 3) := by decide +kernel
theorem d_Walker_roam_158 : decode c_Walker_roam 158 = .ok (.return_, 1) := by decide +kernel
theorem d_Walker_takeStep_0 : decode c_Walker_takeStep 0 = .ok (.aload_n 0, 1) := by decide +kernel
theorem d_Walker_takeStep_1 : decode c_Walker_takeStep 1 = .ok (.aload_n 1, 1) := by decide +kernel
theorem d_Walker_takeStep_2 : decode c_Walker_takeStep 2 = .ok (.invokevirtual 81, 3) := by decide +kernel
theorem d_Walker_takeStep_5 : decode c_Walker_takeStep 5 = .ok (.istore_n 2, 1) := by decide +kernel
theorem d_Walker_takeStep_6 : decode c_Walker_takeStep 6 = .ok (.iload_n 2, 1) := by decide +kernel
theorem d_Walker_takeStep_7 : decode c_Walker_takeStep 7 = .ok (.iconst (-1), 1) := by decide +kernel
theorem d_Walker_takeStep_8 : decode c_Walker_takeStep 8 = .ok (.if_icmp .ne 5, 3) := by decide +kernel
theorem d_Walker_takeStep_11 : decode c_Walker_takeStep 11 = .ok (.iconst 0, 1) := by decide +kernel
theorem d_Walker_takeStep_12 : decode c_Walker_takeStep 12 = .ok (.ireturn, 1) := by decide +kernel
theorem d_Walker_takeStep_13 : decode c_Walker_takeStep 13 = .ok (.aload_n 1, 1) := by decide +kernel
theorem d_Walker_takeStep_14 : decode c_Walker_takeStep 14 = .ok (.getfield 85, 3) := by decide +kernel
theorem d_Walker_takeStep_17 : decode c_Walker_takeStep 17 = .ok (.aload_n 0, 1) := by decide +kernel
theorem d_Walker_takeStep_18 : decode c_Walker_takeStep 18 = .ok (.getfield 9, 3) := by decide +kernel
theorem d_Walker_takeStep_21 : decode c_Walker_takeStep 21 = .ok (.getfield 88, 3) := by decide +kernel
theorem d_Walker_takeStep_24 : decode c_Walker_takeStep 24 = .ok (.iload_n 2, 1) := by decide +kernel
theorem d_Walker_takeStep_25 : decode c_Walker_takeStep 25 = .ok (.iaload, 1) := by decide +kernel
theorem d_Walker_takeStep_26 : decode c_Walker_takeStep 26 = .ok (.iaload, 1) := by decide +kernel
theorem d_Walker_takeStep_27 : decode c_Walker_takeStep 27 = .ok (.istore_n 3, 1) := by decide +kernel
theorem d_Walker_takeStep_28 : decode c_Walker_takeStep 28 = .ok (.aload_n 1, 1) := by decide +kernel
theorem d_Walker_takeStep_29 : decode c_Walker_takeStep 29 = .ok (.getfield 85, 3) := by decide +kernel
theorem d_Walker_takeStep_32 : decode c_Walker_takeStep 32 = .ok (.aload_n 0, 1) := by decide +kernel
theorem d_Walker_takeStep_33 : decode c_Walker_takeStep 33 = .ok (.getfield 9, 3) := by decide +kernel
theorem d_Walker_takeStep_36 : decode c_Walker_takeStep 36 = .ok (.getfield 93, 3) := by decide +kernel
theorem d_Walker_takeStep_39 : decode c_Walker_takeStep 39 = .ok (.iload_n 2, 1) := by decide +kernel
theorem d_Walker_takeStep_40 : decode c_Walker_takeStep 40 = .ok (.iaload, 1) := by decide +kernel
theorem d_Walker_takeStep_41 : decode c_Walker_takeStep 41 = .ok (.iaload, 1) := by decide +kernel
theorem d_Walker_takeStep_42 : decode c_Walker_takeStep 42 = .ok (.istore 4, 2) := by decide +kernel
theorem d_Walker_takeStep_44 : decode c_Walker_takeStep 44 = .ok (.iload_n 3, 1) := by decide +kernel
theorem d_Walker_takeStep_45 : decode c_Walker_takeStep 45 = .ok (.iload 4, 2) := by decide +kernel
theorem d_Walker_takeStep_47 : decode c_Walker_takeStep 47 = .ok (.invokestatic 69, 3) := by decide +kernel
theorem d_Walker_takeStep_50 : decode c_Walker_takeStep 50 = .ok (.istore 5, 2) := by decide +kernel
theorem d_Walker_takeStep_52 : decode c_Walker_takeStep 52 = .ok (.iload_n 3, 1) := by decide +kernel
theorem d_Walker_takeStep_53 : decode c_Walker_takeStep 53 = .ok (.iload 4, 2) := by decide +kernel
theorem d_Walker_takeStep_55 : decode c_Walker_takeStep 55 = .ok (.invokestatic 74, 3) := by decide +kernel
theorem d_Walker_takeStep_58 : decode c_Walker_takeStep 58 = .ok (.istore 6, 2) := by decide +kernel
theorem d_Walker_takeStep_60 : decode c_Walker_takeStep 60 = .ok (.aload_n 1, 1) := by decide +kernel
theorem d_Walker_takeStep_61 : decode c_Walker_takeStep 61 = .ok (.getfield 96, 3) := by decide +kernel
theorem d_Walker_takeStep_64 : decode c_Walker_takeStep 64 = .ok (.iload 5, 2) := by decide +kernel
theorem d_Walker_takeStep_66 : decode c_Walker_takeStep 66 = .ok (.iaload, 1) := by decide +kernel
theorem d_Walker_takeStep_67 : decode c_Walker_takeStep 67 = .ok (.istore 7, 2) := by decide +kernel
theorem d_Walker_takeStep_69 : decode c_Walker_takeStep 69 = .ok (.iload 7, 2) := by decide +kernel
theorem d_Walker_takeStep_71 : decode c_Walker_takeStep 71 = .ok (.aload_n 1, 1) := by decide +kernel
theorem d_Walker_takeStep_72 : decode c_Walker_takeStep 72 = .ok (.getfield 96, 3) := by decide +kernel
theorem d_Walker_takeStep_75 : decode c_Walker_takeStep 75 = .ok (.iload 6, 2) := by decide +kernel
theorem d_Walker_takeStep_77 : decode c_Walker_takeStep 77 = .ok (.iaload, 1) := by decide +kernel
theorem d_Walker_takeStep_78 : decode c_Walker_takeStep 78 = .ok (.ior, 1) := by decide +kernel
theorem d_Walker_takeStep_79 : decode c_Walker_takeStep 79 = .ok (.istore 8, 2) := by decide +kernel
theorem d_Walker_takeStep_81 : decode c_Walker_takeStep 81 = .ok (.aload_n 0, 1) := by decide +kernel
theorem d_Walker_takeStep_82 : decode c_Walker_takeStep 82 = .ok (.iload 8, 2) := by decide +kernel
theorem d_Walker_takeStep_84 : decode c_Walker_takeStep 84 = .ok (.invokevirtual 99, 3) := by decide +kernel
theorem d_Walker_takeStep_87 : decode c_Walker_takeStep 87 = .ok (.istore 9, 2) := by decide +kernel
theorem d_Walker_takeStep_89 : decode c_Walker_takeStep 89 = .ok (.iload 9, 2) := by decide +kernel
theorem d_Walker_takeStep_91 : decode c_Walker_takeStep 91 = .ok (.ifCond .eq 10, 3) := by decide +kernel
theorem d_Walker_takeStep_94 : decode c_Walker_takeStep 94 = .ok (.iload 9, 2) := by decide +kernel
theorem d_Walker_takeStep_96 : decode c_Walker_takeStep 96 = .ok (.iload 7, 2) := by decide +kernel
theorem d_Walker_takeStep_98 : decode c_Walker_takeStep 98 = .ok (.if_icmp .ne 5, 3) := by decide +kernel
theorem d_Walker_takeStep_101 : decode c_Walker_takeStep 101 = .ok (.iconst 0, 1) := by decide +kernel
theorem d_Walker_takeStep_102 : decode c_Walker_takeStep 102 = .ok (.ireturn, 1) := by decide +kernel
theorem d_Walker_takeStep_103 : decode c_Walker_takeStep 103 = .ok (.aload_n 1, 1) := by decide +kernel
theorem d_Walker_takeStep_104 : decode c_Walker_takeStep 104 = .ok (.iload 5, 2) := by decide +kernel
theorem d_Walker_takeStep_106 : decode c_Walker_takeStep 106 = .ok (.iload 9, 2) := by decide +kernel
theorem d_Walker_takeStep_108 : decode c_Walker_takeStep 108 = .ok (.invokevirtual 103, 3) := by decide +kernel
theorem d_Walker_takeStep_111 : decode c_Walker_takeStep 111 = .ok (.aload_n 1, 1) := by decide +kernel
theorem d_Walker_takeStep_112 : decode c_Walker_takeStep 112 = .ok (.iload 6, 2) := by decide +kernel
theorem d_Walker_takeStep_114 : decode c_Walker_takeStep 114 = .ok (.iload 8, 2) := by decide +kernel
theorem d_Walker_takeStep_116 : decode c_Walker_takeStep 116 = .ok (.iload 9, 2) := by decide +kernel
theorem d_Walker_takeStep_118 : decode c_Walker_takeStep 118 = .ok (.iconst (-1), 1) := by decide +kernel
theorem d_Walker_takeStep_119 : decode c_Walker_takeStep 119 = .ok (.ixor, 1) := by decide +kernel
theorem d_Walker_takeStep_120 : decode c_Walker_takeStep 120 = .ok (.iand, 1) := by decide +kernel
theorem d_Walker_takeStep_121 : decode c_Walker_takeStep 121 = .ok (.invokevirtual 103, 3) := by decide +kernel
theorem d_Walker_takeStep_124 : decode c_Walker_takeStep 124 = .ok (.aload_n 0, 1) := by decide +kernel
theorem d_Walker_takeStep_125 : decode c_Walker_takeStep 125 = .ok (.getfield 15, 3) := by decide +kernel
theorem d_Walker_takeStep_128 : decode c_Walker_takeStep 128 = .ok (.aload_n 1, 1) := by decide +kernel
theorem d_Walker_takeStep_129 : decode c_Walker_takeStep 129 = .ok (.invokevirtual 107, 3) := by decide +kernel
theorem d_Walker_takeStep_132 : decode c_Walker_takeStep 132 = .ok (.ifCond .eq 5, 3) := by decide +kernel
theorem d_Walker_takeStep_135 : decode c_Walker_takeStep 135 = .ok (.iconst 1, 1) := by decide +kernel
theorem d_Walker_takeStep_136 : decode c_Walker_takeStep 136 = .ok (.ireturn, 1) := by decide +kernel
theorem d_Walker_takeStep_137 : decode c_Walker_takeStep 137 = .ok (.aload_n 1, 1) := by decide +kernel
theorem d_Walker_takeStep_138 : decode c_Walker_takeStep 138 = .ok (.iload 5, 2) := by decide +kernel
theorem d_Walker_takeStep_140 : decode c_Walker_takeStep 140 = .ok (.iload 7, 2) := by decide +kernel
theorem d_Walker_takeStep_142 : decode c_Walker_takeStep 142 = .ok (.invokevirtual 103, 3) := by decide +kernel
theorem d_Walker_takeStep_145 : decode c_Walker_takeStep 145 = .ok (.aload_n 1, 1) := by decide +kernel
theorem d_Walker_takeStep_146 : decode c_Walker_takeStep 146 = .ok (.iload 6, 2) := by decide +kernel
theorem d_Walker_takeStep_148 : decode c_Walker_takeStep 148 = .ok (.iload 8, 2) := by decide +kernel
theorem d_Walker_takeStep_150 : decode c_Walker_takeStep 150 = .ok (.iload 7, 2) := by decide +kernel
theorem d_Walker_takeStep_152 : decode c_Walker_takeStep 152 = .ok (.iconst (-1), 1) := by decide +kernel
theorem d_Walker_takeStep_153 : decode c_Walker_takeStep 153 = .ok (.ixor, 1) := by decide +kernel
theorem d_Walker_takeStep_154 : decode c_Walker_takeStep 154 = .ok (.iand, 1) := by decide +kernel
theorem d_Walker_takeStep_155 : decode c_Walker_takeStep 155 = .ok (.invokevirtual 103, 3) := by decide +kernel
theorem d_Walker_takeStep_158 : decode c_Walker_takeStep 158 = .ok (.iconst 0, 1) := by decide +kernel
theorem d_Walker_takeStep_159 : decode c_Walker_takeStep 159 = .ok (.ireturn, 1) := by decide +kernel
theorem d_Walker_drawLeadingPart_0 : decode c_Walker_drawLeadingPart 0 = .ok (.aload_n 0, 1) := by decide +kernel
theorem d_Walker_drawLeadingPart_1 : decode c_Walker_drawLeadingPart 1 = .ok (.iload_n 1, 1) := by decide +kernel
theorem d_Walker_drawLeadingPart_2 : decode c_Walker_drawLeadingPart 2 = .ok (.invokevirtual 112, 3) := by decide +kernel
theorem d_Walker_drawLeadingPart_5 : decode c_Walker_drawLeadingPart 5 = .ok (.istore_n 2, 1) := by decide +kernel
theorem d_Walker_drawLeadingPart_6 : decode c_Walker_drawLeadingPart 6 = .ok (.aload_n 0, 1) := by decide +kernel
theorem d_Walker_drawLeadingPart_7 : decode c_Walker_drawLeadingPart 7 = .ok (.iload_n 2, 1) := by decide +kernel
theorem d_Walker_drawLeadingPart_8 : decode c_Walker_drawLeadingPart 8 = .ok (.invokevirtual 115, 3) := by decide +kernel
theorem d_Walker_drawLeadingPart_11 : decode c_Walker_drawLeadingPart 11 = .ok (.aload_n 0, 1) := by decide +kernel
theorem d_Walker_drawLeadingPart_12 : decode c_Walker_drawLeadingPart 12 = .ok (.iload_n 1, 1) := by decide +kernel
theorem d_Walker_drawLeadingPart_13 : decode c_Walker_drawLeadingPart 13 = .ok (.invokevirtual 119, 3) := by decide +kernel
theorem d_Walker_drawLeadingPart_16 : decode c_Walker_drawLeadingPart 16 = .ok (.istore_n 3, 1) := by decide +kernel
theorem d_Walker_drawLeadingPart_17 : decode c_Walker_drawLeadingPart 17 = .ok (.iload_n 3, 1) := by decide +kernel
theorem d_Walker_drawLeadingPart_18 : decode c_Walker_drawLeadingPart 18 = .ok (.ifCond .ne 5, 3) := by decide +kernel
theorem d_Walker_drawLeadingPart_21 : decode c_Walker_drawLeadingPart 21 = .ok (.iconst 0, 1) := by decide +kernel
theorem d_Walker_drawLeadingPart_22 : decode c_Walker_drawLeadingPart 22 = .ok (.ireturn, 1) := by decide +kernel
theorem d_Walker_drawLeadingPart_23 : decode c_Walker_drawLeadingPart 23 = .ok (.aload_n 0, 1) := by decide +kernel
theorem d_Walker_drawLeadingPart_24 : decode c_Walker_drawLeadingPart 24 = .ok (.aload_n 0, 1) := by decide +kernel
theorem d_Walker_drawLeadingPart_25 : decode c_Walker_drawLeadingPart 25 = .ok (.getfield 40, 3) := by decide +kernel
theorem d_Walker_drawLeadingPart_28 : decode c_Walker_drawLeadingPart 28 = .ok (.aload_n 0, 1) := by decide +kernel
theorem d_Walker_drawLeadingPart_29 : decode c_Walker_drawLeadingPart 29 = .ok (.invokevirtual 122, 3) := by decide +kernel
theorem d_Walker_drawLeadingPart_32 : decode c_Walker_drawLeadingPart 32 = .ok (.iload_n 3, 1) := by decide +kernel
theorem d_Walker_drawLeadingPart_33 : decode c_Walker_drawLeadingPart 33 = .ok (.irem, 1) := by decide +kernel
theorem d_Walker_drawLeadingPart_34 : decode c_Walker_drawLeadingPart 34 = .ok (.iaload, 1) := by decide +kernel
theorem d_Walker_drawLeadingPart_35 : decode c_Walker_drawLeadingPart 35 = .ok (.iload_n 1, 1) := by decide +kernel
theorem d_Walker_drawLeadingPart_36 : decode c_Walker_drawLeadingPart 36 = .ok (.invokevirtual 126, 3) := by decide +kernel
theorem d_Walker_drawLeadingPart_39 : decode c_Walker_drawLeadingPart 39 = .ok (.istore 4, 2) := by decide +kernel
theorem d_Walker_drawLeadingPart_41 : decode c_Walker_drawLeadingPart 41 = .ok (.iload 4, 2) := by decide +kernel
theorem d_Walker_drawLeadingPart_43 : decode c_Walker_drawLeadingPart 43 = .ok (.iload_n 1, 1) := by decide +kernel
theorem d_Walker_drawLeadingPart_44 : decode c_Walker_drawLeadingPart 44 = .ok (.invokestatic 129, 3) := by decide +kernel
theorem d_Walker_drawLeadingPart_47 : decode c_Walker_drawLeadingPart 47 = .ok (.invokestatic 134, 3) := by decide +kernel
theorem d_Walker_drawLeadingPart_50 : decode c_Walker_drawLeadingPart 50 = .ok (.ifCond .eq 8, 3) := by decide +kernel
theorem d_Walker_drawLeadingPart_53 : decode c_Walker_drawLeadingPart 53 = .ok (.iload 4, 2) := by decide +kernel
theorem d_Walker_drawLeadingPart_55 : decode c_Walker_drawLeadingPart 55 = .ok (.goto 9, 3) := by decide +kernel
theorem d_Walker_drawLeadingPart_58 : decode c_Walker_drawLeadingPart 58 = .ok (.iload_n 1, 1) := by decide +kernel
theorem d_Walker_drawLeadingPart_59 : decode c_Walker_drawLeadingPart 59 = .ok (.iload 4, 2) := by decide +kernel
theorem d_Walker_drawLeadingPart_61 : decode c_Walker_drawLeadingPart 61 = .ok (.iconst (-1), 1) := by decide +kernel
theorem d_Walker_drawLeadingPart_62 : decode c_Walker_drawLeadingPart 62 = .ok (.ixor, 1) := by decide +kernel
theorem d_Walker_drawLeadingPart_63 : decode c_Walker_drawLeadingPart 63 = .ok (.iand, 1) := by decide +kernel
theorem d_Walker_drawLeadingPart_64 : decode c_Walker_drawLeadingPart 64 = .ok (.ireturn, 1) := by decide +kernel
theorem d_Walker_draw_0 : decode c_Walker_draw 0 = .ok (.aload_n 0, 1) := by decide +kernel
end
section
theorem d_Walker_draw_1 : decode c_Walker_draw 1 = .ok (.aload_n 0, 1) := by decide +kernel
theorem d_Walker_draw_2 : decode c_Walker_draw 2 = .ok (.getfield 138, 3) := by decide +kernel
theorem d_Walker_draw_5 : decode c_Walker_draw 5 = .ok (.ldc 142, 2) := by decide +kernel
theorem d_Walker_draw_7 : decode c_Walker_draw 7 = .ok (.imul, 1) := by decide +kernel
theorem d_Walker_draw_8 : decode c_Walker_draw 8 = .ok (.sipush 12345, 3) := by decide +kernel
theorem d_Walker_draw_11 : decode c_Walker_draw 11 = .ok (.iadd, 1) := by decide +kernel
theorem d_Walker_draw_12 : decode c_Walker_draw 12 = .ok (.putfield 138, 3) := by decide +kernel
theorem d_Walker_draw_15 : decode c_Walker_draw 15 = .ok (.aload_n 0, 1) := by decide +kernel
theorem d_Walker_draw_16 : decode c_Walker_draw 16 = .ok (.getfield 138, 3) := by decide +kernel
theorem d_Walker_draw_19 : decode c_Walker_draw 19 = .ok (.bipush 16, 2) := by decide +kernel
theorem d_Walker_draw_21 : decode c_Walker_draw 21 = .ok (.iushr, 1) := by decide +kernel
theorem d_Walker_draw_22 : decode c_Walker_draw 22 = .ok (.ireturn, 1) := by decide +kernel
theorem d_Walker_drawCrossing_0 : decode c_Walker_drawCrossing 0 = .ok (.iconst 0, 1) := by decide +kernel
theorem d_Walker_drawCrossing_1 : decode c_Walker_drawCrossing 1 = .ok (.istore_n 2, 1) := by decide +kernel
theorem d_Walker_drawCrossing_2 : decode c_Walker_drawCrossing 2 = .ok (.iconst 0, 1) := by decide +kernel
theorem d_Walker_drawCrossing_3 : decode c_Walker_drawCrossing 3 = .ok (.istore_n 3, 1) := by decide +kernel
theorem d_Walker_drawCrossing_4 : decode c_Walker_drawCrossing 4 = .ok (.iload_n 3, 1) := by decide +kernel
theorem d_Walker_drawCrossing_5 : decode c_Walker_drawCrossing 5 = .ok (.aload_n 0, 1) := by decide +kernel
theorem d_Walker_drawCrossing_6 : decode c_Walker_drawCrossing 6 = .ok (.getfield 9, 3) := by decide +kernel
theorem d_Walker_drawCrossing_9 : decode c_Walker_drawCrossing 9 = .ok (.getfield 143, 3) := by decide +kernel
theorem d_Walker_drawCrossing_12 : decode c_Walker_drawCrossing 12 = .ok (.if_icmp .ge 50, 3) := by decide +kernel
theorem d_Walker_drawCrossing_15 : decode c_Walker_drawCrossing 15 = .ok (.aload_n 1, 1) := by decide +kernel
theorem d_Walker_drawCrossing_16 : decode c_Walker_drawCrossing 16 = .ok (.getfield 85, 3) := by decide +kernel
theorem d_Walker_drawCrossing_19 : decode c_Walker_drawCrossing 19 = .ok (.aload_n 0, 1) := by decide +kernel
theorem d_Walker_drawCrossing_20 : decode c_Walker_drawCrossing 20 = .ok (.getfield 9, 3) := by decide +kernel
theorem d_Walker_drawCrossing_23 : decode c_Walker_drawCrossing 23 = .ok (.getfield 88, 3) := by decide +kernel
theorem d_Walker_drawCrossing_26 : decode c_Walker_drawCrossing 26 = .ok (.iload_n 3, 1) := by decide +kernel
theorem d_Walker_drawCrossing_27 : decode c_Walker_drawCrossing 27 = .ok (.iaload, 1) := by decide +kernel
theorem d_Walker_drawCrossing_28 : decode c_Walker_drawCrossing 28 = .ok (.iaload, 1) := by decide +kernel
theorem d_Walker_drawCrossing_29 : decode c_Walker_drawCrossing 29 = .ok (.aload_n 1, 1) := by decide +kernel
theorem d_Walker_drawCrossing_30 : decode c_Walker_drawCrossing 30 = .ok (.getfield 85, 3) := by decide +kernel
theorem d_Walker_drawCrossing_33 : decode c_Walker_drawCrossing 33 = .ok (.aload_n 0, 1) := by decide +kernel
theorem d_Walker_drawCrossing_34 : decode c_Walker_drawCrossing 34 = .ok (.getfield 9, 3) := by decide +kernel
theorem d_Walker_drawCrossing_37 : decode c_Walker_drawCrossing 37 = .ok (.getfield 93, 3) := by decide +kernel
theorem d_Walker_drawCrossing_40 : decode c_Walker_drawCrossing 40 = .ok (.iload_n 3, 1) := by decide +kernel
theorem d_Walker_drawCrossing_41 : decode c_Walker_drawCrossing 41 = .ok (.iaload, 1) := by decide +kernel
theorem d_Walker_drawCrossing_42 : decode c_Walker_drawCrossing 42 = .ok (.iaload, 1) := by decide +kernel
theorem d_Walker_drawCrossing_43 : decode c_Walker_drawCrossing 43 = .ok (.if_icmp .eq 13, 3) := by decide +kernel
theorem d_Walker_drawCrossing_46 : decode c_Walker_drawCrossing 46 = .ok (.aload_n 0, 1) := by decide +kernel
theorem d_Walker_drawCrossing_47 : decode c_Walker_drawCrossing 47 = .ok (.getfield 40, 3) := by decide +kernel
theorem d_Walker_drawCrossing_50 : decode c_Walker_drawCrossing 50 = .ok (.iload_n 2, 1) := by decide +kernel
theorem d_Walker_drawCrossing_51 : decode c_Walker_drawCrossing 51 = .ok (.iload_n 3, 1) := by decide +kernel
theorem d_Walker_drawCrossing_52 : decode c_Walker_drawCrossing 52 = .ok (.iastore, 1) := by decide +kernel
theorem d_Walker_drawCrossing_53 : decode c_Walker_drawCrossing 53 = .ok (.iinc 2 1, 3) := by decide +kernel
theorem d_Walker_drawCrossing_56 : decode c_Walker_drawCrossing 56 = .ok (.iinc 3 1, 3) := by decide +kernel
theorem d_Walker_drawCrossing_59 : decode c_Walker_drawCrossing 59 = .ok (.goto (-55), 3) := by decide +kernel
theorem d_Walker_drawCrossing_62 : decode c_Walker_drawCrossing 62 = .ok (.iload_n 2, 1) := by decide +kernel
theorem d_Walker_drawCrossing_63 : decode c_Walker_drawCrossing 63 = .ok (.ifCond .ne 7, 3) := by decide +kernel
theorem d_Walker_drawCrossing_66 : decode c_Walker_drawCrossing 66 = .ok (.iconst (-1), 1) := by decide +kernel
theorem d_Walker_drawCrossing_67 : decode c_Walker_drawCrossing 67 = .ok (.goto 14, 3) := by decide +kernel
theorem d_Walker_drawCrossing_70 : decode c_Walker_drawCrossing 70 = .ok (.aload_n 0, 1) := by decide +kernel
theorem d_Walker_drawCrossing_71 : decode c_Walker_drawCrossing 71 = .ok (.getfield 40, 3) := by decide +kernel
theorem d_Walker_drawCrossing_74 : decode c_Walker_drawCrossing 74 = .ok (.aload_n 0, 1) := by decide +kernel
theorem d_Walker_drawCrossing_75 : decode c_Walker_drawCrossing 75 = .ok (.invokevirtual 122, 3) := by decide +kernel
theorem d_Walker_drawCrossing_78 : decode c_Walker_drawCrossing 78 = .ok (.iload_n 2, 1) := by decide +kernel
theorem d_Walker_drawCrossing_79 : decode c_Walker_drawCrossing 79 = .ok (.irem, 1) := by decide +kernel
theorem d_Walker_drawCrossing_80 : decode c_Walker_drawCrossing 80 = .ok (.iaload, 1) := by decide +kernel
theorem d_Walker_drawCrossing_81 : decode c_Walker_drawCrossing 81 = .ok (.ireturn, 1) := by decide +kernel
theorem d_Walker_drawOrder_0 : decode c_Walker_drawOrder 0 = .ok (.iconst 0, 1) := by decide +kernel
theorem d_Walker_drawOrder_1 : decode c_Walker_drawOrder 1 = .ok (.istore_n 2, 1) := by decide +kernel
theorem d_Walker_drawOrder_2 : decode c_Walker_drawOrder 2 = .ok (.iconst 0, 1) := by decide +kernel
theorem d_Walker_drawOrder_3 : decode c_Walker_drawOrder 3 = .ok (.istore_n 3, 1) := by decide +kernel
theorem d_Walker_drawOrder_4 : decode c_Walker_drawOrder 4 = .ok (.iload_n 3, 1) := by decide +kernel
theorem d_Walker_drawOrder_5 : decode c_Walker_drawOrder 5 = .ok (.aload_n 0, 1) := by decide +kernel
theorem d_Walker_drawOrder_6 : decode c_Walker_drawOrder 6 = .ok (.getfield 9, 3) := by decide +kernel
theorem d_Walker_drawOrder_9 : decode c_Walker_drawOrder 9 = .ok (.getfield 143, 3) := by decide +kernel
theorem d_Walker_drawOrder_12 : decode c_Walker_drawOrder 12 = .ok (.if_icmp .ge 38, 3) := by decide +kernel
theorem d_Walker_drawOrder_15 : decode c_Walker_drawOrder 15 = .ok (.aload_n 0, 1) := by decide +kernel
theorem d_Walker_drawOrder_16 : decode c_Walker_drawOrder 16 = .ok (.getfield 9, 3) := by decide +kernel
theorem d_Walker_drawOrder_19 : decode c_Walker_drawOrder 19 = .ok (.iload_n 3, 1) := by decide +kernel
theorem d_Walker_drawOrder_20 : decode c_Walker_drawOrder 20 = .ok (.iload_n 1, 1) := by decide +kernel
theorem d_Walker_drawOrder_21 : decode c_Walker_drawOrder 21 = .ok (.invokevirtual 146, 3) := by decide +kernel
theorem d_Walker_drawOrder_24 : decode c_Walker_drawOrder 24 = .ok (.ifCond .eq 20, 3) := by decide +kernel
theorem d_Walker_drawOrder_27 : decode c_Walker_drawOrder 27 = .ok (.aload_n 0, 1) := by decide +kernel
theorem d_Walker_drawOrder_28 : decode c_Walker_drawOrder 28 = .ok (.aload_n 0, 1) := by decide +kernel
theorem d_Walker_drawOrder_29 : decode c_Walker_drawOrder 29 = .ok (.invokevirtual 122, 3) := by decide +kernel
theorem d_Walker_drawOrder_32 : decode c_Walker_drawOrder 32 = .ok (.bipush 100, 2) := by decide +kernel
theorem d_Walker_drawOrder_34 : decode c_Walker_drawOrder 34 = .ok (.imul, 1) := by decide +kernel
theorem d_Walker_drawOrder_35 : decode c_Walker_drawOrder 35 = .ok (.iload_n 3, 1) := by decide +kernel
theorem d_Walker_drawOrder_36 : decode c_Walker_drawOrder 36 = .ok (.iadd, 1) := by decide +kernel
theorem d_Walker_drawOrder_37 : decode c_Walker_drawOrder 37 = .ok (.iload_n 2, 1) := by decide +kernel
theorem d_Walker_drawOrder_38 : decode c_Walker_drawOrder 38 = .ok (.invokevirtual 149, 3) := by decide +kernel
theorem d_Walker_drawOrder_41 : decode c_Walker_drawOrder 41 = .ok (.iinc 2 1, 3) := by decide +kernel
theorem d_Walker_drawOrder_44 : decode c_Walker_drawOrder 44 = .ok (.iinc 3 1, 3) := by decide +kernel
theorem d_Walker_drawOrder_47 : decode c_Walker_drawOrder 47 = .ok (.goto (-43), 3) := by decide +kernel
theorem d_Walker_drawOrder_50 : decode c_Walker_drawOrder 50 = .ok (.iload_n 2, 1) := by decide +kernel
theorem d_Walker_drawOrder_51 : decode c_Walker_drawOrder 51 = .ok (.ireturn, 1) := by decide +kernel
theorem d_Walker_insert_0 : decode c_Walker_insert 0 = .ok (.iload_n 2, 1) := by decide +kernel
theorem d_Walker_insert_1 : decode c_Walker_insert 1 = .ok (.istore_n 3, 1) := by decide +kernel
theorem d_Walker_insert_2 : decode c_Walker_insert 2 = .ok (.iload_n 3, 1) := by decide +kernel
theorem d_Walker_insert_3 : decode c_Walker_insert 3 = .ok (.ifCond .le 35, 3) := by decide +kernel
theorem d_Walker_insert_6 : decode c_Walker_insert 6 = .ok (.aload_n 0, 1) := by decide +kernel
theorem d_Walker_insert_7 : decode c_Walker_insert 7 = .ok (.getfield 40, 3) := by decide +kernel
theorem d_Walker_insert_10 : decode c_Walker_insert 10 = .ok (.iload_n 3, 1) := by decide +kernel
theorem d_Walker_insert_11 : decode c_Walker_insert 11 = .ok (.iconst 1, 1) := by decide +kernel
theorem d_Walker_insert_12 : decode c_Walker_insert 12 = .ok (.isub, 1) := by decide +kernel
theorem d_Walker_insert_13 : decode c_Walker_insert 13 = .ok (.iaload, 1) := by decide +kernel
theorem d_Walker_insert_14 : decode c_Walker_insert 14 = .ok (.iload_n 1, 1) := by decide +kernel
theorem d_Walker_insert_15 : decode c_Walker_insert 15 = .ok (.if_icmp .le 23, 3) := by decide +kernel
theorem d_Walker_insert_18 : decode c_Walker_insert 18 = .ok (.aload_n 0, 1) := by decide +kernel
theorem d_Walker_insert_19 : decode c_Walker_insert 19 = .ok (.getfield 40, 3) := by decide +kernel
theorem d_Walker_insert_22 : decode c_Walker_insert 22 = .ok (.iload_n 3, 1) := by decide +kernel
theorem d_Walker_insert_23 : decode c_Walker_insert 23 = .ok (.aload_n 0, 1) := by decide +kernel
theorem d_Walker_insert_24 : decode c_Walker_insert 24 = .ok (.getfield 40, 3) := by decide +kernel
theorem d_Walker_insert_27 : decode c_Walker_insert 27 = .ok (.iload_n 3, 1) := by decide +kernel
theorem d_Walker_insert_28 : decode c_Walker_insert 28 = .ok (.iconst 1, 1) := by decide +kernel
theorem d_Walker_insert_29 : decode c_Walker_insert 29 = .ok (.isub, 1) := by decide +kernel
theorem d_Walker_insert_30 : decode c_Walker_insert 30 = .ok (.iaload, 1) := by decide +kernel
theorem d_Walker_insert_31 : decode c_Walker_insert 31 = .ok (.iastore, 1) := by decide +kernel
theorem d_Walker_insert_32 : decode c_Walker_insert 32 = .ok (.iinc 3 (-1), 3) := by decide +kernel
theorem d_Walker_insert_35 : decode c_Walker_insert 35 = .ok (.goto (-33), 3) := by decide +kernel
theorem d_Walker_insert_38 : decode c_Walker_insert 38 = .ok (.aload_n 0, 1) := by decide +kernel
theorem d_Walker_insert_39 : decode c_Walker_insert 39 = .ok (.getfield 40, 3) := by decide +kernel
theorem d_Walker_insert_42 : decode c_Walker_insert 42 = .ok (.iload_n 3, 1) := by decide +kernel
theorem d_Walker_insert_43 : decode c_Walker_insert 43 = .ok (.iload_n 1, 1) := by decide +kernel
theorem d_Walker_insert_44 : decode c_Walker_insert 44 = .ok (.iastore, 1) := by decide +kernel
theorem d_Walker_insert_45 : decode c_Walker_insert 45 = .ok (.return_, 1) := by decide +kernel
theorem d_Walker_growTree_0 : decode c_Walker_growTree 0 = .ok (.iconst 0, 1) := by decide +kernel
theorem d_Walker_growTree_1 : decode c_Walker_growTree 1 = .ok (.istore_n 2, 1) := by decide +kernel
theorem d_Walker_growTree_2 : decode c_Walker_growTree 2 = .ok (.iload_n 2, 1) := by decide +kernel
theorem d_Walker_growTree_3 : decode c_Walker_growTree 3 = .ok (.bipush 30, 2) := by decide +kernel
theorem d_Walker_growTree_5 : decode c_Walker_growTree 5 = .ok (.if_icmp .ge 26, 3) := by decide +kernel
theorem d_Walker_growTree_8 : decode c_Walker_growTree 8 = .ok (.aload_n 0, 1) := by decide +kernel
theorem d_Walker_growTree_9 : decode c_Walker_growTree 9 = .ok (.getfield 34, 3) := by decide +kernel
theorem d_Walker_growTree_12 : decode c_Walker_growTree 12 = .ok (.iload_n 2, 1) := by decide +kernel
theorem d_Walker_growTree_13 : decode c_Walker_growTree 13 = .ok (.iconst 0, 1) := by decide +kernel
theorem d_Walker_growTree_14 : decode c_Walker_growTree 14 = .ok (.iastore, 1) := by decide +kernel
theorem d_Walker_growTree_15 : decode c_Walker_growTree 15 = .ok (.aload_n 0, 1) := by decide +kernel
theorem d_Walker_growTree_16 : decode c_Walker_growTree 16 = .ok (.getfield 37, 3) := by decide +kernel
theorem d_Walker_growTree_19 : decode c_Walker_growTree 19 = .ok (.iload_n 2, 1) := by decide +kernel
theorem d_Walker_growTree_20 : decode c_Walker_growTree 20 = .ok (.iload_n 2, 1) := by decide +kernel
theorem d_Walker_growTree_21 : decode c_Walker_growTree 21 = .ok (.invokestatic 152, 3) := by decide +kernel
theorem d_Walker_growTree_24 : decode c_Walker_growTree 24 = .ok (.iastore, 1) := by decide +kernel
theorem d_Walker_growTree_25 : decode c_Walker_growTree 25 = .ok (.iinc 2 1, 3) := by decide +kernel
theorem d_Walker_growTree_28 : decode c_Walker_growTree 28 = .ok (.goto (-26), 3) := by decide +kernel
theorem d_Walker_growTree_31 : decode c_Walker_growTree 31 = .ok (.iconst 0, 1) := by decide +kernel
theorem d_Walker_growTree_32 : decode c_Walker_growTree 32 = .ok (.istore_n 2, 1) := by decide +kernel
theorem d_Walker_growTree_33 : decode c_Walker_growTree 33 = .ok (.iload_n 2, 1) := by decide +kernel
theorem d_Walker_growTree_34 : decode c_Walker_growTree 34 = .ok (.iload_n 1, 1) := by decide +kernel
theorem d_Walker_growTree_35 : decode c_Walker_growTree 35 = .ok (.if_icmp .ge 70, 3) := by decide +kernel
theorem d_Walker_growTree_38 : decode c_Walker_growTree 38 = .ok (.aload_n 0, 1) := by decide +kernel
theorem d_Walker_growTree_39 : decode c_Walker_growTree 39 = .ok (.getfield 40, 3) := by decide +kernel
theorem d_Walker_growTree_42 : decode c_Walker_growTree 42 = .ok (.iload_n 2, 1) := by decide +kernel
theorem d_Walker_growTree_43 : decode c_Walker_growTree 43 = .ok (.iaload, 1) := by decide +kernel
theorem d_Walker_growTree_44 : decode c_Walker_growTree 44 = .ok (.bipush 100, 2) := by decide +kernel
theorem d_Walker_growTree_46 : decode c_Walker_growTree 46 = .ok (.irem, 1) := by decide +kernel
theorem d_Walker_growTree_47 : decode c_Walker_growTree 47 = .ok (.istore_n 3, 1) := by decide +kernel
theorem d_Walker_growTree_48 : decode c_Walker_growTree 48 = .ok (.aload_n 0, 1) := by decide +kernel
theorem d_Walker_growTree_49 : decode c_Walker_growTree 49 = .ok (.getfield 37, 3) := by decide +kernel
theorem d_Walker_growTree_52 : decode c_Walker_growTree 52 = .ok (.aload_n 0, 1) := by decide +kernel
theorem d_Walker_growTree_53 : decode c_Walker_growTree 53 = .ok (.getfield 9, 3) := by decide +kernel
theorem d_Walker_growTree_56 : decode c_Walker_growTree 56 = .ok (.getfield 88, 3) := by decide +kernel
theorem d_Walker_growTree_59 : decode c_Walker_growTree 59 = .ok (.iload_n 3, 1) := by decide +kernel
theorem d_Walker_growTree_60 : decode c_Walker_growTree 60 = .ok (.iaload, 1) := by decide +kernel
theorem d_Walker_growTree_61 : decode c_Walker_growTree 61 = .ok (.iaload, 1) := by decide +kernel
theorem d_Walker_growTree_62 : decode c_Walker_growTree 62 = .ok (.aload_n 0, 1) := by decide +kernel
theorem d_Walker_growTree_63 : decode c_Walker_growTree 63 = .ok (.getfield 9, 3) := by decide +kernel
theorem d_Walker_growTree_66 : decode c_Walker_growTree 66 = .ok (.getfield 93, 3) := by decide +kernel
theorem d_Walker_growTree_69 : decode c_Walker_growTree 69 = .ok (.iload_n 3, 1) := by decide +kernel
theorem d_Walker_growTree_70 : decode c_Walker_growTree 70 = .ok (.iaload, 1) := by decide +kernel
theorem d_Walker_growTree_71 : decode c_Walker_growTree 71 = .ok (.invokestatic 134, 3) := by decide +kernel
theorem d_Walker_growTree_74 : decode c_Walker_growTree 74 = .ok (.ifCond .ne 25, 3) := by decide +kernel
theorem d_Walker_growTree_77 : decode c_Walker_growTree 77 = .ok (.aload_n 0, 1) := by decide +kernel
theorem d_Walker_growTree_78 : decode c_Walker_growTree 78 = .ok (.aload_n 0, 1) := by decide +kernel
theorem d_Walker_growTree_79 : decode c_Walker_growTree 79 = .ok (.getfield 9, 3) := by decide +kernel
theorem d_Walker_growTree_82 : decode c_Walker_growTree 82 = .ok (.getfield 88, 3) := by decide +kernel
theorem d_Walker_growTree_85 : decode c_Walker_growTree 85 = .ok (.iload_n 3, 1) := by decide +kernel
theorem d_Walker_growTree_86 : decode c_Walker_growTree 86 = .ok (.iaload, 1) := by decide +kernel
theorem d_Walker_growTree_87 : decode c_Walker_growTree 87 = .ok (.aload_n 0, 1) := by decide +kernel
theorem d_Walker_growTree_88 : decode c_Walker_growTree 88 = .ok (.getfield 9, 3) := by decide +kernel
theorem d_Walker_growTree_91 : decode c_Walker_growTree 91 = .ok (.getfield 93, 3) := by decide +kernel
theorem d_Walker_growTree_94 : decode c_Walker_growTree 94 = .ok (.iload_n 3, 1) := by decide +kernel
theorem d_Walker_growTree_95 : decode c_Walker_growTree 95 = .ok (.iaload, 1) := by decide +kernel
theorem d_Walker_growTree_96 : decode c_Walker_growTree 96 = .ok (.invokevirtual 155, 3) := by decide +kernel
theorem d_Walker_growTree_99 : decode c_Walker_growTree 99 = .ok (.iinc 2 1, 3) := by decide +kernel
theorem d_Walker_growTree_102 : decode c_Walker_growTree 102 = .ok (.goto (-69), 3) := by decide +kernel
theorem d_Walker_growTree_105 : decode c_Walker_growTree 105 = .ok (.return_, 1) := by decide +kernel
theorem d_Walker_join_0 : decode c_Walker_join 0 = .ok (.aload_n 0, 1) := by decide +kernel
theorem d_Walker_join_1 : decode c_Walker_join 1 = .ok (.getfield 34, 3) := by decide +kernel
theorem d_Walker_join_4 : decode c_Walker_join 4 = .ok (.iload_n 1, 1) := by decide +kernel
theorem d_Walker_join_5 : decode c_Walker_join 5 = .ok (.dup2, 1) := by decide +kernel
theorem d_Walker_join_6 : decode c_Walker_join 6 = .ok (.iaload, 1) := by decide +kernel
theorem d_Walker_join_7 : decode c_Walker_join 7 = .ok (.iload_n 2, 1) := by decide +kernel
theorem d_Walker_join_8 : decode c_Walker_join 8 = .ok (.invokestatic 152, 3) := by decide +kernel
theorem d_Walker_join_11 : decode c_Walker_join 11 = .ok (.ior, 1) := by decide +kernel
theorem d_Walker_join_12 : decode c_Walker_join 12 = .ok (.iastore, 1) := by decide +kernel
theorem d_Walker_join_13 : decode c_Walker_join 13 = .ok (.aload_n 0, 1) := by decide +kernel
theorem d_Walker_join_14 : decode c_Walker_join 14 = .ok (.getfield 34, 3) := by decide +kernel
theorem d_Walker_join_17 : decode c_Walker_join 17 = .ok (.iload_n 2, 1) := by decide +kernel
theorem d_Walker_join_18 : decode c_Walker_join 18 = .ok (.dup2, 1) := by decide +kernel
theorem d_Walker_join_19 : decode c_Walker_join 19 = .ok (.iaload, 1) := by decide +kernel
theorem d_Walker_join_20 : decode c_Walker_join 20 = .ok (.iload_n 1, 1) := by decide +kernel
theorem d_Walker_join_21 : decode c_Walker_join 21 = .ok (.invokestatic 152, 3) := by decide +kernel
theorem d_Walker_join_24 : decode c_Walker_join 24 = .ok (.ior, 1) := by decide +kernel
theorem d_Walker_join_25 : decode c_Walker_join 25 = .ok (.iastore, 1) := by decide +kernel
theorem d_Walker_join_26 : decode c_Walker_join 26 = .ok (.aload_n 0, 1) := by decide +kernel
theorem d_Walker_join_27 : decode c_Walker_join 27 = .ok (.getfield 37, 3) := by decide +kernel
theorem d_Walker_join_30 : decode c_Walker_join 30 = .ok (.iload_n 1, 1) := by decide +kernel
theorem d_Walker_join_31 : decode c_Walker_join 31 = .ok (.iaload, 1) := by decide +kernel
theorem d_Walker_join_32 : decode c_Walker_join 32 = .ok (.aload_n 0, 1) := by decide +kernel
theorem d_Walker_join_33 : decode c_Walker_join 33 = .ok (.getfield 37, 3) := by decide +kernel
theorem d_Walker_join_36 : decode c_Walker_join 36 = .ok (.iload_n 2, 1) := by decide +kernel
theorem d_Walker_join_37 : decode c_Walker_join 37 = .ok (.iaload, 1) := by decide +kernel
theorem d_Walker_join_38 : decode c_Walker_join 38 = .ok (.ior, 1) := by decide +kernel
theorem d_Walker_join_39 : decode c_Walker_join 39 = .ok (.istore_n 3, 1) := by decide +kernel
theorem d_Walker_join_40 : decode c_Walker_join 40 = .ok (.iconst 0, 1) := by decide +kernel
theorem d_Walker_join_41 : decode c_Walker_join 41 = .ok (.istore 4, 2) := by decide +kernel
theorem d_Walker_join_43 : decode c_Walker_join 43 = .ok (.iload 4, 2) := by decide +kernel
theorem d_Walker_join_45 : decode c_Walker_join 45 = .ok (.bipush 30, 2) := by decide +kernel
theorem d_Walker_join_47 : decode c_Walker_join 47 = .ok (.if_icmp .ge 26, 3) := by decide +kernel
theorem d_Walker_join_50 : decode c_Walker_join 50 = .ok (.iload_n 3, 1) := by decide +kernel
theorem d_Walker_join_51 : decode c_Walker_join 51 = .ok (.iload 4, 2) := by decide +kernel
theorem d_Walker_join_53 : decode c_Walker_join 53 = .ok (.invokestatic 134, 3) := by decide +kernel
theorem d_Walker_join_56 : decode c_Walker_join 56 = .ok (.ifCond .eq 11, 3) := by decide +kernel
theorem d_Walker_join_59 : decode c_Walker_join 59 = .ok (.aload_n 0, 1) := by decide +kernel
theorem d_Walker_join_60 : decode c_Walker_join 60 = .ok (.getfield 37, 3) := by decide +kernel
theorem d_Walker_join_63 : decode c_Walker_join 63 = .ok (.iload 4, 2) := by decide +kernel
theorem d_Walker_join_65 : decode c_Walker_join 65 = .ok (.iload_n 3, 1) := by decide +kernel
theorem d_Walker_join_66 : decode c_Walker_join 66 = .ok (.iastore, 1) := by decide +kernel
theorem d_Walker_join_67 : decode c_Walker_join 67 = .ok (.iinc 4 1, 3) := by decide +kernel
theorem d_Walker_join_70 : decode c_Walker_join 70 = .ok (.goto (-27), 3) := by decide +kernel
theorem d_Walker_join_73 : decode c_Walker_join 73 = .ok (.return_, 1) := by decide +kernel
theorem d_Walker_findSeams_0 : decode c_Walker_findSeams 0 = .ok (.iconst 0, 1) := by decide +kernel
theorem d_Walker_findSeams_1 : decode c_Walker_findSeams 1 = .ok (.istore_n 2, 1) := by decide +kernel
theorem d_Walker_findSeams_2 : decode c_Walker_findSeams 2 = .ok (.aload_n 0, 1) := by decide +kernel
theorem d_Walker_findSeams_3 : decode c_Walker_findSeams 3 = .ok (.getfield 9, 3) := by decide +kernel
theorem d_Walker_findSeams_6 : decode c_Walker_findSeams 6 = .ok (.getfield 158, 3) := by decide +kernel
theorem d_Walker_findSeams_9 : decode c_Walker_findSeams 9 = .ok (.iload_n 1, 1) := by decide +kernel
theorem d_Walker_findSeams_10 : decode c_Walker_findSeams 10 = .ok (.invokestatic 161, 3) := by decide +kernel
theorem d_Walker_findSeams_13 : decode c_Walker_findSeams 13 = .ok (.istore_n 3, 1) := by decide +kernel
theorem d_Walker_findSeams_14 : decode c_Walker_findSeams 14 = .ok (.iconst 0, 1) := by decide +kernel
theorem d_Walker_findSeams_15 : decode c_Walker_findSeams 15 = .ok (.istore 4, 2) := by decide +kernel
theorem d_Walker_findSeams_17 : decode c_Walker_findSeams 17 = .ok (.iload 4, 2) := by decide +kernel
theorem d_Walker_findSeams_19 : decode c_Walker_findSeams 19 = .ok (.aload_n 0, 1) := by decide +kernel
theorem d_Walker_findSeams_20 : decode c_Walker_findSeams 20 = .ok (.getfield 9, 3) := by decide +kernel
theorem d_Walker_findSeams_23 : decode c_Walker_findSeams 23 = .ok (.getfield 143, 3) := by decide +kernel
theorem d_Walker_findSeams_26 : decode c_Walker_findSeams 26 = .ok (.if_icmp .ge 96, 3) := by decide +kernel
theorem d_Walker_findSeams_29 : decode c_Walker_findSeams 29 = .ok (.aload_n 0, 1) := by decide +kernel
theorem d_Walker_findSeams_30 : decode c_Walker_findSeams 30 = .ok (.getfield 34, 3) := by decide +kernel
theorem d_Walker_findSeams_33 : decode c_Walker_findSeams 33 = .ok (.aload_n 0, 1) := by decide +kernel
theorem d_Walker_findSeams_34 : decode c_Walker_findSeams 34 = .ok (.getfield 9, 3) := by decide +kernel
theorem d_Walker_findSeams_37 : decode c_Walker_findSeams 37 = .ok (.getfield 88, 3) := by decide +kernel
theorem d_Walker_findSeams_40 : decode c_Walker_findSeams 40 = .ok (.iload 4, 2) := by decide +kernel
theorem d_Walker_findSeams_42 : decode c_Walker_findSeams 42 = .ok (.iaload, 1) := by decide +kernel
theorem d_Walker_findSeams_43 : decode c_Walker_findSeams 43 = .ok (.iaload, 1) := by decide +kernel
theorem d_Walker_findSeams_44 : decode c_Walker_findSeams 44 = .ok (.aload_n 0, 1) := by decide +kernel
theorem d_Walker_findSeams_45 : decode c_Walker_findSeams 45 = .ok (.getfield 9, 3) := by decide +kernel
theorem d_Walker_findSeams_48 : decode c_Walker_findSeams 48 = .ok (.getfield 93, 3) := by decide +kernel
theorem d_Walker_findSeams_51 : decode c_Walker_findSeams 51 = .ok (.iload 4, 2) := by decide +kernel
theorem d_Walker_findSeams_53 : decode c_Walker_findSeams 53 = .ok (.iaload, 1) := by decide +kernel
theorem d_Walker_findSeams_54 : decode c_Walker_findSeams 54 = .ok (.invokestatic 134, 3) := by decide +kernel
theorem d_Walker_findSeams_57 : decode c_Walker_findSeams 57 = .ok (.ifCond .eq 59, 3) := by decide +kernel
theorem d_Walker_findSeams_60 : decode c_Walker_findSeams 60 = .ok (.aload_n 0, 1) := by decide +kernel
theorem d_Walker_findSeams_61 : decode c_Walker_findSeams 61 = .ok (.getfield 9, 3) := by decide +kernel
theorem d_Walker_findSeams_64 : decode c_Walker_findSeams 64 = .ok (.getfield 158, 3) := by decide +kernel
theorem d_Walker_findSeams_67 : decode c_Walker_findSeams 67 = .ok (.aload_n 0, 1) := by decide +kernel
theorem d_Walker_findSeams_68 : decode c_Walker_findSeams 68 = .ok (.iload 4, 2) := by decide +kernel
theorem d_Walker_findSeams_70 : decode c_Walker_findSeams 70 = .ok (.iload_n 1, 1) := by decide +kernel
theorem d_Walker_findSeams_71 : decode c_Walker_findSeams 71 = .ok (.invokevirtual 126, 3) := by decide +kernel
theorem d_Walker_findSeams_74 : decode c_Walker_findSeams 74 = .ok (.invokestatic 161, 3) := by decide +kernel
theorem d_Walker_findSeams_77 : decode c_Walker_findSeams 77 = .ok (.istore 5, 2) := by decide +kernel
theorem d_Walker_findSeams_79 : decode c_Walker_findSeams 79 = .ok (.aload_n 0, 1) := by decide +kernel
theorem d_Walker_findSeams_80 : decode c_Walker_findSeams 80 = .ok (.getfield 15, 3) := by decide +kernel
theorem d_Walker_findSeams_83 : decode c_Walker_findSeams 83 = .ok (.iload 5, 2) := by decide +kernel
theorem d_Walker_findSeams_85 : decode c_Walker_findSeams 85 = .ok (.invokevirtual 165, 3) := by decide +kernel
theorem d_Walker_findSeams_88 : decode c_Walker_findSeams 88 = .ok (.ifCond .eq 28, 3) := by decide +kernel
theorem d_Walker_findSeams_91 : decode c_Walker_findSeams 91 = .ok (.aload_n 0, 1) := by decide +kernel
theorem d_Walker_findSeams_92 : decode c_Walker_findSeams 92 = .ok (.getfield 15, 3) := by decide +kernel
theorem d_Walker_findSeams_95 : decode c_Walker_findSeams 95 = .ok (.iload_n 3, 1) := by decide +kernel
theorem d_Walker_findSeams_96 : decode c_Walker_findSeams 96 = .ok (.iload 5, 2) := by decide +kernel
theorem d_Walker_findSeams_98 : decode c_Walker_findSeams 98 = .ok (.isub, 1) := by decide +kernel
theorem d_Walker_findSeams_99 : decode c_Walker_findSeams 99 = .ok (.invokevirtual 165, 3) := by decide +kernel
theorem d_Walker_findSeams_102 : decode c_Walker_findSeams 102 = .ok (.ifCond .eq 14, 3) := by decide +kernel
theorem d_Walker_findSeams_105 : decode c_Walker_findSeams 105 = .ok (.aload_n 0, 1) := by decide +kernel
theorem d_Walker_findSeams_106 : decode c_Walker_findSeams 106 = .ok (.getfield 40, 3) := by decide +kernel
theorem d_Walker_findSeams_109 : decode c_Walker_findSeams 109 = .ok (.iload_n 2, 1) := by decide +kernel
theorem d_Walker_findSeams_110 : decode c_Walker_findSeams 110 = .ok (.iload 4, 2) := by decide +kernel
theorem d_Walker_findSeams_112 : decode c_Walker_findSeams 112 = .ok (.iastore, 1) := by decide +kernel
theorem d_Walker_findSeams_113 : decode c_Walker_findSeams 113 = .ok (.iinc 2 1, 3) := by decide +kernel
theorem d_Walker_findSeams_116 : decode c_Walker_findSeams 116 = .ok (.iinc 4 1, 3) := by decide +kernel
theorem d_Walker_findSeams_119 : decode c_Walker_findSeams 119 = .ok (.goto (-102), 3) := by decide +kernel
theorem d_Walker_findSeams_122 : decode c_Walker_findSeams 122 = .ok (.iload_n 2, 1) := by decide +kernel
theorem d_Walker_findSeams_123 : decode c_Walker_findSeams 123 = .ok (.ireturn, 1) := by decide +kernel
theorem d_Walker_partBefore_0 : decode c_Walker_partBefore 0 = .ok (.iload_n 2, 1) := by decide +kernel
theorem d_Walker_partBefore_1 : decode c_Walker_partBefore 1 = .ok (.aload_n 0, 1) := by decide +kernel
theorem d_Walker_partBefore_2 : decode c_Walker_partBefore 2 = .ok (.getfield 9, 3) := by decide +kernel
theorem d_Walker_partBefore_5 : decode c_Walker_partBefore 5 = .ok (.getfield 93, 3) := by decide +kernel
theorem d_Walker_partBefore_8 : decode c_Walker_partBefore 8 = .ok (.iload_n 1, 1) := by decide +kernel
theorem d_Walker_partBefore_9 : decode c_Walker_partBefore 9 = .ok (.iaload, 1) := by decide +kernel
theorem d_Walker_partBefore_10 : decode c_Walker_partBefore 10 = .ok (.invokestatic 152, 3) := by decide +kernel
theorem d_Walker_partBefore_13 : decode c_Walker_partBefore 13 = .ok (.iconst (-1), 1) := by decide +kernel
theorem d_Walker_partBefore_14 : decode c_Walker_partBefore 14 = .ok (.ixor, 1) := by decide +kernel
theorem d_Walker_partBefore_15 : decode c_Walker_partBefore 15 = .ok (.iand, 1) := by decide +kernel
theorem d_Walker_partBefore_16 : decode c_Walker_partBefore 16 = .ok (.istore_n 3, 1) := by decide +kernel
theorem d_Walker_partBefore_17 : decode c_Walker_partBefore 17 = .ok (.aload_n 0, 1) := by decide +kernel
theorem d_Walker_partBefore_18 : decode c_Walker_partBefore 18 = .ok (.getfield 34, 3) := by decide +kernel
theorem d_Walker_partBefore_21 : decode c_Walker_partBefore 21 = .ok (.iload_n 3, 1) := by decide +kernel
theorem d_Walker_partBefore_22 : decode c_Walker_partBefore 22 = .ok (.aload_n 0, 1) := by decide +kernel
theorem d_Walker_partBefore_23 : decode c_Walker_partBefore 23 = .ok (.getfield 9, 3) := by decide +kernel
theorem d_Walker_partBefore_26 : decode c_Walker_partBefore 26 = .ok (.getfield 88, 3) := by decide +kernel
theorem d_Walker_partBefore_29 : decode c_Walker_partBefore 29 = .ok (.iload_n 1, 1) := by decide +kernel
theorem d_Walker_partBefore_30 : decode c_Walker_partBefore 30 = .ok (.iaload, 1) := by decide +kernel
theorem d_Walker_partBefore_31 : decode c_Walker_partBefore 31 = .ok (.invokestatic 152, 3) := by decide +kernel
theorem d_Walker_partBefore_34 : decode c_Walker_partBefore 34 = .ok (.invokestatic 169, 3) := by decide +kernel
theorem d_Walker_partBefore_37 : decode c_Walker_partBefore 37 = .ok (.ireturn, 1) := by decide +kernel
theorem d_DC_init_0 : decode c_DC_init 0 = .ok (.aload_n 0, 1) := by decide +kernel
theorem d_DC_init_1 : decode c_DC_init 1 = .ok (.invokespecial 3, 3) := by decide +kernel
theorem d_DC_init_4 : decode c_DC_init 4 = .ok (.new 9, 3) := by decide +kernel
theorem d_DC_init_7 : decode c_DC_init 7 = .ok (.dup, 1) := by decide +kernel
theorem d_DC_init_8 : decode c_DC_init 8 = .ok (.invokespecial 11, 3) := by decide +kernel
theorem d_DC_init_11 : decode c_DC_init 11 = .ok (.astore_n 1, 1) := by decide +kernel
theorem d_DC_init_12 : decode c_DC_init 12 = .ok (.new 12, 3) := by decide +kernel
theorem d_DC_init_15 : decode c_DC_init 15 = .ok (.dup, 1) := by decide +kernel
theorem d_DC_init_16 : decode c_DC_init 16 = .ok (.invokespecial 14, 3) := by decide +kernel
theorem d_DC_init_19 : decode c_DC_init 19 = .ok (.astore_n 2, 1) := by decide +kernel
theorem d_DC_init_20 : decode c_DC_init 20 = .ok (.new 15, 3) := by decide +kernel
theorem d_DC_init_23 : decode c_DC_init 23 = .ok (.dup, 1) := by decide +kernel
theorem d_DC_init_24 : decode c_DC_init 24 = .ok (.aload_n 1, 1) := by decide +kernel
theorem d_DC_init_25 : decode c_DC_init 25 = .ok (.aload_n 2, 1) := by decide +kernel
theorem d_DC_init_26 : decode c_DC_init 26 = .ok (.invokespecial 17, 3) := by decide +kernel
theorem d_DC_init_29 : decode c_DC_init 29 = .ok (.astore_n 3, 1) := by decide +kernel
theorem d_DC_init_30 : decode c_DC_init 30 = .ok (.new 20, 3) := by decide +kernel
theorem d_DC_init_33 : decode c_DC_init 33 = .ok (.dup, 1) := by decide +kernel
theorem d_DC_init_34 : decode c_DC_init 34 = .ok (.aload_n 1, 1) := by decide +kernel
theorem d_DC_init_35 : decode c_DC_init 35 = .ok (.aload_n 2, 1) := by decide +kernel
theorem d_DC_init_36 : decode c_DC_init 36 = .ok (.invokespecial 22, 3) := by decide +kernel
theorem d_DC_init_39 : decode c_DC_init 39 = .ok (.astore 4, 2) := by decide +kernel
theorem d_DC_init_41 : decode c_DC_init 41 = .ok (.aload_n 0, 1) := by decide +kernel
theorem d_DC_init_42 : decode c_DC_init 42 = .ok (.aload_n 1, 1) := by decide +kernel
theorem d_DC_init_43 : decode c_DC_init 43 = .ok (.putfield 23, 3) := by decide +kernel
theorem d_DC_init_46 : decode c_DC_init 46 = .ok (.aload_n 0, 1) := by decide +kernel
theorem d_DC_init_47 : decode c_DC_init 47 = .ok (.aload_n 2, 1) := by decide +kernel
theorem d_DC_init_48 : decode c_DC_init 48 = .ok (.putfield 29, 3) := by decide +kernel
theorem d_DC_init_51 : decode c_DC_init 51 = .ok (.aload_n 0, 1) := by decide +kernel
theorem d_DC_init_52 : decode c_DC_init 52 = .ok (.new 33, 3) := by decide +kernel
theorem d_DC_init_55 : decode c_DC_init 55 = .ok (.dup, 1) := by decide +kernel
theorem d_DC_init_56 : decode c_DC_init 56 = .ok (.invokespecial 35, 3) := by decide +kernel
theorem d_DC_init_59 : decode c_DC_init 59 = .ok (.putfield 36, 3) := by decide +kernel
theorem d_DC_init_62 : decode c_DC_init 62 = .ok (.aload_n 0, 1) := by decide +kernel
theorem d_DC_init_63 : decode c_DC_init 63 = .ok (.aload_n 3, 1) := by decide +kernel
theorem d_DC_init_64 : decode c_DC_init 64 = .ok (.putfield 40, 3) := by decide +kernel
theorem d_DC_init_67 : decode c_DC_init 67 = .ok (.aload_n 0, 1) := by decide +kernel
theorem d_DC_init_68 : decode c_DC_init 68 = .ok (.aload 4, 2) := by decide +kernel
theorem d_DC_init_70 : decode c_DC_init 70 = .ok (.putfield 44, 3) := by decide +kernel
theorem d_DC_init_73 : decode c_DC_init 73 = .ok (.aload_n 0, 1) := by decide +kernel
theorem d_DC_init_74 : decode c_DC_init 74 = .ok (.new 48, 3) := by decide +kernel
theorem d_DC_init_77 : decode c_DC_init 77 = .ok (.dup, 1) := by decide +kernel
theorem d_DC_init_78 : decode c_DC_init 78 = .ok (.aload_n 1, 1) := by decide +kernel
theorem d_DC_init_79 : decode c_DC_init 79 = .ok (.aload_n 2, 1) := by decide +kernel
theorem d_DC_init_80 : decode c_DC_init 80 = .ok (.aload_n 3, 1) := by decide +kernel
theorem d_DC_init_81 : decode c_DC_init 81 = .ok (.aload 4, 2) := by decide +kernel
theorem d_DC_init_83 : decode c_DC_init 83 = .ok (.invokespecial 50, 3) := by decide +kernel
theorem d_DC_init_86 : decode c_DC_init 86 = .ok (.putfield 53, 3) := by decide +kernel
theorem d_DC_init_89 : decode c_DC_init 89 = .ok (.aload_n 0, 1) := by decide +kernel
theorem d_DC_init_90 : decode c_DC_init 90 = .ok (.new 57, 3) := by decide +kernel
theorem d_DC_init_93 : decode c_DC_init 93 = .ok (.dup, 1) := by decide +kernel
theorem d_DC_init_94 : decode c_DC_init 94 = .ok (.aload_n 1, 1) := by decide +kernel
theorem d_DC_init_95 : decode c_DC_init 95 = .ok (.aload_n 3, 1) := by decide +kernel
theorem d_DC_init_96 : decode c_DC_init 96 = .ok (.aload 4, 2) := by decide +kernel
theorem d_DC_init_98 : decode c_DC_init 98 = .ok (.invokespecial 59, 3) := by decide +kernel
theorem d_DC_init_101 : decode c_DC_init 101 = .ok (.putfield 62, 3) := by decide +kernel
theorem d_DC_init_104 : decode c_DC_init 104 = .ok (.aload_n 0, 1) := by decide +kernel
theorem d_DC_init_105 : decode c_DC_init 105 = .ok (.new 66, 3) := by decide +kernel
theorem d_DC_init_108 : decode c_DC_init 108 = .ok (.dup, 1) := by decide +kernel
theorem d_DC_init_109 : decode c_DC_init 109 = .ok (.aload_n 1, 1) := by decide +kernel
theorem d_DC_init_110 : decode c_DC_init 110 = .ok (.aload_n 2, 1) := by decide +kernel
theorem d_DC_init_111 : decode c_DC_init 111 = .ok (.aload_n 3, 1) := by decide +kernel
theorem d_DC_init_112 : decode c_DC_init 112 = .ok (.invokespecial 68, 3) := by decide +kernel
theorem d_DC_init_115 : decode c_DC_init 115 = .ok (.putfield 71, 3) := by decide +kernel
theorem d_DC_init_118 : decode c_DC_init 118 = .ok (.aload_n 0, 1) := by decide +kernel
theorem d_DC_init_119 : decode c_DC_init 119 = .ok (.new 75, 3) := by decide +kernel
theorem d_DC_init_122 : decode c_DC_init 122 = .ok (.dup, 1) := by decide +kernel
theorem d_DC_init_123 : decode c_DC_init 123 = .ok (.aload_n 1, 1) := by decide +kernel
theorem d_DC_init_124 : decode c_DC_init 124 = .ok (.aload_n 2, 1) := by decide +kernel
theorem d_DC_init_125 : decode c_DC_init 125 = .ok (.aload_n 3, 1) := by decide +kernel
theorem d_DC_init_126 : decode c_DC_init 126 = .ok (.invokespecial 77, 3) := by decide +kernel
theorem d_DC_init_129 : decode c_DC_init 129 = .ok (.putfield 78, 3) := by decide +kernel
theorem d_DC_init_132 : decode c_DC_init 132 = .ok (.return_, 1) := by decide +kernel
theorem d_DC_place_0 : decode c_DC_place 0 = .ok (.iload_n 1, 1) := by decide +kernel
theorem d_DC_place_1 : decode c_DC_place 1 = .ok (.iconst 0, 1) := by decide +kernel
theorem d_DC_place_2 : decode c_DC_place 2 = .ok (.sipush 1000, 3) := by decide +kernel
theorem d_DC_place_5 : decode c_DC_place 5 = .ok (.invokestatic 82, 3) := by decide +kernel
theorem d_DC_place_8 : decode c_DC_place 8 = .ok (.ifCond .eq 48, 3) := by decide +kernel
theorem d_DC_place_11 : decode c_DC_place 11 = .ok (.iload_n 2, 1) := by decide +kernel
theorem d_DC_place_12 : decode c_DC_place 12 = .ok (.iconst 0, 1) := by decide +kernel
theorem d_DC_place_13 : decode c_DC_place 13 = .ok (.sipush 1000, 3) := by decide +kernel
theorem d_DC_place_16 : decode c_DC_place 16 = .ok (.invokestatic 82, 3) := by decide +kernel
theorem d_DC_place_19 : decode c_DC_place 19 = .ok (.ifCond .eq 37, 3) := by decide +kernel
theorem d_DC_place_22 : decode c_DC_place 22 = .ok (.iload_n 3, 1) := by decide +kernel
theorem d_DC_place_23 : decode c_DC_place 23 = .ok (.iconst 0, 1) := by decide +kernel
theorem d_DC_place_24 : decode c_DC_place 24 = .ok (.sipush 1000, 3) := by decide +kernel
theorem d_DC_place_27 : decode c_DC_place 27 = .ok (.invokestatic 82, 3) := by decide +kernel
theorem d_DC_place_30 : decode c_DC_place 30 = .ok (.ifCond .eq 26, 3) := by decide +kernel
theorem d_DC_place_33 : decode c_DC_place 33 = .ok (.iload 4, 2) := by decide +kernel
theorem d_DC_place_35 : decode c_DC_place 35 = .ok (.iconst 1, 1) := by decide +kernel
theorem d_DC_place_36 : decode c_DC_place 36 = .ok (.bipush 100, 2) := by decide +kernel
theorem d_DC_place_38 : decode c_DC_place 38 = .ok (.invokestatic 82, 3) := by decide +kernel
theorem d_DC_place_41 : decode c_DC_place 41 = .ok (.ifCond .eq 15, 3) := by decide +kernel
theorem d_DC_place_44 : decode c_DC_place 44 = .ok (.iload 5, 2) := by decide +kernel
theorem d_DC_place_46 : decode c_DC_place 46 = .ok (.invokestatic 86, 3) := by decide +kernel
theorem d_DC_place_49 : decode c_DC_place 49 = .ok (.ifCond .eq 7, 3) := by decide +kernel
theorem d_DC_place_52 : decode c_DC_place 52 = .ok (.iconst 1, 1) := by decide +kernel
theorem d_DC_place_53 : decode c_DC_place 53 = .ok (.goto 4, 3) := by decide +kernel
theorem d_DC_place_56 : decode c_DC_place 56 = .ok (.iconst 0, 1) := by decide +kernel
theorem d_DC_place_57 : decode c_DC_place 57 = .ok (.istore 6, 2) := by decide +kernel
theorem d_DC_place_59 : decode c_DC_place 59 = .ok (.iload 6, 2) := by decide +kernel
theorem d_DC_place_61 : decode c_DC_place 61 = .ok (.ifCond .ne 5, 3) := by decide +kernel
theorem d_DC_place_64 : decode c_DC_place 64 = .ok (.iconst (-1), 1) := by decide +kernel
theorem d_DC_place_65 : decode c_DC_place 65 = .ok (.ireturn, 1) := by decide +kernel
theorem d_DC_place_66 : decode c_DC_place 66 = .ok (.aload_n 0, 1) := by decide +kernel
theorem d_DC_place_67 : decode c_DC_place 67 = .ok (.getfield 23, 3) := by decide +kernel
theorem d_DC_place_70 : decode c_DC_place 70 = .ok (.getfield 90, 3) := by decide +kernel
theorem d_DC_place_73 : decode c_DC_place 73 = .ok (.bipush 30, 2) := by decide +kernel
theorem d_DC_place_75 : decode c_DC_place 75 = .ok (.if_icmp .lt 6, 3) := by decide +kernel
theorem d_DC_place_78 : decode c_DC_place 78 = .ok (.bipush (-2), 2) := by decide +kernel
theorem d_DC_place_80 : decode c_DC_place 80 = .ok (.ireturn, 1) := by decide +kernel
theorem d_DC_place_81 : decode c_DC_place 81 = .ok (.aload_n 0, 1) := by decide +kernel
theorem d_DC_place_82 : decode c_DC_place 82 = .ok (.getfield 23, 3) := by decide +kernel
theorem d_DC_place_85 : decode c_DC_place 85 = .ok (.iload_n 1, 1) := by decide +kernel
theorem d_DC_place_86 : decode c_DC_place 86 = .ok (.iload_n 2, 1) := by decide +kernel
theorem d_DC_place_87 : decode c_DC_place 87 = .ok (.iload_n 3, 1) := by decide +kernel
theorem d_DC_place_88 : decode c_DC_place 88 = .ok (.iload 4, 2) := by decide +kernel
theorem d_DC_place_90 : decode c_DC_place 90 = .ok (.iload 5, 2) := by decide +kernel
theorem d_DC_place_92 : decode c_DC_place 92 = .ok (.invokevirtual 94, 3) := by decide +kernel
theorem d_DC_place_95 : decode c_DC_place 95 = .ok (.istore 7, 2) := by decide +kernel
theorem d_DC_place_97 : decode c_DC_place 97 = .ok (.aload_n 0, 1) := by decide +kernel
theorem d_DC_place_98 : decode c_DC_place 98 = .ok (.getfield 36, 3) := by decide +kernel
theorem d_DC_place_101 : decode c_DC_place 101 = .ok (.iload 7, 2) := by decide +kernel
theorem d_DC_place_103 : decode c_DC_place 103 = .ok (.iconst 0, 1) := by decide +kernel
theorem d_DC_place_104 : decode c_DC_place 104 = .ok (.invokevirtual 98, 3) := by decide +kernel
theorem d_DC_place_107 : decode c_DC_place 107 = .ok (.aload_n 0, 1) := by decide +kernel
theorem d_DC_place_108 : decode c_DC_place 108 = .ok (.getfield 53, 3) := by decide +kernel
theorem d_DC_place_111 : decode c_DC_place 111 = .ok (.invokevirtual 102, 3) := by decide +kernel
theorem d_DC_place_114 : decode c_DC_place 114 = .ok (.iload 7, 2) := by decide +kernel
theorem d_DC_place_116 : decode c_DC_place 116 = .ok (.ireturn, 1) := by decide +kernel
theorem d_DC_border_0 : decode c_DC_border 0 = .ok (.aload_n 0, 1) := by decide +kernel
theorem d_DC_border_1 : decode c_DC_border 1 = .ok (.getfield 23, 3) := by decide +kernel
theorem d_DC_border_4 : decode c_DC_border 4 = .ok (.iload_n 1, 1) := by decide +kernel
theorem d_DC_border_5 : decode c_DC_border 5 = .ok (.invokevirtual 105, 3) := by decide +kernel
theorem d_DC_border_8 : decode c_DC_border 8 = .ok (.ifCond .eq 19, 3) := by decide +kernel
theorem d_DC_border_11 : decode c_DC_border 11 = .ok (.aload_n 0, 1) := by decide +kernel
theorem d_DC_border_12 : decode c_DC_border 12 = .ok (.getfield 23, 3) := by decide +kernel
theorem d_DC_border_15 : decode c_DC_border 15 = .ok (.iload_n 2, 1) := by decide +kernel
theorem d_DC_border_16 : decode c_DC_border 16 = .ok (.invokevirtual 105, 3) := by decide +kernel
theorem d_DC_border_19 : decode c_DC_border 19 = .ok (.ifCond .eq 8, 3) := by decide +kernel
theorem d_DC_border_22 : decode c_DC_border 22 = .ok (.iload_n 1, 1) := by decide +kernel
theorem d_DC_border_23 : decode c_DC_border 23 = .ok (.iload_n 2, 1) := by decide +kernel
theorem d_DC_border_24 : decode c_DC_border 24 = .ok (.if_icmp .ne 5, 3) := by decide +kernel
theorem d_DC_border_27 : decode c_DC_border 27 = .ok (.iconst (-1), 1) := by decide +kernel
theorem d_DC_border_28 : decode c_DC_border 28 = .ok (.ireturn, 1) := by decide +kernel
theorem d_DC_border_29 : decode c_DC_border 29 = .ok (.iload_n 3, 1) := by decide +kernel
theorem d_DC_border_30 : decode c_DC_border 30 = .ok (.iconst 1, 1) := by decide +kernel
theorem d_DC_border_31 : decode c_DC_border 31 = .ok (.bipush 100, 2) := by decide +kernel
theorem d_DC_border_33 : decode c_DC_border 33 = .ok (.invokestatic 82, 3) := by decide +kernel
theorem d_DC_border_36 : decode c_DC_border 36 = .ok (.ifCond .eq 19, 3) := by decide +kernel
theorem d_DC_border_39 : decode c_DC_border 39 = .ok (.aload_n 0, 1) := by decide +kernel
theorem d_DC_border_40 : decode c_DC_border 40 = .ok (.getfield 23, 3) := by decide +kernel
theorem d_DC_border_43 : decode c_DC_border 43 = .ok (.getfield 108, 3) := by decide +kernel
theorem d_DC_border_46 : decode c_DC_border 46 = .ok (.iload_n 1, 1) := by decide +kernel
theorem d_DC_border_47 : decode c_DC_border 47 = .ok (.iaload, 1) := by decide +kernel
theorem d_DC_border_48 : decode c_DC_border 48 = .ok (.iload_n 2, 1) := by decide +kernel
theorem d_DC_border_49 : decode c_DC_border 49 = .ok (.invokestatic 112, 3) := by decide +kernel
theorem d_DC_border_52 : decode c_DC_border 52 = .ok (.ifCond .eq 5, 3) := by decide +kernel
theorem d_DC_border_55 : decode c_DC_border 55 = .ok (.iconst (-1), 1) := by decide +kernel
theorem d_DC_border_56 : decode c_DC_border 56 = .ok (.ireturn, 1) := by decide +kernel
theorem d_DC_border_57 : decode c_DC_border 57 = .ok (.aload_n 0, 1) := by decide +kernel
theorem d_DC_border_58 : decode c_DC_border 58 = .ok (.getfield 23, 3) := by decide +kernel
theorem d_DC_border_61 : decode c_DC_border 61 = .ok (.getfield 118, 3) := by decide +kernel
theorem d_DC_border_64 : decode c_DC_border 64 = .ok (.bipush 100, 2) := by decide +kernel
theorem d_DC_border_66 : decode c_DC_border 66 = .ok (.if_icmp .lt 6, 3) := by decide +kernel
theorem d_DC_border_69 : decode c_DC_border 69 = .ok (.bipush (-2), 2) := by decide +kernel
theorem d_DC_border_71 : decode c_DC_border 71 = .ok (.ireturn, 1) := by decide +kernel
theorem d_DC_border_72 : decode c_DC_border 72 = .ok (.aload_n 0, 1) := by decide +kernel
theorem d_DC_border_73 : decode c_DC_border 73 = .ok (.getfield 53, 3) := by decide +kernel
theorem d_DC_border_76 : decode c_DC_border 76 = .ok (.invokevirtual 102, 3) := by decide +kernel
theorem d_DC_border_79 : decode c_DC_border 79 = .ok (.aload_n 0, 1) := by decide +kernel
theorem d_DC_border_80 : decode c_DC_border 80 = .ok (.getfield 23, 3) := by decide +kernel
theorem d_DC_border_83 : decode c_DC_border 83 = .ok (.iload_n 1, 1) := by decide +kernel
theorem d_DC_border_84 : decode c_DC_border 84 = .ok (.iload_n 2, 1) := by decide +kernel
theorem d_DC_border_85 : decode c_DC_border 85 = .ok (.iload_n 3, 1) := by decide +kernel
theorem d_DC_border_86 : decode c_DC_border 86 = .ok (.invokevirtual 121, 3) := by decide +kernel
theorem d_DC_border_89 : decode c_DC_border 89 = .ok (.ireturn, 1) := by decide +kernel
theorem d_DC_law_0 : decode c_DC_law 0 = .ok (.iload_n 1, 1) := by decide +kernel
theorem d_DC_law_1 : decode c_DC_law 1 = .ok (.iconst 1, 1) := by decide +kernel
theorem d_DC_law_2 : decode c_DC_law 2 = .ok (.bipush 6, 2) := by decide +kernel
theorem d_DC_law_4 : decode c_DC_law 4 = .ok (.invokestatic 82, 3) := by decide +kernel
theorem d_DC_law_7 : decode c_DC_law 7 = .ok (.ifCond .eq 14, 3) := by decide +kernel
theorem d_DC_law_10 : decode c_DC_law 10 = .ok (.iload_n 2, 1) := by decide +kernel
theorem d_DC_law_11 : decode c_DC_law 11 = .ok (.iconst 0, 1) := by decide +kernel
theorem d_DC_law_12 : decode c_DC_law 12 = .ok (.sipush 1000, 3) := by decide +kernel
theorem d_DC_law_15 : decode c_DC_law 15 = .ok (.invokestatic 82, 3) := by decide +kernel
theorem d_DC_law_18 : decode c_DC_law 18 = .ok (.ifCond .ne 5, 3) := by decide +kernel
theorem d_DC_law_21 : decode c_DC_law 21 = .ok (.iconst (-1), 1) := by decide +kernel
theorem d_DC_law_22 : decode c_DC_law 22 = .ok (.ireturn, 1) := by decide +kernel
theorem d_DC_law_23 : decode c_DC_law 23 = .ok (.aload_n 0, 1) := by decide +kernel
theorem d_DC_law_24 : decode c_DC_law 24 = .ok (.getfield 29, 3) := by decide +kernel
theorem d_DC_law_27 : decode c_DC_law 27 = .ok (.iload_n 1, 1) := by decide +kernel
theorem d_DC_law_28 : decode c_DC_law 28 = .ok (.putfield 125, 3) := by decide +kernel
theorem d_DC_law_31 : decode c_DC_law 31 = .ok (.aload_n 0, 1) := by decide +kernel
theorem d_DC_law_32 : decode c_DC_law 32 = .ok (.getfield 29, 3) := by decide +kernel
theorem d_DC_law_35 : decode c_DC_law 35 = .ok (.iload_n 2, 1) := by decide +kernel
theorem d_DC_law_36 : decode c_DC_law 36 = .ok (.putfield 128, 3) := by decide +kernel
theorem d_DC_law_39 : decode c_DC_law 39 = .ok (.aload_n 0, 1) := by decide +kernel
theorem d_DC_law_40 : decode c_DC_law 40 = .ok (.getfield 29, 3) := by decide +kernel
theorem d_DC_law_43 : decode c_DC_law 43 = .ok (.invokevirtual 131, 3) := by decide +kernel
theorem d_DC_law_46 : decode c_DC_law 46 = .ok (.aload_n 0, 1) := by decide +kernel
theorem d_DC_law_47 : decode c_DC_law 47 = .ok (.getfield 36, 3) := by decide +kernel
theorem d_DC_law_50 : decode c_DC_law 50 = .ok (.aload_n 0, 1) := by decide +kernel
theorem d_DC_law_51 : decode c_DC_law 51 = .ok (.getfield 23, 3) := by decide +kernel
theorem d_DC_law_54 : decode c_DC_law 54 = .ok (.invokevirtual 134, 3) := by decide +kernel
theorem d_DC_law_57 : decode c_DC_law 57 = .ok (.invokevirtual 138, 3) := by decide +kernel
theorem d_DC_law_60 : decode c_DC_law 60 = .ok (.aload_n 0, 1) := by decide +kernel
theorem d_DC_law_61 : decode c_DC_law 61 = .ok (.getfield 53, 3) := by decide +kernel
theorem d_DC_law_64 : decode c_DC_law 64 = .ok (.invokevirtual 102, 3) := by decide +kernel
theorem d_DC_law_67 : decode c_DC_law 67 = .ok (.iconst 1, 1) := by decide +kernel
theorem d_DC_law_68 : decode c_DC_law 68 = .ok (.ireturn, 1) := by decide +kernel
theorem d_DC_keep_0 : decode c_DC_keep 0 = .ok (.iload_n 1, 1) := by decide +kernel
theorem d_DC_keep_1 : decode c_DC_keep 1 = .ok (.invokestatic 86, 3) := by decide +kernel
theorem d_DC_keep_4 : decode c_DC_keep 4 = .ok (.ifCond .eq 12, 3) := by decide +kernel
theorem d_DC_keep_7 : decode c_DC_keep 7 = .ok (.iload_n 2, 1) := by decide +kernel
theorem d_DC_keep_8 : decode c_DC_keep 8 = .ok (.iconst 0, 1) := by decide +kernel
theorem d_DC_keep_9 : decode c_DC_keep 9 = .ok (.iconst 1, 1) := by decide +kernel
theorem d_DC_keep_10 : decode c_DC_keep 10 = .ok (.invokestatic 82, 3) := by decide +kernel
theorem d_DC_keep_13 : decode c_DC_keep 13 = .ok (.ifCond .ne 5, 3) := by decide +kernel
theorem d_DC_keep_16 : decode c_DC_keep 16 = .ok (.iconst (-1), 1) := by decide +kernel
theorem d_DC_keep_17 : decode c_DC_keep 17 = .ok (.ireturn, 1) := by decide +kernel
theorem d_DC_keep_18 : decode c_DC_keep 18 = .ok (.aload_n 0, 1) := by decide +kernel
theorem d_DC_keep_19 : decode c_DC_keep 19 = .ok (.getfield 29, 3) := by decide +kernel
theorem d_DC_keep_22 : decode c_DC_keep 22 = .ok (.getfield 142, 3) := by decide +kernel
theorem d_DC_keep_25 : decode c_DC_keep 25 = .ok (.iload_n 1, 1) := by decide +kernel
theorem d_DC_keep_26 : decode c_DC_keep 26 = .ok (.baload, 1) := by decide +kernel
theorem d_DC_keep_27 : decode c_DC_keep 27 = .ok (.ifCond .eq 7, 3) := by decide +kernel
theorem d_DC_keep_30 : decode c_DC_keep 30 = .ok (.iconst 1, 1) := by decide +kernel
theorem d_DC_keep_31 : decode c_DC_keep 31 = .ok (.goto 4, 3) := by decide +kernel
theorem d_DC_keep_34 : decode c_DC_keep 34 = .ok (.iconst 0, 1) := by decide +kernel
theorem d_DC_keep_35 : decode c_DC_keep 35 = .ok (.istore_n 3, 1) := by decide +kernel
theorem d_DC_keep_36 : decode c_DC_keep 36 = .ok (.aload_n 0, 1) := by decide +kernel
theorem d_DC_keep_37 : decode c_DC_keep 37 = .ok (.getfield 29, 3) := by decide +kernel
theorem d_DC_keep_40 : decode c_DC_keep 40 = .ok (.getfield 142, 3) := by decide +kernel
theorem d_DC_keep_43 : decode c_DC_keep 43 = .ok (.iload_n 1, 1) := by decide +kernel
theorem d_DC_keep_44 : decode c_DC_keep 44 = .ok (.iload_n 2, 1) := by decide +kernel
theorem d_DC_keep_45 : decode c_DC_keep 45 = .ok (.iconst 1, 1) := by decide +kernel
theorem d_DC_keep_46 : decode c_DC_keep 46 = .ok (.if_icmp .ne 7, 3) := by decide +kernel
theorem d_DC_keep_49 : decode c_DC_keep 49 = .ok (.iconst 1, 1) := by decide +kernel
theorem d_DC_keep_50 : decode c_DC_keep 50 = .ok (.goto 4, 3) := by decide +kernel
theorem d_DC_keep_53 : decode c_DC_keep 53 = .ok (.iconst 0, 1) := by decide +kernel
theorem d_DC_keep_54 : decode c_DC_keep 54 = .ok (.bastore, 1) := by decide +kernel
theorem d_DC_keep_55 : decode c_DC_keep 55 = .ok (.aload_n 0, 1) := by decide +kernel
theorem d_DC_keep_56 : decode c_DC_keep 56 = .ok (.getfield 53, 3) := by decide +kernel
theorem d_DC_keep_59 : decode c_DC_keep 59 = .ok (.invokevirtual 102, 3) := by decide +kernel
theorem d_DC_keep_62 : decode c_DC_keep 62 = .ok (.iload_n 3, 1) := by decide +kernel
theorem d_DC_keep_63 : decode c_DC_keep 63 = .ok (.ireturn, 1) := by decide +kernel
theorem d_DC_cuts_0 : decode c_DC_cuts 0 = .ok (.iload_n 1, 1) := by decide +kernel
theorem d_DC_cuts_1 : decode c_DC_cuts 1 = .ok (.iconst 0, 1) := by decide +kernel
theorem d_DC_cuts_2 : decode c_DC_cuts 2 = .ok (.bipush 10, 2) := by decide +kernel
theorem d_DC_cuts_4 : decode c_DC_cuts 4 = .ok (.invokestatic 82, 3) := by decide +kernel
theorem d_DC_cuts_7 : decode c_DC_cuts 7 = .ok (.ifCond .ne 5, 3) := by decide +kernel
theorem d_DC_cuts_10 : decode c_DC_cuts 10 = .ok (.iconst (-1), 1) := by decide +kernel
theorem d_DC_cuts_11 : decode c_DC_cuts 11 = .ok (.ireturn, 1) := by decide +kernel
theorem d_DC_cuts_12 : decode c_DC_cuts 12 = .ok (.aload_n 0, 1) := by decide +kernel
theorem d_DC_cuts_13 : decode c_DC_cuts 13 = .ok (.getfield 29, 3) := by decide +kernel
theorem d_DC_cuts_16 : decode c_DC_cuts 16 = .ok (.getfield 146, 3) := by decide +kernel
theorem d_DC_cuts_19 : decode c_DC_cuts 19 = .ok (.istore_n 2, 1) := by decide +kernel
theorem d_DC_cuts_20 : decode c_DC_cuts 20 = .ok (.aload_n 0, 1) := by decide +kernel
theorem d_DC_cuts_21 : decode c_DC_cuts 21 = .ok (.getfield 29, 3) := by decide +kernel
theorem d_DC_cuts_24 : decode c_DC_cuts 24 = .ok (.iload_n 1, 1) := by decide +kernel
theorem d_DC_cuts_25 : decode c_DC_cuts 25 = .ok (.putfield 146, 3) := by decide +kernel
theorem d_DC_cuts_28 : decode c_DC_cuts 28 = .ok (.aload_n 0, 1) := by decide +kernel
theorem d_DC_cuts_29 : decode c_DC_cuts 29 = .ok (.getfield 53, 3) := by decide +kernel
theorem d_DC_cuts_32 : decode c_DC_cuts 32 = .ok (.invokevirtual 102, 3) := by decide +kernel
theorem d_DC_cuts_35 : decode c_DC_cuts 35 = .ok (.iload_n 2, 1) := by decide +kernel
theorem d_DC_cuts_36 : decode c_DC_cuts 36 = .ok (.ireturn, 1) := by decide +kernel
theorem d_DC_fix_0 : decode c_DC_fix 0 = .ok (.aload_n 0, 1) := by decide +kernel
theorem d_DC_fix_1 : decode c_DC_fix 1 = .ok (.getfield 23, 3) := by decide +kernel
theorem d_DC_fix_4 : decode c_DC_fix 4 = .ok (.iload_n 1, 1) := by decide +kernel
theorem d_DC_fix_5 : decode c_DC_fix 5 = .ok (.invokevirtual 105, 3) := by decide +kernel
theorem d_DC_fix_8 : decode c_DC_fix 8 = .ok (.ifCond .eq 19, 3) := by decide +kernel
theorem d_DC_fix_11 : decode c_DC_fix 11 = .ok (.iload_n 2, 1) := by decide +kernel
theorem d_DC_fix_12 : decode c_DC_fix 12 = .ok (.iconst (-1), 1) := by decide +kernel
theorem d_DC_fix_13 : decode c_DC_fix 13 = .ok (.if_icmp .eq 16, 3) := by decide +kernel
theorem d_DC_fix_16 : decode c_DC_fix 16 = .ok (.aload_n 0, 1) := by decide +kernel
theorem d_DC_fix_17 : decode c_DC_fix 17 = .ok (.getfield 29, 3) := by decide +kernel
theorem d_DC_fix_20 : decode c_DC_fix 20 = .ok (.iload_n 2, 1) := by decide +kernel
theorem d_DC_fix_21 : decode c_DC_fix 21 = .ok (.invokevirtual 149, 3) := by decide +kernel
theorem d_DC_fix_24 : decode c_DC_fix 24 = .ok (.ifCond .ne 5, 3) := by decide +kernel
theorem d_DC_fix_27 : decode c_DC_fix 27 = .ok (.iconst (-1), 1) := by decide +kernel
theorem d_DC_fix_28 : decode c_DC_fix 28 = .ok (.ireturn, 1) := by decide +kernel
theorem d_DC_fix_29 : decode c_DC_fix 29 = .ok (.aload_n 0, 1) := by decide +kernel
theorem d_DC_fix_30 : decode c_DC_fix 30 = .ok (.getfield 29, 3) := by decide +kernel
theorem d_DC_fix_33 : decode c_DC_fix 33 = .ok (.getfield 152, 3) := by decide +kernel
theorem d_DC_fix_36 : decode c_DC_fix 36 = .ok (.iload_n 1, 1) := by decide +kernel
theorem d_DC_fix_37 : decode c_DC_fix 37 = .ok (.iaload, 1) := by decide +kernel
theorem d_DC_fix_38 : decode c_DC_fix 38 = .ok (.istore_n 3, 1) := by decide +kernel
theorem d_DC_fix_39 : decode c_DC_fix 39 = .ok (.aload_n 0, 1) := by decide +kernel
theorem d_DC_fix_40 : decode c_DC_fix 40 = .ok (.getfield 29, 3) := by decide +kernel
theorem d_DC_fix_43 : decode c_DC_fix 43 = .ok (.getfield 152, 3) := by decide +kernel
theorem d_DC_fix_46 : decode c_DC_fix 46 = .ok (.iload_n 1, 1) := by decide +kernel
theorem d_DC_fix_47 : decode c_DC_fix 47 = .ok (.iload_n 2, 1) := by decide +kernel
theorem d_DC_fix_48 : decode c_DC_fix 48 = .ok (.iastore, 1) := by decide +kernel
theorem d_DC_fix_49 : decode c_DC_fix 49 = .ok (.iload_n 3, 1) := by decide +kernel
theorem d_DC_fix_50 : decode c_DC_fix 50 = .ok (.ireturn, 1) := by decide +kernel
theorem d_DC_people_0 : decode c_DC_people 0 = .ok (.aload_n 0, 1) := by decide +kernel
theorem d_DC_people_1 : decode c_DC_people 1 = .ok (.getfield 23, 3) := by decide +kernel
theorem d_DC_people_4 : decode c_DC_people 4 = .ok (.iload_n 1, 1) := by decide +kernel
theorem d_DC_people_5 : decode c_DC_people 5 = .ok (.invokevirtual 105, 3) := by decide +kernel
theorem d_DC_people_8 : decode c_DC_people 8 = .ok (.ifCond .eq 14, 3) := by decide +kernel
theorem d_DC_people_11 : decode c_DC_people 11 = .ok (.iload_n 2, 1) := by decide +kernel
theorem d_DC_people_12 : decode c_DC_people 12 = .ok (.iconst 0, 1) := by decide +kernel
theorem d_DC_people_13 : decode c_DC_people 13 = .ok (.sipush 1000, 3) := by decide +kernel
theorem d_DC_people_16 : decode c_DC_people 16 = .ok (.invokestatic 82, 3) := by decide +kernel
theorem d_DC_people_19 : decode c_DC_people 19 = .ok (.ifCond .ne 5, 3) := by decide +kernel
theorem d_DC_people_22 : decode c_DC_people 22 = .ok (.iconst (-1), 1) := by decide +kernel
theorem d_DC_people_23 : decode c_DC_people 23 = .ok (.ireturn, 1) := by decide +kernel
theorem d_DC_people_24 : decode c_DC_people 24 = .ok (.aload_n 0, 1) := by decide +kernel
theorem d_DC_people_25 : decode c_DC_people 25 = .ok (.getfield 53, 3) := by decide +kernel
theorem d_DC_people_28 : decode c_DC_people 28 = .ok (.invokevirtual 102, 3) := by decide +kernel
theorem d_DC_people_31 : decode c_DC_people 31 = .ok (.aload_n 0, 1) := by decide +kernel
theorem d_DC_people_32 : decode c_DC_people 32 = .ok (.getfield 23, 3) := by decide +kernel
theorem d_DC_people_35 : decode c_DC_people 35 = .ok (.iload_n 1, 1) := by decide +kernel
theorem d_DC_people_36 : decode c_DC_people 36 = .ok (.iload_n 2, 1) := by decide +kernel
theorem d_DC_people_37 : decode c_DC_people 37 = .ok (.invokevirtual 155, 3) := by decide +kernel
theorem d_DC_people_40 : decode c_DC_people 40 = .ok (.ireturn, 1) := by decide +kernel
theorem d_DC_put_0 : decode c_DC_put 0 = .ok (.aload_n 0, 1) := by decide +kernel
theorem d_DC_put_1 : decode c_DC_put 1 = .ok (.getfield 23, 3) := by decide +kernel
theorem d_DC_put_4 : decode c_DC_put 4 = .ok (.iload_n 1, 1) := by decide +kernel
theorem d_DC_put_5 : decode c_DC_put 5 = .ok (.invokevirtual 105, 3) := by decide +kernel
theorem d_DC_put_8 : decode c_DC_put 8 = .ok (.ifCond .eq 14, 3) := by decide +kernel
theorem d_DC_put_11 : decode c_DC_put 11 = .ok (.aload_n 0, 1) := by decide +kernel
theorem d_DC_put_12 : decode c_DC_put 12 = .ok (.getfield 29, 3) := by decide +kernel
theorem d_DC_put_15 : decode c_DC_put 15 = .ok (.iload_n 2, 1) := by decide +kernel
theorem d_DC_put_16 : decode c_DC_put 16 = .ok (.invokevirtual 149, 3) := by decide +kernel
theorem d_DC_put_19 : decode c_DC_put 19 = .ok (.ifCond .ne 5, 3) := by decide +kernel
theorem d_DC_put_22 : decode c_DC_put 22 = .ok (.iconst (-1), 1) := by decide +kernel
theorem d_DC_put_23 : decode c_DC_put 23 = .ok (.ireturn, 1) := by decide +kernel
theorem d_DC_put_24 : decode c_DC_put 24 = .ok (.aload_n 0, 1) := by decide +kernel
theorem d_DC_put_25 : decode c_DC_put 25 = .ok (.getfield 36, 3) := by decide +kernel
theorem d_DC_put_28 : decode c_DC_put 28 = .ok (.getfield 159, 3) := by decide +kernel
theorem d_DC_put_31 : decode c_DC_put 31 = .ok (.iload_n 1, 1) := by decide +kernel
theorem d_DC_put_32 : decode c_DC_put 32 = .ok (.iaload, 1) := by decide +kernel
theorem d_DC_put_33 : decode c_DC_put 33 = .ok (.istore_n 3, 1) := by decide +kernel
theorem d_DC_put_34 : decode c_DC_put 34 = .ok (.aload_n 0, 1) := by decide +kernel
theorem d_DC_put_35 : decode c_DC_put 35 = .ok (.getfield 36, 3) := by decide +kernel
theorem d_DC_put_38 : decode c_DC_put 38 = .ok (.iload_n 1, 1) := by decide +kernel
theorem d_DC_put_39 : decode c_DC_put 39 = .ok (.iload_n 2, 1) := by decide +kernel
theorem d_DC_put_40 : decode c_DC_put 40 = .ok (.invokevirtual 98, 3) := by decide +kernel
theorem d_DC_put_43 : decode c_DC_put 43 = .ok (.iload_n 3, 1) := by decide +kernel
theorem d_DC_put_44 : decode c_DC_put 44 = .ok (.ireturn, 1) := by decide +kernel
theorem d_DC_at_0 : decode c_DC_at 0 = .ok (.aload_n 0, 1) := by decide +kernel
theorem d_DC_at_1 : decode c_DC_at 1 = .ok (.getfield 23, 3) := by decide +kernel
theorem d_DC_at_4 : decode c_DC_at 4 = .ok (.iload_n 1, 1) := by decide +kernel
theorem d_DC_at_5 : decode c_DC_at 5 = .ok (.invokevirtual 105, 3) := by decide +kernel
theorem d_DC_at_8 : decode c_DC_at 8 = .ok (.ifCond .eq 15, 3) := by decide +kernel
theorem d_DC_at_11 : decode c_DC_at 11 = .ok (.aload_n 0, 1) := by decide +kernel
theorem d_DC_at_12 : decode c_DC_at 12 = .ok (.getfield 36, 3) := by decide +kernel
theorem d_DC_at_15 : decode c_DC_at 15 = .ok (.getfield 159, 3) := by decide +kernel
theorem d_DC_at_18 : decode c_DC_at 18 = .ok (.iload_n 1, 1) := by decide +kernel
theorem d_DC_at_19 : decode c_DC_at 19 = .ok (.iaload, 1) := by decide +kernel
theorem d_DC_at_20 : decode c_DC_at 20 = .ok (.goto 4, 3) := by decide +kernel
theorem d_DC_at_23 : decode c_DC_at 23 = .ok (.iconst (-1), 1) := by decide +kernel
theorem d_DC_at_24 : decode c_DC_at 24 = .ok (.ireturn, 1) := by decide +kernel
theorem d_DC_lawful_0 : decode c_DC_lawful 0 = .ok (.aload_n 0, 1) := by decide +kernel
theorem d_DC_lawful_1 : decode c_DC_lawful 1 = .ok (.getfield 23, 3) := by decide +kernel
theorem d_DC_lawful_4 : decode c_DC_lawful 4 = .ok (.getfield 90, 3) := by decide +kernel
theorem d_DC_lawful_7 : decode c_DC_lawful 7 = .ok (.ifCond .ne 8, 3) := by decide +kernel
theorem d_DC_lawful_10 : decode c_DC_lawful 10 = .ok (.bipush (-5), 2) := by decide +kernel
theorem d_DC_lawful_12 : decode c_DC_lawful 12 = .ok (.goto 14, 3) := by decide +kernel
theorem d_DC_lawful_15 : decode c_DC_lawful 15 = .ok (.aload_n 0, 1) := by decide +kernel
theorem d_DC_lawful_16 : decode c_DC_lawful 16 = .ok (.getfield 40, 3) := by decide +kernel
theorem d_DC_lawful_19 : decode c_DC_lawful 19 = .ok (.aload_n 0, 1) := by decide +kernel
theorem d_DC_lawful_20 : decode c_DC_lawful 20 = .ok (.getfield 36, 3) := by decide +kernel
theorem d_DC_lawful_23 : decode c_DC_lawful 23 = .ok (.invokevirtual 162, 3) := by decide +kernel
theorem d_DC_lawful_26 : decode c_DC_lawful 26 = .ok (.ireturn, 1) := by decide +kernel
theorem d_DC_why_0 : decode c_DC_why 0 = .ok (.aload_n 0, 1) := by decide +kernel
theorem d_DC_why_1 : decode c_DC_why 1 = .ok (.getfield 23, 3) := by decide +kernel
theorem d_DC_why_4 : decode c_DC_why 4 = .ok (.getfield 90, 3) := by decide +kernel
theorem d_DC_why_7 : decode c_DC_why 7 = .ok (.ifCond .ne 7, 3) := by decide +kernel
theorem d_DC_why_10 : decode c_DC_why 10 = .ok (.iconst 0, 1) := by decide +kernel
theorem d_DC_why_11 : decode c_DC_why 11 = .ok (.goto 14, 3) := by decide +kernel
theorem d_DC_why_14 : decode c_DC_why 14 = .ok (.aload_n 0, 1) := by decide +kernel
theorem d_DC_why_15 : decode c_DC_why 15 = .ok (.getfield 40, 3) := by decide +kernel
theorem d_DC_why_18 : decode c_DC_why 18 = .ok (.aload_n 0, 1) := by decide +kernel
theorem d_DC_why_19 : decode c_DC_why 19 = .ok (.getfield 36, 3) := by decide +kernel
theorem d_DC_why_22 : decode c_DC_why 22 = .ok (.invokevirtual 162, 3) := by decide +kernel
theorem d_DC_why_25 : decode c_DC_why 25 = .ok (.istore_n 2, 1) := by decide +kernel
theorem d_DC_why_26 : decode c_DC_why 26 = .ok (.iload_n 2, 1) := by decide +kernel
theorem d_DC_why_27 : decode c_DC_why 27 = .ok (.ifCond .ne 5, 3) := by decide +kernel
theorem d_DC_why_30 : decode c_DC_why 30 = .ok (.iconst (-1), 1) := by decide +kernel
theorem d_DC_why_31 : decode c_DC_why 31 = .ok (.ireturn, 1) := by decide +kernel
theorem d_DC_why_32 : decode c_DC_why 32 = .ok (.aload_n 0, 1) := by decide +kernel
theorem d_DC_why_33 : decode c_DC_why 33 = .ok (.getfield 40, 3) := by decide +kernel
theorem d_DC_why_36 : decode c_DC_why 36 = .ok (.iload_n 2, 1) := by decide +kernel
theorem d_DC_why_37 : decode c_DC_why 37 = .ok (.aload_n 0, 1) := by decide +kernel
theorem d_DC_why_38 : decode c_DC_why 38 = .ok (.getfield 36, 3) := by decide +kernel
theorem d_DC_why_41 : decode c_DC_why 41 = .ok (.invokevirtual 166, 3) := by decide +kernel
theorem d_DC_why_44 : decode c_DC_why 44 = .ok (.istore_n 3, 1) := by decide +kernel
theorem d_DC_why_45 : decode c_DC_why 45 = .ok (.iload_n 1, 1) := by decide +kernel
theorem d_DC_why_46 : decode c_DC_why 46 = .ok (.ifCond .ne 5, 3) := by decide +kernel
theorem d_DC_why_49 : decode c_DC_why 49 = .ok (.iload_n 3, 1) := by decide +kernel
theorem d_DC_why_50 : decode c_DC_why 50 = .ok (.ireturn, 1) := by decide +kernel
theorem d_DC_why_51 : decode c_DC_why 51 = .ok (.iload_n 2, 1) := by decide +kernel
theorem d_DC_why_52 : decode c_DC_why 52 = .ok (.iconst 2, 1) := by decide +kernel
theorem d_DC_why_53 : decode c_DC_why 53 = .ok (.if_icmp .ne 23, 3) := by decide +kernel
theorem d_DC_why_56 : decode c_DC_why 56 = .ok (.aload_n 0, 1) := by decide +kernel
theorem d_DC_why_57 : decode c_DC_why 57 = .ok (.getfield 40, 3) := by decide +kernel
theorem d_DC_why_60 : decode c_DC_why 60 = .ok (.aload_n 0, 1) := by decide +kernel
theorem d_DC_why_61 : decode c_DC_why 61 = .ok (.getfield 36, 3) := by decide +kernel
theorem d_DC_why_64 : decode c_DC_why 64 = .ok (.getfield 170, 3) := by decide +kernel
theorem d_DC_why_67 : decode c_DC_why 67 = .ok (.iload_n 3, 1) := by decide +kernel
theorem d_DC_why_68 : decode c_DC_why 68 = .ok (.iaload, 1) := by decide +kernel
theorem d_DC_why_69 : decode c_DC_why 69 = .ok (.iload_n 1, 1) := by decide +kernel
theorem d_DC_why_70 : decode c_DC_why 70 = .ok (.invokevirtual 173, 3) := by decide +kernel
theorem d_DC_why_73 : decode c_DC_why 73 = .ok (.goto 4, 3) := by decide +kernel
theorem d_DC_why_76 : decode c_DC_why 76 = .ok (.iconst (-1), 1) := by decide +kernel
theorem d_DC_why_77 : decode c_DC_why 77 = .ok (.ireturn, 1) := by decide +kernel
theorem d_DC_measure_0 : decode c_DC_measure 0 = .ok (.iload_n 1, 1) := by decide +kernel
theorem d_DC_measure_1 : decode c_DC_measure 1 = .ok (.invokestatic 176, 3) := by decide +kernel
theorem d_DC_measure_4 : decode c_DC_measure 4 = .ok (.ifCond .eq 18, 3) := by decide +kernel
theorem d_DC_measure_7 : decode c_DC_measure 7 = .ok (.aload_n 0, 1) := by decide +kernel
theorem d_DC_measure_8 : decode c_DC_measure 8 = .ok (.getfield 44, 3) := by decide +kernel
theorem d_DC_measure_11 : decode c_DC_measure 11 = .ok (.aload_n 0, 1) := by decide +kernel
theorem d_DC_measure_12 : decode c_DC_measure 12 = .ok (.getfield 36, 3) := by decide +kernel
theorem d_DC_measure_15 : decode c_DC_measure 15 = .ok (.iload_n 1, 1) := by decide +kernel
theorem d_DC_measure_16 : decode c_DC_measure 16 = .ok (.invokevirtual 179, 3) := by decide +kernel
theorem d_DC_measure_19 : decode c_DC_measure 19 = .ok (.goto 4, 3) := by decide +kernel
theorem d_DC_measure_22 : decode c_DC_measure 22 = .ok (.iconst (-1), 1) := by decide +kernel
theorem d_DC_measure_23 : decode c_DC_measure 23 = .ok (.ireturn, 1) := by decide +kernel
theorem d_DC_district_0 : decode c_DC_district 0 = .ok (.aload_n 0, 1) := by decide +kernel
theorem d_DC_district_1 : decode c_DC_district 1 = .ok (.getfield 29, 3) := by decide +kernel
theorem d_DC_district_4 : decode c_DC_district 4 = .ok (.iload_n 1, 1) := by decide +kernel
theorem d_DC_district_5 : decode c_DC_district 5 = .ok (.invokevirtual 149, 3) := by decide +kernel
theorem d_DC_district_8 : decode c_DC_district 8 = .ok (.ifCond .ne 5, 3) := by decide +kernel
theorem d_DC_district_11 : decode c_DC_district 11 = .ok (.iconst (-1), 1) := by decide +kernel
theorem d_DC_district_12 : decode c_DC_district 12 = .ok (.ireturn, 1) := by decide +kernel
theorem d_DC_district_13 : decode c_DC_district 13 = .ok (.aload_n 0, 1) := by decide +kernel
theorem d_DC_district_14 : decode c_DC_district 14 = .ok (.getfield 36, 3) := by decide +kernel
theorem d_DC_district_17 : decode c_DC_district 17 = .ok (.getfield 170, 3) := by decide +kernel
theorem d_DC_district_20 : decode c_DC_district 20 = .ok (.iload_n 1, 1) := by decide +kernel
theorem d_DC_district_21 : decode c_DC_district 21 = .ok (.iaload, 1) := by decide +kernel
theorem d_DC_district_22 : decode c_DC_district 22 = .ok (.istore_n 3, 1) := by decide +kernel
theorem d_DC_district_23 : decode c_DC_district 23 = .ok (.iload_n 2, 1) := by decide +kernel
theorem d_DC_district_24 : decode c_DC_district 24 = .ok (.tableswitch 132 0 7 #[48, 53, 65, 77, 89, 101, 110, 127], 48) := by decide +kernel
theorem d_DC_district_72 : decode c_DC_district 72 = .ok (.iload_n 3, 1) := by decide +kernel
theorem d_DC_district_73 : decode c_DC_district 73 = .ok (.invokestatic 183, 3) := by decide +kernel
theorem d_DC_district_76 : decode c_DC_district 76 = .ok (.ireturn, 1) := by decide +kernel
theorem d_DC_district_77 : decode c_DC_district 77 = .ok (.aload_n 0, 1) := by decide +kernel
theorem d_DC_district_78 : decode c_DC_district 78 = .ok (.getfield 23, 3) := by decide +kernel
theorem d_DC_district_81 : decode c_DC_district 81 = .ok (.getfield 187, 3) := by decide +kernel
theorem d_DC_district_84 : decode c_DC_district 84 = .ok (.iload_n 3, 1) := by decide +kernel
theorem d_DC_district_85 : decode c_DC_district 85 = .ok (.invokestatic 190, 3) := by decide +kernel
theorem d_DC_district_88 : decode c_DC_district 88 = .ok (.ireturn, 1) := by decide +kernel
theorem d_DC_district_89 : decode c_DC_district 89 = .ok (.aload_n 0, 1) := by decide +kernel
theorem d_DC_district_90 : decode c_DC_district 90 = .ok (.getfield 23, 3) := by decide +kernel
theorem d_DC_district_93 : decode c_DC_district 93 = .ok (.getfield 194, 3) := by decide +kernel
theorem d_DC_district_96 : decode c_DC_district 96 = .ok (.iload_n 3, 1) := by decide +kernel
theorem d_DC_district_97 : decode c_DC_district 97 = .ok (.invokestatic 190, 3) := by decide +kernel
theorem d_DC_district_100 : decode c_DC_district 100 = .ok (.ireturn, 1) := by decide +kernel
theorem d_DC_district_101 : decode c_DC_district 101 = .ok (.aload_n 0, 1) := by decide +kernel
theorem d_DC_district_102 : decode c_DC_district 102 = .ok (.getfield 23, 3) := by decide +kernel
theorem d_DC_district_105 : decode c_DC_district 105 = .ok (.getfield 197, 3) := by decide +kernel
theorem d_DC_district_108 : decode c_DC_district 108 = .ok (.iload_n 3, 1) := by decide +kernel
theorem d_DC_district_109 : decode c_DC_district 109 = .ok (.invokestatic 190, 3) := by decide +kernel
theorem d_DC_district_112 : decode c_DC_district 112 = .ok (.ireturn, 1) := by decide +kernel
theorem d_DC_district_113 : decode c_DC_district 113 = .ok (.aload_n 0, 1) := by decide +kernel
theorem d_DC_district_114 : decode c_DC_district 114 = .ok (.getfield 23, 3) := by decide +kernel
theorem d_DC_district_117 : decode c_DC_district 117 = .ok (.getfield 200, 3) := by decide +kernel
theorem d_DC_district_120 : decode c_DC_district 120 = .ok (.iload_n 3, 1) := by decide +kernel
theorem d_DC_district_121 : decode c_DC_district 121 = .ok (.invokestatic 190, 3) := by decide +kernel
theorem d_DC_district_124 : decode c_DC_district 124 = .ok (.ireturn, 1) := by decide +kernel
theorem d_DC_district_125 : decode c_DC_district 125 = .ok (.aload_n 0, 1) := by decide +kernel
theorem d_DC_district_126 : decode c_DC_district 126 = .ok (.getfield 23, 3) := by decide +kernel
theorem d_DC_district_129 : decode c_DC_district 129 = .ok (.iload_n 3, 1) := by decide +kernel
theorem d_DC_district_130 : decode c_DC_district 130 = .ok (.invokevirtual 203, 3) := by decide +kernel
theorem d_DC_district_133 : decode c_DC_district 133 = .ok (.ireturn, 1) := by decide +kernel
theorem d_DC_district_134 : decode c_DC_district 134 = .ok (.aload_n 0, 1) := by decide +kernel
theorem d_DC_district_135 : decode c_DC_district 135 = .ok (.getfield 40, 3) := by decide +kernel
theorem d_DC_district_138 : decode c_DC_district 138 = .ok (.iload_n 3, 1) := by decide +kernel
theorem d_DC_district_139 : decode c_DC_district 139 = .ok (.invokevirtual 206, 3) := by decide +kernel
theorem d_DC_district_142 : decode c_DC_district 142 = .ok (.ifCond .eq 7, 3) := by decide +kernel
theorem d_DC_district_145 : decode c_DC_district 145 = .ok (.iconst 1, 1) := by decide +kernel
theorem d_DC_district_146 : decode c_DC_district 146 = .ok (.goto 4, 3) := by decide +kernel
theorem d_DC_district_149 : decode c_DC_district 149 = .ok (.iconst 0, 1) := by decide +kernel
theorem d_DC_district_150 : decode c_DC_district 150 = .ok (.ireturn, 1) := by decide +kernel
theorem d_DC_district_151 : decode c_DC_district 151 = .ok (.iload_n 3, 1) := by decide +kernel
theorem d_DC_district_152 : decode c_DC_district 152 = .ok (.invokestatic 209, 3) := by decide +kernel
theorem d_DC_district_155 : decode c_DC_district 155 = .ok (.ireturn, 1) := by decide +kernel
theorem d_DC_district_156 : decode c_DC_district 156 = .ok (.iconst (-1), 1) := by decide +kernel
theorem d_DC_district_157 : decode c_DC_district 157 = .ok (.ireturn, 1) := by decide +kernel
theorem d_DC_land_0 : decode c_DC_land 0 = .ok (.iload_n 1, 1) := by decide +kernel
theorem d_DC_land_1 : decode c_DC_land 1 = .ok (.tableswitch 99 0 6 #[43, 51, 59, 67, 75, 83, 91], 43) := by decide +kernel
theorem d_DC_land_44 : decode c_DC_land 44 = .ok (.aload_n 0, 1) := by decide +kernel
theorem d_DC_land_45 : decode c_DC_land 45 = .ok (.getfield 23, 3) := by decide +kernel
theorem d_DC_land_48 : decode c_DC_land 48 = .ok (.getfield 90, 3) := by decide +kernel
theorem d_DC_land_51 : decode c_DC_land 51 = .ok (.ireturn, 1) := by decide +kernel
theorem d_DC_land_52 : decode c_DC_land 52 = .ok (.aload_n 0, 1) := by decide +kernel
theorem d_DC_land_53 : decode c_DC_land 53 = .ok (.getfield 23, 3) := by decide +kernel
theorem d_DC_land_56 : decode c_DC_land 56 = .ok (.getfield 118, 3) := by decide +kernel
theorem d_DC_land_59 : decode c_DC_land 59 = .ok (.ireturn, 1) := by decide +kernel
theorem d_DC_land_60 : decode c_DC_land 60 = .ok (.aload_n 0, 1) := by decide +kernel
theorem d_DC_land_61 : decode c_DC_land 61 = .ok (.getfield 23, 3) := by decide +kernel
theorem d_DC_land_64 : decode c_DC_land 64 = .ok (.getfield 212, 3) := by decide +kernel
theorem d_DC_land_67 : decode c_DC_land 67 = .ok (.ireturn, 1) := by decide +kernel
theorem d_DC_land_68 : decode c_DC_land 68 = .ok (.aload_n 0, 1) := by decide +kernel
theorem d_DC_land_69 : decode c_DC_land 69 = .ok (.getfield 29, 3) := by decide +kernel
theorem d_DC_land_72 : decode c_DC_land 72 = .ok (.getfield 125, 3) := by decide +kernel
theorem d_DC_land_75 : decode c_DC_land 75 = .ok (.ireturn, 1) := by decide +kernel
theorem d_DC_land_76 : decode c_DC_land 76 = .ok (.aload_n 0, 1) := by decide +kernel
theorem d_DC_land_77 : decode c_DC_land 77 = .ok (.getfield 29, 3) := by decide +kernel
theorem d_DC_land_80 : decode c_DC_land 80 = .ok (.getfield 128, 3) := by decide +kernel
theorem d_DC_land_83 : decode c_DC_land 83 = .ok (.ireturn, 1) := by decide +kernel
theorem d_DC_land_84 : decode c_DC_land 84 = .ok (.aload_n 0, 1) := by decide +kernel
theorem d_DC_land_85 : decode c_DC_land 85 = .ok (.getfield 29, 3) := by decide +kernel
theorem d_DC_land_88 : decode c_DC_land 88 = .ok (.invokevirtual 215, 3) := by decide +kernel
theorem d_DC_land_91 : decode c_DC_land 91 = .ok (.ireturn, 1) := by decide +kernel
theorem d_DC_land_92 : decode c_DC_land 92 = .ok (.aload_n 0, 1) := by decide +kernel
theorem d_DC_land_93 : decode c_DC_land 93 = .ok (.getfield 29, 3) := by decide +kernel
theorem d_DC_land_96 : decode c_DC_land 96 = .ok (.getfield 146, 3) := by decide +kernel
theorem d_DC_land_99 : decode c_DC_land 99 = .ok (.ireturn, 1) := by decide +kernel
theorem d_DC_land_100 : decode c_DC_land 100 = .ok (.iconst (-1), 1) := by decide +kernel
theorem d_DC_land_101 : decode c_DC_land 101 = .ok (.ireturn, 1) := by decide +kernel
theorem d_DC_count_0 : decode c_DC_count 0 = .ok (.aload_n 0, 1) := by decide +kernel
theorem d_DC_count_1 : decode c_DC_count 1 = .ok (.ldc 218, 2) := by decide +kernel
theorem d_DC_count_3 : decode c_DC_count 3 = .ok (.invokevirtual 219, 3) := by decide +kernel
theorem d_DC_count_6 : decode c_DC_count 6 = .ok (.istore_n 1, 1) := by decide +kernel
theorem d_DC_count_7 : decode c_DC_count 7 = .ok (.iload_n 1, 1) := by decide +kernel
theorem d_DC_count_8 : decode c_DC_count 8 = .ok (.ifCond .ge 7, 3) := by decide +kernel
theorem d_DC_count_11 : decode c_DC_count 11 = .ok (.iload_n 1, 1) := by decide +kernel
theorem d_DC_count_12 : decode c_DC_count 12 = .ok (.goto 10, 3) := by decide +kernel
theorem d_DC_count_15 : decode c_DC_count 15 = .ok (.aload_n 0, 1) := by decide +kernel
theorem d_DC_count_16 : decode c_DC_count 16 = .ok (.getfield 53, 3) := by decide +kernel
theorem d_DC_count_19 : decode c_DC_count 19 = .ok (.invokevirtual 222, 3) := by decide +kernel
theorem d_DC_count_22 : decode c_DC_count 22 = .ok (.ireturn, 1) := by decide +kernel
theorem d_DC_kth_0 : decode c_DC_kth 0 = .ok (.aload_n 0, 1) := by decide +kernel
theorem d_DC_kth_1 : decode c_DC_kth 1 = .ok (.ldc 218, 2) := by decide +kernel
theorem d_DC_kth_3 : decode c_DC_kth 3 = .ok (.invokevirtual 219, 3) := by decide +kernel
theorem d_DC_kth_6 : decode c_DC_kth 6 = .ok (.istore_n 2, 1) := by decide +kernel
theorem d_DC_kth_7 : decode c_DC_kth 7 = .ok (.iload_n 2, 1) := by decide +kernel
theorem d_DC_kth_8 : decode c_DC_kth 8 = .ok (.ifCond .ge 5, 3) := by decide +kernel
theorem d_DC_kth_11 : decode c_DC_kth 11 = .ok (.iload_n 2, 1) := by decide +kernel
theorem d_DC_kth_12 : decode c_DC_kth 12 = .ok (.ireturn, 1) := by decide +kernel
theorem d_DC_kth_13 : decode c_DC_kth 13 = .ok (.aload_n 0, 1) := by decide +kernel
theorem d_DC_kth_14 : decode c_DC_kth 14 = .ok (.getfield 53, 3) := by decide +kernel
theorem d_DC_kth_17 : decode c_DC_kth 17 = .ok (.iload_n 1, 1) := by decide +kernel
theorem d_DC_kth_18 : decode c_DC_kth 18 = .ok (.invokevirtual 225, 3) := by decide +kernel
theorem d_DC_kth_21 : decode c_DC_kth 21 = .ok (.ifCond .ne 5, 3) := by decide +kernel
theorem d_DC_kth_24 : decode c_DC_kth 24 = .ok (.iconst (-1), 1) := by decide +kernel
theorem d_DC_kth_25 : decode c_DC_kth 25 = .ok (.ireturn, 1) := by decide +kernel
theorem d_DC_kth_26 : decode c_DC_kth 26 = .ok (.aload_n 0, 1) := by decide +kernel
theorem d_DC_kth_27 : decode c_DC_kth 27 = .ok (.getfield 53, 3) := by decide +kernel
theorem d_DC_kth_30 : decode c_DC_kth 30 = .ok (.iload_n 1, 1) := by decide +kernel
theorem d_DC_kth_31 : decode c_DC_kth 31 = .ok (.aload_n 0, 1) := by decide +kernel
theorem d_DC_kth_32 : decode c_DC_kth 32 = .ok (.getfield 36, 3) := by decide +kernel
theorem d_DC_kth_35 : decode c_DC_kth 35 = .ok (.invokevirtual 228, 3) := by decide +kernel
theorem d_DC_kth_38 : decode c_DC_kth 38 = .ok (.iconst 1, 1) := by decide +kernel
theorem d_DC_kth_39 : decode c_DC_kth 39 = .ok (.ireturn, 1) := by decide +kernel
theorem d_DC_which_0 : decode c_DC_which 0 = .ok (.aload_n 0, 1) := by decide +kernel
theorem d_DC_which_1 : decode c_DC_which 1 = .ok (.ldc 218, 2) := by decide +kernel
theorem d_DC_which_3 : decode c_DC_which 3 = .ok (.invokevirtual 219, 3) := by decide +kernel
theorem d_DC_which_6 : decode c_DC_which 6 = .ok (.istore_n 1, 1) := by decide +kernel
theorem d_DC_which_7 : decode c_DC_which 7 = .ok (.iload_n 1, 1) := by decide +kernel
theorem d_DC_which_8 : decode c_DC_which 8 = .ok (.ifCond .ge 7, 3) := by decide +kernel
theorem d_DC_which_11 : decode c_DC_which 11 = .ok (.iload_n 1, 1) := by decide +kernel
theorem d_DC_which_12 : decode c_DC_which 12 = .ok (.goto 14, 3) := by decide +kernel
theorem d_DC_which_15 : decode c_DC_which 15 = .ok (.aload_n 0, 1) := by decide +kernel
theorem d_DC_which_16 : decode c_DC_which 16 = .ok (.getfield 53, 3) := by decide +kernel
theorem d_DC_which_19 : decode c_DC_which 19 = .ok (.aload_n 0, 1) := by decide +kernel
theorem d_DC_which_20 : decode c_DC_which 20 = .ok (.getfield 36, 3) := by decide +kernel
theorem d_DC_which_23 : decode c_DC_which 23 = .ok (.invokevirtual 232, 3) := by decide +kernel
theorem d_DC_which_26 : decode c_DC_which 26 = .ok (.ireturn, 1) := by decide +kernel
theorem d_DC_same_0 : decode c_DC_same 0 = .ok (.aload_n 0, 1) := by decide +kernel
theorem d_DC_same_1 : decode c_DC_same 1 = .ok (.ldc 218, 2) := by decide +kernel
theorem d_DC_same_3 : decode c_DC_same 3 = .ok (.invokevirtual 219, 3) := by decide +kernel
theorem d_DC_same_6 : decode c_DC_same 6 = .ok (.istore_n 2, 1) := by decide +kernel
theorem d_DC_same_7 : decode c_DC_same 7 = .ok (.iload_n 2, 1) := by decide +kernel
theorem d_DC_same_8 : decode c_DC_same 8 = .ok (.ifCond .ge 5, 3) := by decide +kernel
theorem d_DC_same_11 : decode c_DC_same 11 = .ok (.iload_n 2, 1) := by decide +kernel
theorem d_DC_same_12 : decode c_DC_same 12 = .ok (.ireturn, 1) := by decide +kernel
theorem d_DC_same_13 : decode c_DC_same 13 = .ok (.aload_n 0, 1) := by decide +kernel
theorem d_DC_same_14 : decode c_DC_same 14 = .ok (.getfield 53, 3) := by decide +kernel
theorem d_DC_same_17 : decode c_DC_same 17 = .ok (.iload_n 1, 1) := by decide +kernel
theorem d_DC_same_18 : decode c_DC_same 18 = .ok (.invokevirtual 225, 3) := by decide +kernel
theorem d_DC_same_21 : decode c_DC_same 21 = .ok (.ifCond .ne 5, 3) := by decide +kernel
theorem d_DC_same_24 : decode c_DC_same 24 = .ok (.iconst (-1), 1) := by decide +kernel
theorem d_DC_same_25 : decode c_DC_same 25 = .ok (.ireturn, 1) := by decide +kernel
theorem d_DC_same_26 : decode c_DC_same 26 = .ok (.aload_n 0, 1) := by decide +kernel
theorem d_DC_same_27 : decode c_DC_same 27 = .ok (.getfield 53, 3) := by decide +kernel
theorem d_DC_same_30 : decode c_DC_same 30 = .ok (.aload_n 0, 1) := by decide +kernel
theorem d_DC_same_31 : decode c_DC_same 31 = .ok (.getfield 36, 3) := by decide +kernel
theorem d_DC_same_34 : decode c_DC_same 34 = .ok (.invokevirtual 232, 3) := by decide +kernel
theorem d_DC_same_37 : decode c_DC_same 37 = .ok (.iload_n 1, 1) := by decide +kernel
theorem d_DC_same_38 : decode c_DC_same 38 = .ok (.if_icmp .ne 7, 3) := by decide +kernel
theorem d_DC_same_41 : decode c_DC_same 41 = .ok (.iconst 1, 1) := by decide +kernel
theorem d_DC_same_42 : decode c_DC_same 42 = .ok (.goto 4, 3) := by decide +kernel
theorem d_DC_same_45 : decode c_DC_same 45 = .ok (.iconst 0, 1) := by decide +kernel
theorem d_DC_same_46 : decode c_DC_same 46 = .ok (.ireturn, 1) := by decide +kernel
theorem d_DC_least_0 : decode c_DC_least 0 = .ok (.iload_n 1, 1) := by decide +kernel
theorem d_DC_least_1 : decode c_DC_least 1 = .ok (.invokestatic 176, 3) := by decide +kernel
theorem d_DC_least_4 : decode c_DC_least 4 = .ok (.ifCond .ne 5, 3) := by decide +kernel
theorem d_DC_least_7 : decode c_DC_least 7 = .ok (.iconst (-1), 1) := by decide +kernel
theorem d_DC_least_8 : decode c_DC_least 8 = .ok (.ireturn, 1) := by decide +kernel
theorem d_DC_least_9 : decode c_DC_least 9 = .ok (.aload_n 0, 1) := by decide +kernel
theorem d_DC_least_10 : decode c_DC_least 10 = .ok (.sipush 20000, 3) := by decide +kernel
theorem d_DC_least_13 : decode c_DC_least 13 = .ok (.invokevirtual 219, 3) := by decide +kernel
theorem d_DC_least_16 : decode c_DC_least 16 = .ok (.istore_n 2, 1) := by decide +kernel
theorem d_DC_least_17 : decode c_DC_least 17 = .ok (.iload_n 2, 1) := by decide +kernel
theorem d_DC_least_18 : decode c_DC_least 18 = .ok (.ifCond .ge 5, 3) := by decide +kernel
theorem d_DC_least_21 : decode c_DC_least 21 = .ok (.iload_n 2, 1) := by decide +kernel
theorem d_DC_least_22 : decode c_DC_least 22 = .ok (.ireturn, 1) := by decide +kernel
theorem d_DC_least_23 : decode c_DC_least 23 = .ok (.aload_n 0, 1) := by decide +kernel
theorem d_DC_least_24 : decode c_DC_least 24 = .ok (.getfield 53, 3) := by decide +kernel
theorem d_DC_least_27 : decode c_DC_least 27 = .ok (.iload_n 1, 1) := by decide +kernel
theorem d_DC_least_28 : decode c_DC_least 28 = .ok (.iconst 0, 1) := by decide +kernel
theorem d_DC_least_29 : decode c_DC_least 29 = .ok (.invokevirtual 235, 3) := by decide +kernel
theorem d_DC_least_32 : decode c_DC_least 32 = .ok (.aload_n 0, 1) := by decide +kernel
theorem d_DC_least_33 : decode c_DC_least 33 = .ok (.getfield 53, 3) := by decide +kernel
theorem d_DC_least_36 : decode c_DC_least 36 = .ok (.getfield 238, 3) := by decide +kernel
theorem d_DC_least_39 : decode c_DC_least 39 = .ok (.ireturn, 1) := by decide +kernel
theorem d_DC_among_0 : decode c_DC_among 0 = .ok (.iload_n 1, 1) := by decide +kernel
theorem d_DC_among_1 : decode c_DC_among 1 = .ok (.invokestatic 176, 3) := by decide +kernel
theorem d_DC_among_4 : decode c_DC_among 4 = .ok (.ifCond .eq 12, 3) := by decide +kernel
theorem d_DC_among_7 : decode c_DC_among 7 = .ok (.iload_n 2, 1) := by decide +kernel
theorem d_DC_among_8 : decode c_DC_among 8 = .ok (.iconst 0, 1) := by decide +kernel
theorem d_DC_among_9 : decode c_DC_among 9 = .ok (.iconst 2, 1) := by decide +kernel
theorem d_DC_among_10 : decode c_DC_among 10 = .ok (.invokestatic 82, 3) := by decide +kernel
theorem d_DC_among_13 : decode c_DC_among 13 = .ok (.ifCond .ne 5, 3) := by decide +kernel
theorem d_DC_among_16 : decode c_DC_among 16 = .ok (.iconst (-1), 1) := by decide +kernel
theorem d_DC_among_17 : decode c_DC_among 17 = .ok (.ireturn, 1) := by decide +kernel
theorem d_DC_among_18 : decode c_DC_among 18 = .ok (.aload_n 0, 1) := by decide +kernel
theorem d_DC_among_19 : decode c_DC_among 19 = .ok (.sipush 20000, 3) := by decide +kernel
theorem d_DC_among_22 : decode c_DC_among 22 = .ok (.invokevirtual 219, 3) := by decide +kernel
theorem d_DC_among_25 : decode c_DC_among 25 = .ok (.istore_n 3, 1) := by decide +kernel
theorem d_DC_among_26 : decode c_DC_among 26 = .ok (.iload_n 3, 1) := by decide +kernel
theorem d_DC_among_27 : decode c_DC_among 27 = .ok (.ifCond .ge 5, 3) := by decide +kernel
theorem d_DC_among_30 : decode c_DC_among 30 = .ok (.iload_n 3, 1) := by decide +kernel
theorem d_DC_among_31 : decode c_DC_among 31 = .ok (.ireturn, 1) := by decide +kernel
theorem d_DC_among_32 : decode c_DC_among 32 = .ok (.aload_n 0, 1) := by decide +kernel
theorem d_DC_among_33 : decode c_DC_among 33 = .ok (.getfield 53, 3) := by decide +kernel
theorem d_DC_among_36 : decode c_DC_among 36 = .ok (.iload_n 1, 1) := by decide +kernel
theorem d_DC_among_37 : decode c_DC_among 37 = .ok (.aload_n 0, 1) := by decide +kernel
theorem d_DC_among_38 : decode c_DC_among 38 = .ok (.getfield 44, 3) := by decide +kernel
theorem d_DC_among_41 : decode c_DC_among 41 = .ok (.aload_n 0, 1) := by decide +kernel
theorem d_DC_among_42 : decode c_DC_among 42 = .ok (.getfield 36, 3) := by decide +kernel
theorem d_DC_among_45 : decode c_DC_among 45 = .ok (.iload_n 1, 1) := by decide +kernel
theorem d_DC_among_46 : decode c_DC_among 46 = .ok (.invokevirtual 179, 3) := by decide +kernel
theorem d_DC_among_49 : decode c_DC_among 49 = .ok (.invokevirtual 235, 3) := by decide +kernel
theorem d_DC_among_52 : decode c_DC_among 52 = .ok (.aload_n 0, 1) := by decide +kernel
theorem d_DC_among_53 : decode c_DC_among 53 = .ok (.getfield 53, 3) := by decide +kernel
theorem d_DC_among_56 : decode c_DC_among 56 = .ok (.getfield 241, 3) := by decide +kernel
theorem d_DC_among_59 : decode c_DC_among 59 = .ok (.iload_n 2, 1) := by decide +kernel
theorem d_DC_among_60 : decode c_DC_among 60 = .ok (.iaload, 1) := by decide +kernel
theorem d_DC_among_61 : decode c_DC_among 61 = .ok (.ireturn, 1) := by decide +kernel
theorem d_DC_step_0 : decode c_DC_step 0 = .ok (.aload_n 0, 1) := by decide +kernel
theorem d_DC_step_1 : decode c_DC_step 1 = .ok (.invokevirtual 244, 3) := by decide +kernel
theorem d_DC_step_4 : decode c_DC_step 4 = .ok (.istore_n 2, 1) := by decide +kernel
theorem d_DC_step_5 : decode c_DC_step 5 = .ok (.iload_n 2, 1) := by decide +kernel
theorem d_DC_step_6 : decode c_DC_step 6 = .ok (.ifCond .ge 5, 3) := by decide +kernel
theorem d_DC_step_9 : decode c_DC_step 9 = .ok (.iload_n 2, 1) := by decide +kernel
theorem d_DC_step_10 : decode c_DC_step 10 = .ok (.ireturn, 1) := by decide +kernel
theorem d_DC_step_11 : decode c_DC_step 11 = .ok (.aload_n 0, 1) := by decide +kernel
theorem d_DC_step_12 : decode c_DC_step 12 = .ok (.getfield 62, 3) := by decide +kernel
theorem d_DC_step_15 : decode c_DC_step 15 = .ok (.iload_n 1, 1) := by decide +kernel
theorem d_DC_step_16 : decode c_DC_step 16 = .ok (.putfield 247, 3) := by decide +kernel
theorem d_DC_step_19 : decode c_DC_step 19 = .ok (.aload_n 0, 1) := by decide +kernel
theorem d_DC_step_20 : decode c_DC_step 20 = .ok (.getfield 62, 3) := by decide +kernel
theorem d_DC_step_23 : decode c_DC_step 23 = .ok (.aload_n 0, 1) := by decide +kernel
theorem d_DC_step_24 : decode c_DC_step 24 = .ok (.getfield 36, 3) := by decide +kernel
theorem d_DC_step_27 : decode c_DC_step 27 = .ok (.invokevirtual 250, 3) := by decide +kernel
theorem d_DC_step_30 : decode c_DC_step 30 = .ok (.ifCond .eq 7, 3) := by decide +kernel
theorem d_DC_step_33 : decode c_DC_step 33 = .ok (.iconst 1, 1) := by decide +kernel
theorem d_DC_step_34 : decode c_DC_step 34 = .ok (.goto 4, 3) := by decide +kernel
theorem d_DC_step_37 : decode c_DC_step 37 = .ok (.iconst 0, 1) := by decide +kernel
theorem d_DC_step_38 : decode c_DC_step 38 = .ok (.ireturn, 1) := by decide +kernel
theorem d_DC_walk_0 : decode c_DC_walk 0 = .ok (.iload_n 1, 1) := by decide +kernel
theorem d_DC_walk_1 : decode c_DC_walk 1 = .ok (.iconst 1, 1) := by decide +kernel
theorem d_DC_walk_2 : decode c_DC_walk 2 = .ok (.sipush 200, 3) := by decide +kernel
theorem d_DC_walk_5 : decode c_DC_walk 5 = .ok (.invokestatic 82, 3) := by decide +kernel
theorem d_DC_walk_8 : decode c_DC_walk 8 = .ok (.ifCond .eq 10, 3) := by decide +kernel
theorem d_DC_walk_11 : decode c_DC_walk 11 = .ok (.iload_n 3, 1) := by decide +kernel
theorem d_DC_walk_12 : decode c_DC_walk 12 = .ok (.invokestatic 176, 3) := by decide +kernel
theorem d_DC_walk_15 : decode c_DC_walk 15 = .ok (.ifCond .ne 5, 3) := by decide +kernel
theorem d_DC_walk_18 : decode c_DC_walk 18 = .ok (.iconst (-1), 1) := by decide +kernel
theorem d_DC_walk_19 : decode c_DC_walk 19 = .ok (.ireturn, 1) := by decide +kernel
theorem d_DC_walk_20 : decode c_DC_walk 20 = .ok (.aload_n 0, 1) := by decide +kernel
theorem d_DC_walk_21 : decode c_DC_walk 21 = .ok (.invokevirtual 244, 3) := by decide +kernel
theorem d_DC_walk_24 : decode c_DC_walk 24 = .ok (.istore 4, 2) := by decide +kernel
theorem d_DC_walk_26 : decode c_DC_walk 26 = .ok (.iload 4, 2) := by decide +kernel
theorem d_DC_walk_28 : decode c_DC_walk 28 = .ok (.ifCond .ge 6, 3) := by decide +kernel
theorem d_DC_walk_31 : decode c_DC_walk 31 = .ok (.iload 4, 2) := by decide +kernel
theorem d_DC_walk_33 : decode c_DC_walk 33 = .ok (.ireturn, 1) := by decide +kernel
theorem d_DC_walk_34 : decode c_DC_walk 34 = .ok (.aload_n 0, 1) := by decide +kernel
theorem d_DC_walk_35 : decode c_DC_walk 35 = .ok (.getfield 62, 3) := by decide +kernel
theorem d_DC_walk_38 : decode c_DC_walk 38 = .ok (.iload_n 2, 1) := by decide +kernel
theorem d_DC_walk_39 : decode c_DC_walk 39 = .ok (.putfield 247, 3) := by decide +kernel
theorem d_DC_walk_42 : decode c_DC_walk 42 = .ok (.aload_n 0, 1) := by decide +kernel
theorem d_DC_walk_43 : decode c_DC_walk 43 = .ok (.getfield 62, 3) := by decide +kernel
theorem d_DC_walk_46 : decode c_DC_walk 46 = .ok (.aload_n 0, 1) := by decide +kernel
theorem d_DC_walk_47 : decode c_DC_walk 47 = .ok (.getfield 36, 3) := by decide +kernel
theorem d_DC_walk_50 : decode c_DC_walk 50 = .ok (.iload_n 1, 1) := by decide +kernel
theorem d_DC_walk_51 : decode c_DC_walk 51 = .ok (.iload_n 3, 1) := by decide +kernel
theorem d_DC_walk_52 : decode c_DC_walk 52 = .ok (.invokevirtual 254, 3) := by decide +kernel
theorem d_DC_walk_55 : decode c_DC_walk 55 = .ok (.aload_n 0, 1) := by decide +kernel
theorem d_DC_walk_56 : decode c_DC_walk 56 = .ok (.getfield 62, 3) := by decide +kernel
theorem d_DC_walk_59 : decode c_DC_walk 59 = .ok (.getfield 258, 3) := by decide +kernel
theorem d_DC_walk_62 : decode c_DC_walk 62 = .ok (.iconst 0, 1) := by decide +kernel
theorem d_DC_walk_63 : decode c_DC_walk 63 = .ok (.iaload, 1) := by decide +kernel
theorem d_DC_walk_64 : decode c_DC_walk 64 = .ok (.ireturn, 1) := by decide +kernel
theorem d_DC_seen_0 : decode c_DC_seen 0 = .ok (.aload_n 0, 1) := by decide +kernel
theorem d_DC_seen_1 : decode c_DC_seen 1 = .ok (.getfield 62, 3) := by decide +kernel
theorem d_DC_seen_4 : decode c_DC_seen 4 = .ok (.getfield 261, 3) := by decide +kernel
theorem d_DC_seen_7 : decode c_DC_seen 7 = .ok (.ifCond .eq 24, 3) := by decide +kernel
theorem d_DC_seen_10 : decode c_DC_seen 10 = .ok (.iload_n 1, 1) := by decide +kernel
theorem d_DC_seen_11 : decode c_DC_seen 11 = .ok (.iconst 0, 1) := by decide +kernel
theorem d_DC_seen_12 : decode c_DC_seen 12 = .ok (.iconst 5, 1) := by decide +kernel
theorem d_DC_seen_13 : decode c_DC_seen 13 = .ok (.invokestatic 82, 3) := by decide +kernel
theorem d_DC_seen_16 : decode c_DC_seen 16 = .ok (.ifCond .eq 15, 3) := by decide +kernel
theorem d_DC_seen_19 : decode c_DC_seen 19 = .ok (.aload_n 0, 1) := by decide +kernel
theorem d_DC_seen_20 : decode c_DC_seen 20 = .ok (.getfield 62, 3) := by decide +kernel
theorem d_DC_seen_23 : decode c_DC_seen 23 = .ok (.getfield 258, 3) := by decide +kernel
theorem d_DC_seen_26 : decode c_DC_seen 26 = .ok (.iload_n 1, 1) := by decide +kernel
theorem d_DC_seen_27 : decode c_DC_seen 27 = .ok (.iaload, 1) := by decide +kernel
theorem d_DC_seen_28 : decode c_DC_seen 28 = .ok (.goto 4, 3) := by decide +kernel
theorem d_DC_seen_31 : decode c_DC_seen 31 = .ok (.iconst (-1), 1) := by decide +kernel
theorem d_DC_seen_32 : decode c_DC_seen 32 = .ok (.ireturn, 1) := by decide +kernel
theorem d_DC_better_0 : decode c_DC_better 0 = .ok (.aload_n 0, 1) := by decide +kernel
theorem d_DC_better_1 : decode c_DC_better 1 = .ok (.invokevirtual 244, 3) := by decide +kernel
theorem d_DC_better_4 : decode c_DC_better 4 = .ok (.istore_n 1, 1) := by decide +kernel
theorem d_DC_better_5 : decode c_DC_better 5 = .ok (.iload_n 1, 1) := by decide +kernel
theorem d_DC_better_6 : decode c_DC_better 6 = .ok (.ifCond .ge 7, 3) := by decide +kernel
theorem d_DC_better_9 : decode c_DC_better 9 = .ok (.iload_n 1, 1) := by decide +kernel
theorem d_DC_better_10 : decode c_DC_better 10 = .ok (.goto 14, 3) := by decide +kernel
theorem d_DC_better_13 : decode c_DC_better 13 = .ok (.aload_n 0, 1) := by decide +kernel
theorem d_DC_better_14 : decode c_DC_better 14 = .ok (.getfield 71, 3) := by decide +kernel
theorem d_DC_better_17 : decode c_DC_better 17 = .ok (.aload_n 0, 1) := by decide +kernel
theorem d_DC_better_18 : decode c_DC_better 18 = .ok (.getfield 36, 3) := by decide +kernel
theorem d_DC_better_21 : decode c_DC_better 21 = .ok (.invokevirtual 265, 3) := by decide +kernel
theorem d_DC_better_24 : decode c_DC_better 24 = .ok (.ireturn, 1) := by decide +kernel
theorem d_DC_mend_0 : decode c_DC_mend 0 = .ok (.iload_n 1, 1) := by decide +kernel
theorem d_DC_mend_1 : decode c_DC_mend 1 = .ok (.iconst 0, 1) := by decide +kernel
theorem d_DC_mend_2 : decode c_DC_mend 2 = .ok (.iconst 2, 1) := by decide +kernel
theorem d_DC_mend_3 : decode c_DC_mend 3 = .ok (.invokestatic 82, 3) := by decide +kernel
theorem d_DC_mend_6 : decode c_DC_mend 6 = .ok (.ifCond .ne 5, 3) := by decide +kernel
theorem d_DC_mend_9 : decode c_DC_mend 9 = .ok (.iconst (-1), 1) := by decide +kernel
theorem d_DC_mend_10 : decode c_DC_mend 10 = .ok (.ireturn, 1) := by decide +kernel
theorem d_DC_mend_11 : decode c_DC_mend 11 = .ok (.aload_n 0, 1) := by decide +kernel
theorem d_DC_mend_12 : decode c_DC_mend 12 = .ok (.getfield 23, 3) := by decide +kernel
theorem d_DC_mend_15 : decode c_DC_mend 15 = .ok (.getfield 90, 3) := by decide +kernel
theorem d_DC_mend_18 : decode c_DC_mend 18 = .ok (.ifCond .ne 8, 3) := by decide +kernel
theorem d_DC_mend_21 : decode c_DC_mend 21 = .ok (.bipush (-5), 2) := by decide +kernel
theorem d_DC_mend_23 : decode c_DC_mend 23 = .ok (.goto 15, 3) := by decide +kernel
theorem d_DC_mend_26 : decode c_DC_mend 26 = .ok (.aload_n 0, 1) := by decide +kernel
theorem d_DC_mend_27 : decode c_DC_mend 27 = .ok (.getfield 78, 3) := by decide +kernel
theorem d_DC_mend_30 : decode c_DC_mend 30 = .ok (.aload_n 0, 1) := by decide +kernel
theorem d_DC_mend_31 : decode c_DC_mend 31 = .ok (.getfield 36, 3) := by decide +kernel
theorem d_DC_mend_34 : decode c_DC_mend 34 = .ok (.iload_n 1, 1) := by decide +kernel
theorem d_DC_mend_35 : decode c_DC_mend 35 = .ok (.invokevirtual 268, 3) := by decide +kernel
theorem d_DC_mend_38 : decode c_DC_mend 38 = .ok (.ireturn, 1) := by decide +kernel
theorem d_DC_openClasses_0 : decode c_DC_openClasses 0 = .ok (.aload_n 0, 1) := by decide +kernel
theorem d_DC_openClasses_1 : decode c_DC_openClasses 1 = .ok (.getfield 23, 3) := by decide +kernel
theorem d_DC_openClasses_4 : decode c_DC_openClasses 4 = .ok (.getfield 90, 3) := by decide +kernel
theorem d_DC_openClasses_7 : decode c_DC_openClasses 7 = .ok (.bipush 12, 2) := by decide +kernel
theorem d_DC_openClasses_9 : decode c_DC_openClasses 9 = .ok (.if_icmp .le 6, 3) := by decide +kernel
theorem d_DC_openClasses_12 : decode c_DC_openClasses 12 = .ok (.bipush (-4), 2) := by decide +kernel
theorem d_DC_openClasses_14 : decode c_DC_openClasses 14 = .ok (.ireturn, 1) := by decide +kernel
theorem d_DC_openClasses_15 : decode c_DC_openClasses 15 = .ok (.aload_n 0, 1) := by decide +kernel
theorem d_DC_openClasses_16 : decode c_DC_openClasses 16 = .ok (.getfield 23, 3) := by decide +kernel
theorem d_DC_openClasses_19 : decode c_DC_openClasses 19 = .ok (.getfield 90, 3) := by decide +kernel
theorem d_DC_openClasses_22 : decode c_DC_openClasses 22 = .ok (.ifCond .ne 6, 3) := by decide +kernel
theorem d_DC_openClasses_25 : decode c_DC_openClasses 25 = .ok (.bipush (-5), 2) := by decide +kernel
theorem d_DC_openClasses_27 : decode c_DC_openClasses 27 = .ok (.ireturn, 1) := by decide +kernel
theorem d_DC_openClasses_28 : decode c_DC_openClasses 28 = .ok (.aload_n 0, 1) := by decide +kernel
theorem d_DC_openClasses_29 : decode c_DC_openClasses 29 = .ok (.getfield 53, 3) := by decide +kernel
theorem d_DC_openClasses_32 : decode c_DC_openClasses 32 = .ok (.invokevirtual 271, 3) := by decide +kernel
theorem d_DC_openClasses_35 : decode c_DC_openClasses 35 = .ok (.aload_n 0, 1) := by decide +kernel
theorem d_DC_openClasses_36 : decode c_DC_openClasses 36 = .ok (.getfield 53, 3) := by decide +kernel
theorem d_DC_openClasses_39 : decode c_DC_openClasses 39 = .ok (.invokevirtual 222, 3) := by decide +kernel
theorem d_DC_openClasses_42 : decode c_DC_openClasses 42 = .ok (.iload_n 1, 1) := by decide +kernel
theorem d_DC_openClasses_43 : decode c_DC_openClasses 43 = .ok (.if_icmp .le 8, 3) := by decide +kernel
theorem d_DC_openClasses_46 : decode c_DC_openClasses 46 = .ok (.bipush (-4), 2) := by decide +kernel
theorem d_DC_openClasses_48 : decode c_DC_openClasses 48 = .ok (.goto 4, 3) := by decide +kernel
theorem d_DC_openClasses_51 : decode c_DC_openClasses 51 = .ok (.iconst 0, 1) := by decide +kernel
theorem d_DC_openClasses_52 : decode c_DC_openClasses 52 = .ok (.ireturn, 1) := by decide +kernel
theorem d_DC_changeRefusal_0 : decode c_DC_changeRefusal 0 = .ok (.aload_n 0, 1) := by decide +kernel
theorem d_DC_changeRefusal_1 : decode c_DC_changeRefusal 1 = .ok (.getfield 23, 3) := by decide +kernel
theorem d_DC_changeRefusal_4 : decode c_DC_changeRefusal 4 = .ok (.getfield 90, 3) := by decide +kernel
theorem d_DC_changeRefusal_7 : decode c_DC_changeRefusal 7 = .ok (.ifCond .ne 6, 3) := by decide +kernel
theorem d_DC_changeRefusal_10 : decode c_DC_changeRefusal 10 = .ok (.bipush (-5), 2) := by decide +kernel
theorem d_DC_changeRefusal_12 : decode c_DC_changeRefusal 12 = .ok (.ireturn, 1) := by decide +kernel
theorem d_DC_changeRefusal_13 : decode c_DC_changeRefusal 13 = .ok (.aload_n 0, 1) := by decide +kernel
theorem d_DC_changeRefusal_14 : decode c_DC_changeRefusal 14 = .ok (.getfield 40, 3) := by decide +kernel
theorem d_DC_changeRefusal_17 : decode c_DC_changeRefusal 17 = .ok (.aload_n 0, 1) := by decide +kernel
theorem d_DC_changeRefusal_18 : decode c_DC_changeRefusal 18 = .ok (.getfield 36, 3) := by decide +kernel
theorem d_DC_changeRefusal_21 : decode c_DC_changeRefusal 21 = .ok (.invokevirtual 274, 3) := by decide +kernel
theorem d_DC_changeRefusal_24 : decode c_DC_changeRefusal 24 = .ok (.ifCond .eq 7, 3) := by decide +kernel
theorem d_DC_changeRefusal_27 : decode c_DC_changeRefusal 27 = .ok (.iconst 0, 1) := by decide +kernel
theorem d_DC_changeRefusal_28 : decode c_DC_changeRefusal 28 = .ok (.goto 5, 3) := by decide +kernel
theorem d_DC_changeRefusal_31 : decode c_DC_changeRefusal 31 = .ok (.bipush (-3), 2) := by decide +kernel
theorem d_DC_changeRefusal_33 : decode c_DC_changeRefusal 33 = .ok (.ireturn, 1) := by decide +kernel
theorem d_DC_isWithin_0 : decode c_DC_isWithin 0 = .ok (.iload_n 0, 1) := by decide +kernel
theorem d_DC_isWithin_1 : decode c_DC_isWithin 1 = .ok (.iload_n 1, 1) := by decide +kernel
theorem d_DC_isWithin_2 : decode c_DC_isWithin 2 = .ok (.if_icmp .lt 12, 3) := by decide +kernel
theorem d_DC_isWithin_5 : decode c_DC_isWithin 5 = .ok (.iload_n 0, 1) := by decide +kernel
theorem d_DC_isWithin_6 : decode c_DC_isWithin 6 = .ok (.iload_n 2, 1) := by decide +kernel
theorem d_DC_isWithin_7 : decode c_DC_isWithin 7 = .ok (.if_icmp .gt 7, 3) := by decide +kernel
theorem d_DC_isWithin_10 : decode c_DC_isWithin 10 = .ok (.iconst 1, 1) := by decide +kernel
theorem d_DC_isWithin_11 : decode c_DC_isWithin 11 = .ok (.goto 4, 3) := by decide +kernel
theorem d_DC_isWithin_14 : decode c_DC_isWithin 14 = .ok (.iconst 0, 1) := by decide +kernel
theorem d_DC_isWithin_15 : decode c_DC_isWithin 15 = .ok (.ireturn, 1) := by decide +kernel
theorem d_DC_isTown_0 : decode c_DC_isTown 0 = .ok (.iload_n 0, 1) := by decide +kernel
theorem d_DC_isTown_1 : decode c_DC_isTown 1 = .ok (.iconst 0, 1) := by decide +kernel
theorem d_DC_isTown_2 : decode c_DC_isTown 2 = .ok (.bipush 9, 2) := by decide +kernel
theorem d_DC_isTown_4 : decode c_DC_isTown 4 = .ok (.invokestatic 82, 3) := by decide +kernel
theorem d_DC_isTown_7 : decode c_DC_isTown 7 = .ok (.ireturn, 1) := by decide +kernel
theorem d_DC_isMeasure_0 : decode c_DC_isMeasure 0 = .ok (.iload_n 0, 1) := by decide +kernel
theorem d_DC_isMeasure_1 : decode c_DC_isMeasure 1 = .ok (.iconst 0, 1) := by decide +kernel
theorem d_DC_isMeasure_2 : decode c_DC_isMeasure 2 = .ok (.bipush 6, 2) := by decide +kernel
theorem d_DC_isMeasure_4 : decode c_DC_isMeasure 4 = .ok (.invokestatic 82, 3) := by decide +kernel
theorem d_DC_isMeasure_7 : decode c_DC_isMeasure 7 = .ok (.ireturn, 1) := by decide +kernel
theorem d_Mo_init_0 : decode c_Mo_init 0 = .ok (.aload_n 0, 1) := by decide +kernel
theorem d_Mo_init_1 : decode c_Mo_init 1 = .ok (.invokespecial 1, 3) := by decide +kernel
theorem d_Mo_init_4 : decode c_Mo_init 4 = .ok (.aload_n 0, 1) := by decide +kernel
theorem d_Mo_init_5 : decode c_Mo_init 5 = .ok (.bipush 30, 2) := by decide +kernel
theorem d_Mo_init_7 : decode c_Mo_init 7 = .ok (.newarray .int, 2) := by decide +kernel
theorem d_Mo_init_9 : decode c_Mo_init 9 = .ok (.putfield 9, 3) := by decide +kernel
theorem d_Mo_init_12 : decode c_Mo_init 12 = .ok (.aload_n 0, 1) := by decide +kernel
theorem d_Mo_init_13 : decode c_Mo_init 13 = .ok (.bipush 60, 2) := by decide +kernel
theorem d_Mo_init_15 : decode c_Mo_init 15 = .ok (.newarray .int, 2) := by decide +kernel
theorem d_Mo_init_17 : decode c_Mo_init 17 = .ok (.putfield 13, 3) := by decide +kernel
theorem d_Mo_init_20 : decode c_Mo_init 20 = .ok (.aload_n 0, 1) := by decide +kernel
theorem d_Mo_init_21 : decode c_Mo_init 21 = .ok (.bipush 30, 2) := by decide +kernel
theorem d_Mo_init_23 : decode c_Mo_init 23 = .ok (.newarray .int, 2) := by decide +kernel
theorem d_Mo_init_25 : decode c_Mo_init 25 = .ok (.putfield 16, 3) := by decide +kernel
theorem d_Mo_init_28 : decode c_Mo_init 28 = .ok (.aload_n 0, 1) := by decide +kernel
theorem d_Mo_init_29 : decode c_Mo_init 29 = .ok (.bipush 30, 2) := by decide +kernel
theorem d_Mo_init_31 : decode c_Mo_init 31 = .ok (.newarray .int, 2) := by decide +kernel
theorem d_Mo_init_33 : decode c_Mo_init 33 = .ok (.putfield 19, 3) := by decide +kernel
theorem d_Mo_init_36 : decode c_Mo_init 36 = .ok (.aload_n 0, 1) := by decide +kernel
theorem d_Mo_init_37 : decode c_Mo_init 37 = .ok (.bipush 100, 2) := by decide +kernel
theorem d_Mo_init_39 : decode c_Mo_init 39 = .ok (.newarray .int, 2) := by decide +kernel
theorem d_Mo_init_41 : decode c_Mo_init 41 = .ok (.putfield 22, 3) := by decide +kernel
theorem d_Mo_init_44 : decode c_Mo_init 44 = .ok (.aload_n 0, 1) := by decide +kernel
theorem d_Mo_init_45 : decode c_Mo_init 45 = .ok (.bipush 100, 2) := by decide +kernel
theorem d_Mo_init_47 : decode c_Mo_init 47 = .ok (.newarray .int, 2) := by decide +kernel
theorem d_Mo_init_49 : decode c_Mo_init 49 = .ok (.putfield 25, 3) := by decide +kernel
theorem d_Mo_init_52 : decode c_Mo_init 52 = .ok (.aload_n 0, 1) := by decide +kernel
theorem d_Mo_init_53 : decode c_Mo_init 53 = .ok (.bipush 100, 2) := by decide +kernel
theorem d_Mo_init_55 : decode c_Mo_init 55 = .ok (.newarray .int, 2) := by decide +kernel
theorem d_Mo_init_57 : decode c_Mo_init 57 = .ok (.putfield 28, 3) := by decide +kernel
theorem d_Mo_init_60 : decode c_Mo_init 60 = .ok (.aload_n 0, 1) := by decide +kernel
theorem d_Mo_init_61 : decode c_Mo_init 61 = .ok (.bipush 30, 2) := by decide +kernel
theorem d_Mo_init_63 : decode c_Mo_init 63 = .ok (.newarray .int, 2) := by decide +kernel
theorem d_Mo_init_65 : decode c_Mo_init 65 = .ok (.putfield 31, 3) := by decide +kernel
theorem d_Mo_init_68 : decode c_Mo_init 68 = .ok (.aload_n 0, 1) := by decide +kernel
theorem d_Mo_init_69 : decode c_Mo_init 69 = .ok (.iconst 2, 1) := by decide +kernel
theorem d_Mo_init_70 : decode c_Mo_init 70 = .ok (.putfield 34, 3) := by decide +kernel
theorem d_Mo_init_73 : decode c_Mo_init 73 = .ok (.aload_n 0, 1) := by decide +kernel
theorem d_Mo_init_74 : decode c_Mo_init 74 = .ok (.bipush 100, 2) := by decide +kernel
theorem d_Mo_init_76 : decode c_Mo_init 76 = .ok (.putfield 38, 3) := by decide +kernel
theorem d_Mo_init_79 : decode c_Mo_init 79 = .ok (.aload_n 0, 1) := by decide +kernel
theorem d_Mo_init_80 : decode c_Mo_init 80 = .ok (.bipush 10, 2) := by decide +kernel
theorem d_Mo_init_82 : decode c_Mo_init 82 = .ok (.newarray .boolean, 2) := by decide +kernel
theorem d_Mo_init_84 : decode c_Mo_init 84 = .ok (.putfield 41, 3) := by decide +kernel
theorem d_Mo_init_87 : decode c_Mo_init 87 = .ok (.aload_n 0, 1) := by decide +kernel
theorem d_Mo_init_88 : decode c_Mo_init 88 = .ok (.bipush 10, 2) := by decide +kernel
theorem d_Mo_init_90 : decode c_Mo_init 90 = .ok (.putfield 45, 3) := by decide +kernel
theorem d_Mo_init_93 : decode c_Mo_init 93 = .ok (.aload_n 0, 1) := by decide +kernel
theorem d_Mo_init_94 : decode c_Mo_init 94 = .ok (.bipush 30, 2) := by decide +kernel
theorem d_Mo_init_96 : decode c_Mo_init 96 = .ok (.newarray .int, 2) := by decide +kernel
theorem d_Mo_init_98 : decode c_Mo_init 98 = .ok (.putfield 48, 3) := by decide +kernel
theorem d_Mo_init_101 : decode c_Mo_init 101 = .ok (.aload_n 0, 1) := by decide +kernel
theorem d_Mo_init_102 : decode c_Mo_init 102 = .ok (.bipush 30, 2) := by decide +kernel
theorem d_Mo_init_104 : decode c_Mo_init 104 = .ok (.newarray .int, 2) := by decide +kernel
theorem d_Mo_init_106 : decode c_Mo_init 106 = .ok (.putfield 51, 3) := by decide +kernel
theorem d_Mo_init_109 : decode c_Mo_init 109 = .ok (.aload_n 0, 1) := by decide +kernel
theorem d_Mo_init_110 : decode c_Mo_init 110 = .ok (.bipush 100, 2) := by decide +kernel
theorem d_Mo_init_112 : decode c_Mo_init 112 = .ok (.newarray .int, 2) := by decide +kernel
theorem d_Mo_init_114 : decode c_Mo_init 114 = .ok (.putfield 54, 3) := by decide +kernel
theorem d_Mo_init_117 : decode c_Mo_init 117 = .ok (.aload_n 0, 1) := by decide +kernel
theorem d_Mo_init_118 : decode c_Mo_init 118 = .ok (.bipush 30, 2) := by decide +kernel
theorem d_Mo_init_120 : decode c_Mo_init 120 = .ok (.newarray .int, 2) := by decide +kernel
theorem d_Mo_init_122 : decode c_Mo_init 122 = .ok (.putfield 57, 3) := by decide +kernel
theorem d_Mo_init_125 : decode c_Mo_init 125 = .ok (.aload_n 0, 1) := by decide +kernel
theorem d_Mo_init_126 : decode c_Mo_init 126 = .ok (.bipush 30, 2) := by decide +kernel
theorem d_Mo_init_128 : decode c_Mo_init 128 = .ok (.newarray .int, 2) := by decide +kernel
theorem d_Mo_init_130 : decode c_Mo_init 130 = .ok (.putfield 60, 3) := by decide +kernel
theorem d_Mo_init_133 : decode c_Mo_init 133 = .ok (.aload_n 0, 1) := by decide +kernel
theorem d_Mo_init_134 : decode c_Mo_init 134 = .ok (.bipush 30, 2) := by decide +kernel
theorem d_Mo_init_136 : decode c_Mo_init 136 = .ok (.newarray .int, 2) := by decide +kernel
theorem d_Mo_init_138 : decode c_Mo_init 138 = .ok (.putfield 63, 3) := by decide +kernel
theorem d_Mo_init_141 : decode c_Mo_init 141 = .ok (.aload_n 0, 1) := by decide +kernel
theorem d_Mo_init_142 : decode c_Mo_init 142 = .ok (.bipush 30, 2) := by decide +kernel
theorem d_Mo_init_144 : decode c_Mo_init 144 = .ok (.newarray .int, 2) := by decide +kernel
theorem d_Mo_init_146 : decode c_Mo_init 146 = .ok (.putfield 66, 3) := by decide +kernel
theorem d_Mo_init_149 : decode c_Mo_init 149 = .ok (.aload_n 0, 1) := by decide +kernel
theorem d_Mo_init_150 : decode c_Mo_init 150 = .ok (.bipush 30, 2) := by decide +kernel
theorem d_Mo_init_152 : decode c_Mo_init 152 = .ok (.newarray .int, 2) := by decide +kernel
theorem d_Mo_init_154 : decode c_Mo_init 154 = .ok (.putfield 69, 3) := by decide +kernel
theorem d_Mo_init_157 : decode c_Mo_init 157 = .ok (.aload_n 0, 1) := by decide +kernel
theorem d_Mo_init_158 : decode c_Mo_init 158 = .ok (.bipush 6, 2) := by decide +kernel
theorem d_Mo_init_160 : decode c_Mo_init 160 = .ok (.newarray .int, 2) := by decide +kernel
theorem d_Mo_init_162 : decode c_Mo_init 162 = .ok (.putfield 72, 3) := by decide +kernel
theorem d_Mo_init_165 : decode c_Mo_init 165 = .ok (.aload_n 0, 1) := by decide +kernel
end
section
theorem d_Mo_init_166 : decode c_Mo_init 166 = .ok (.bipush 6, 2) := by decide +kernel
theorem d_Mo_init_168 : decode c_Mo_init 168 = .ok (.newarray .int, 2) := by decide +kernel
theorem d_Mo_init_170 : decode c_Mo_init 170 = .ok (.putfield 75, 3) := by decide +kernel
theorem d_Mo_init_173 : decode c_Mo_init 173 = .ok (.aload_n 0, 1) := by decide +kernel
theorem d_Mo_init_174 : decode c_Mo_init 174 = .ok (.bipush 6, 2) := by decide +kernel
theorem d_Mo_init_176 : decode c_Mo_init 176 = .ok (.newarray .int, 2) := by decide +kernel
theorem d_Mo_init_178 : decode c_Mo_init 178 = .ok (.putfield 78, 3) := by decide +kernel
theorem d_Mo_init_181 : decode c_Mo_init 181 = .ok (.aload_n 0, 1) := by decide +kernel
theorem d_Mo_init_182 : decode c_Mo_init 182 = .ok (.iconst 3, 1) := by decide +kernel
theorem d_Mo_init_183 : decode c_Mo_init 183 = .ok (.newarray .int, 2) := by decide +kernel
theorem d_Mo_init_185 : decode c_Mo_init 185 = .ok (.putfield 81, 3) := by decide +kernel
theorem d_Mo_init_188 : decode c_Mo_init 188 = .ok (.aload_n 0, 1) := by decide +kernel
theorem d_Mo_init_189 : decode c_Mo_init 189 = .ok (.bipush 6, 2) := by decide +kernel
theorem d_Mo_init_191 : decode c_Mo_init 191 = .ok (.newarray .int, 2) := by decide +kernel
theorem d_Mo_init_193 : decode c_Mo_init 193 = .ok (.putfield 84, 3) := by decide +kernel
theorem d_Mo_init_196 : decode c_Mo_init 196 = .ok (.iconst 0, 1) := by decide +kernel
theorem d_Mo_init_197 : decode c_Mo_init 197 = .ok (.istore_n 1, 1) := by decide +kernel
theorem d_Mo_init_198 : decode c_Mo_init 198 = .ok (.iload_n 1, 1) := by decide +kernel
theorem d_Mo_init_199 : decode c_Mo_init 199 = .ok (.bipush 30, 2) := by decide +kernel
theorem d_Mo_init_201 : decode c_Mo_init 201 = .ok (.if_icmp .ge 16, 3) := by decide +kernel
theorem d_Mo_init_204 : decode c_Mo_init 204 = .ok (.aload_n 0, 1) := by decide +kernel
theorem d_Mo_init_205 : decode c_Mo_init 205 = .ok (.getfield 48, 3) := by decide +kernel
theorem d_Mo_init_208 : decode c_Mo_init 208 = .ok (.iload_n 1, 1) := by decide +kernel
theorem d_Mo_init_209 : decode c_Mo_init 209 = .ok (.iconst (-1), 1) := by decide +kernel
theorem d_Mo_init_210 : decode c_Mo_init 210 = .ok (.iastore, 1) := by decide +kernel
theorem d_Mo_init_211 : decode c_Mo_init 211 = .ok (.iinc 1 1, 3) := by decide +kernel
theorem d_Mo_init_214 : decode c_Mo_init 214 = .ok (.goto (-16), 3) := by decide +kernel
theorem d_Mo_init_217 : decode c_Mo_init 217 = .ok (.return_, 1) := by decide +kernel
theorem d_Mo_in_0 : decode c_Mo_in 0 = .ok (.iload_n 0, 1) := by decide +kernel
theorem d_Mo_in_1 : decode c_Mo_in 1 = .ok (.iload_n 1, 1) := by decide +kernel
theorem d_Mo_in_2 : decode c_Mo_in 2 = .ok (.if_icmp .lt 12, 3) := by decide +kernel
theorem d_Mo_in_5 : decode c_Mo_in 5 = .ok (.iload_n 0, 1) := by decide +kernel
theorem d_Mo_in_6 : decode c_Mo_in 6 = .ok (.iload_n 2, 1) := by decide +kernel
theorem d_Mo_in_7 : decode c_Mo_in 7 = .ok (.if_icmp .gt 7, 3) := by decide +kernel
theorem d_Mo_in_10 : decode c_Mo_in 10 = .ok (.iconst 1, 1) := by decide +kernel
theorem d_Mo_in_11 : decode c_Mo_in 11 = .ok (.goto 4, 3) := by decide +kernel
theorem d_Mo_in_14 : decode c_Mo_in 14 = .ok (.iconst 0, 1) := by decide +kernel
theorem d_Mo_in_15 : decode c_Mo_in 15 = .ok (.ireturn, 1) := by decide +kernel
theorem d_Mo_has_0 : decode c_Mo_has 0 = .ok (.iload_n 0, 1) := by decide +kernel
theorem d_Mo_has_1 : decode c_Mo_has 1 = .ok (.iload_n 1, 1) := by decide +kernel
theorem d_Mo_has_2 : decode c_Mo_has 2 = .ok (.ishr, 1) := by decide +kernel
theorem d_Mo_has_3 : decode c_Mo_has 3 = .ok (.iconst 1, 1) := by decide +kernel
theorem d_Mo_has_4 : decode c_Mo_has 4 = .ok (.iand, 1) := by decide +kernel
theorem d_Mo_has_5 : decode c_Mo_has 5 = .ok (.iconst 1, 1) := by decide +kernel
theorem d_Mo_has_6 : decode c_Mo_has 6 = .ok (.if_icmp .ne 7, 3) := by decide +kernel
theorem d_Mo_has_9 : decode c_Mo_has 9 = .ok (.iconst 1, 1) := by decide +kernel
theorem d_Mo_has_10 : decode c_Mo_has 10 = .ok (.goto 4, 3) := by decide +kernel
theorem d_Mo_has_13 : decode c_Mo_has 13 = .ok (.iconst 0, 1) := by decide +kernel
theorem d_Mo_has_14 : decode c_Mo_has 14 = .ok (.ireturn, 1) := by decide +kernel
theorem d_Mo_place_0 : decode c_Mo_place 0 = .ok (.iload_n 1, 1) := by decide +kernel
theorem d_Mo_place_1 : decode c_Mo_place 1 = .ok (.iconst 0, 1) := by decide +kernel
theorem d_Mo_place_2 : decode c_Mo_place 2 = .ok (.sipush 1000, 3) := by decide +kernel
theorem d_Mo_place_5 : decode c_Mo_place 5 = .ok (.invokestatic 87, 3) := by decide +kernel
theorem d_Mo_place_8 : decode c_Mo_place 8 = .ok (.ifCond .eq 47, 3) := by decide +kernel
theorem d_Mo_place_11 : decode c_Mo_place 11 = .ok (.iload_n 2, 1) := by decide +kernel
theorem d_Mo_place_12 : decode c_Mo_place 12 = .ok (.iconst 0, 1) := by decide +kernel
theorem d_Mo_place_13 : decode c_Mo_place 13 = .ok (.sipush 1000, 3) := by decide +kernel
theorem d_Mo_place_16 : decode c_Mo_place 16 = .ok (.invokestatic 87, 3) := by decide +kernel
theorem d_Mo_place_19 : decode c_Mo_place 19 = .ok (.ifCond .eq 36, 3) := by decide +kernel
theorem d_Mo_place_22 : decode c_Mo_place 22 = .ok (.iload_n 3, 1) := by decide +kernel
theorem d_Mo_place_23 : decode c_Mo_place 23 = .ok (.iconst 0, 1) := by decide +kernel
theorem d_Mo_place_24 : decode c_Mo_place 24 = .ok (.sipush 1000, 3) := by decide +kernel
theorem d_Mo_place_27 : decode c_Mo_place 27 = .ok (.invokestatic 87, 3) := by decide +kernel
theorem d_Mo_place_30 : decode c_Mo_place 30 = .ok (.ifCond .eq 25, 3) := by decide +kernel
theorem d_Mo_place_33 : decode c_Mo_place 33 = .ok (.iload 4, 2) := by decide +kernel
theorem d_Mo_place_35 : decode c_Mo_place 35 = .ok (.iconst 1, 1) := by decide +kernel
theorem d_Mo_place_36 : decode c_Mo_place 36 = .ok (.bipush 100, 2) := by decide +kernel
theorem d_Mo_place_38 : decode c_Mo_place 38 = .ok (.invokestatic 87, 3) := by decide +kernel
theorem d_Mo_place_41 : decode c_Mo_place 41 = .ok (.ifCond .eq 14, 3) := by decide +kernel
theorem d_Mo_place_44 : decode c_Mo_place 44 = .ok (.iload 5, 2) := by decide +kernel
theorem d_Mo_place_46 : decode c_Mo_place 46 = .ok (.iconst 0, 1) := by decide +kernel
theorem d_Mo_place_47 : decode c_Mo_place 47 = .ok (.bipush 9, 2) := by decide +kernel
theorem d_Mo_place_49 : decode c_Mo_place 49 = .ok (.invokestatic 87, 3) := by decide +kernel
theorem d_Mo_place_52 : decode c_Mo_place 52 = .ok (.ifCond .ne 5, 3) := by decide +kernel
theorem d_Mo_place_55 : decode c_Mo_place 55 = .ok (.iconst (-1), 1) := by decide +kernel
theorem d_Mo_place_56 : decode c_Mo_place 56 = .ok (.ireturn, 1) := by decide +kernel
theorem d_Mo_place_57 : decode c_Mo_place 57 = .ok (.aload_n 0, 1) := by decide +kernel
theorem d_Mo_place_58 : decode c_Mo_place 58 = .ok (.getfield 91, 3) := by decide +kernel
theorem d_Mo_place_61 : decode c_Mo_place 61 = .ok (.bipush 30, 2) := by decide +kernel
theorem d_Mo_place_63 : decode c_Mo_place 63 = .ok (.if_icmp .ne 6, 3) := by decide +kernel
theorem d_Mo_place_66 : decode c_Mo_place 66 = .ok (.bipush (-2), 2) := by decide +kernel
theorem d_Mo_place_68 : decode c_Mo_place 68 = .ok (.ireturn, 1) := by decide +kernel
theorem d_Mo_place_69 : decode c_Mo_place 69 = .ok (.aload_n 0, 1) := by decide +kernel
theorem d_Mo_place_70 : decode c_Mo_place 70 = .ok (.getfield 91, 3) := by decide +kernel
theorem d_Mo_place_73 : decode c_Mo_place 73 = .ok (.istore 6, 2) := by decide +kernel
theorem d_Mo_place_75 : decode c_Mo_place 75 = .ok (.aload_n 0, 1) := by decide +kernel
theorem d_Mo_place_76 : decode c_Mo_place 76 = .ok (.getfield 9, 3) := by decide +kernel
theorem d_Mo_place_79 : decode c_Mo_place 79 = .ok (.iload 6, 2) := by decide +kernel
theorem d_Mo_place_81 : decode c_Mo_place 81 = .ok (.iload_n 1, 1) := by decide +kernel
theorem d_Mo_place_82 : decode c_Mo_place 82 = .ok (.iastore, 1) := by decide +kernel
theorem d_Mo_place_83 : decode c_Mo_place 83 = .ok (.aload_n 0, 1) := by decide +kernel
theorem d_Mo_place_84 : decode c_Mo_place 84 = .ok (.getfield 13, 3) := by decide +kernel
theorem d_Mo_place_87 : decode c_Mo_place 87 = .ok (.iconst 2, 1) := by decide +kernel
theorem d_Mo_place_88 : decode c_Mo_place 88 = .ok (.iload 6, 2) := by decide +kernel
theorem d_Mo_place_90 : decode c_Mo_place 90 = .ok (.imul, 1) := by decide +kernel
theorem d_Mo_place_91 : decode c_Mo_place 91 = .ok (.iload_n 2, 1) := by decide +kernel
theorem d_Mo_place_92 : decode c_Mo_place 92 = .ok (.iastore, 1) := by decide +kernel
theorem d_Mo_place_93 : decode c_Mo_place 93 = .ok (.aload_n 0, 1) := by decide +kernel
theorem d_Mo_place_94 : decode c_Mo_place 94 = .ok (.getfield 13, 3) := by decide +kernel
theorem d_Mo_place_97 : decode c_Mo_place 97 = .ok (.iconst 2, 1) := by decide +kernel
theorem d_Mo_place_98 : decode c_Mo_place 98 = .ok (.iload 6, 2) := by decide +kernel
theorem d_Mo_place_100 : decode c_Mo_place 100 = .ok (.imul, 1) := by decide +kernel
theorem d_Mo_place_101 : decode c_Mo_place 101 = .ok (.iconst 1, 1) := by decide +kernel
theorem d_Mo_place_102 : decode c_Mo_place 102 = .ok (.iadd, 1) := by decide +kernel
theorem d_Mo_place_103 : decode c_Mo_place 103 = .ok (.iload_n 3, 1) := by decide +kernel
theorem d_Mo_place_104 : decode c_Mo_place 104 = .ok (.iastore, 1) := by decide +kernel
theorem d_Mo_place_105 : decode c_Mo_place 105 = .ok (.aload_n 0, 1) := by decide +kernel
theorem d_Mo_place_106 : decode c_Mo_place 106 = .ok (.getfield 16, 3) := by decide +kernel
theorem d_Mo_place_109 : decode c_Mo_place 109 = .ok (.iload 6, 2) := by decide +kernel
theorem d_Mo_place_111 : decode c_Mo_place 111 = .ok (.iload 4, 2) := by decide +kernel
theorem d_Mo_place_113 : decode c_Mo_place 113 = .ok (.iastore, 1) := by decide +kernel
theorem d_Mo_place_114 : decode c_Mo_place 114 = .ok (.aload_n 0, 1) := by decide +kernel
theorem d_Mo_place_115 : decode c_Mo_place 115 = .ok (.getfield 19, 3) := by decide +kernel
theorem d_Mo_place_118 : decode c_Mo_place 118 = .ok (.iload 6, 2) := by decide +kernel
theorem d_Mo_place_120 : decode c_Mo_place 120 = .ok (.iload 5, 2) := by decide +kernel
theorem d_Mo_place_122 : decode c_Mo_place 122 = .ok (.iastore, 1) := by decide +kernel
theorem d_Mo_place_123 : decode c_Mo_place 123 = .ok (.aload_n 0, 1) := by decide +kernel
theorem d_Mo_place_124 : decode c_Mo_place 124 = .ok (.dup, 1) := by decide +kernel
theorem d_Mo_place_125 : decode c_Mo_place 125 = .ok (.getfield 91, 3) := by decide +kernel
theorem d_Mo_place_128 : decode c_Mo_place 128 = .ok (.iconst 1, 1) := by decide +kernel
theorem d_Mo_place_129 : decode c_Mo_place 129 = .ok (.iadd, 1) := by decide +kernel
theorem d_Mo_place_130 : decode c_Mo_place 130 = .ok (.putfield 91, 3) := by decide +kernel
theorem d_Mo_place_133 : decode c_Mo_place 133 = .ok (.iload 6, 2) := by decide +kernel
theorem d_Mo_place_135 : decode c_Mo_place 135 = .ok (.ireturn, 1) := by decide +kernel
theorem d_Mo_isPlace_0 : decode c_Mo_isPlace 0 = .ok (.iload_n 1, 1) := by decide +kernel
theorem d_Mo_isPlace_1 : decode c_Mo_isPlace 1 = .ok (.ifCond .lt 15, 3) := by decide +kernel
theorem d_Mo_isPlace_4 : decode c_Mo_isPlace 4 = .ok (.iload_n 1, 1) := by decide +kernel
theorem d_Mo_isPlace_5 : decode c_Mo_isPlace 5 = .ok (.aload_n 0, 1) := by decide +kernel
theorem d_Mo_isPlace_6 : decode c_Mo_isPlace 6 = .ok (.getfield 91, 3) := by decide +kernel
theorem d_Mo_isPlace_9 : decode c_Mo_isPlace 9 = .ok (.if_icmp .ge 7, 3) := by decide +kernel
theorem d_Mo_isPlace_12 : decode c_Mo_isPlace 12 = .ok (.iconst 1, 1) := by decide +kernel
theorem d_Mo_isPlace_13 : decode c_Mo_isPlace 13 = .ok (.goto 4, 3) := by decide +kernel
theorem d_Mo_isPlace_16 : decode c_Mo_isPlace 16 = .ok (.iconst 0, 1) := by decide +kernel
theorem d_Mo_isPlace_17 : decode c_Mo_isPlace 17 = .ok (.ireturn, 1) := by decide +kernel
theorem d_Mo_border_0 : decode c_Mo_border 0 = .ok (.aload_n 0, 1) := by decide +kernel
theorem d_Mo_border_1 : decode c_Mo_border 1 = .ok (.iload_n 1, 1) := by decide +kernel
theorem d_Mo_border_2 : decode c_Mo_border 2 = .ok (.invokevirtual 94, 3) := by decide +kernel
theorem d_Mo_border_5 : decode c_Mo_border 5 = .ok (.ifCond .eq 39, 3) := by decide +kernel
theorem d_Mo_border_8 : decode c_Mo_border 8 = .ok (.aload_n 0, 1) := by decide +kernel
theorem d_Mo_border_9 : decode c_Mo_border 9 = .ok (.iload_n 2, 1) := by decide +kernel
theorem d_Mo_border_10 : decode c_Mo_border 10 = .ok (.invokevirtual 94, 3) := by decide +kernel
theorem d_Mo_border_13 : decode c_Mo_border 13 = .ok (.ifCond .eq 31, 3) := by decide +kernel
theorem d_Mo_border_16 : decode c_Mo_border 16 = .ok (.iload_n 1, 1) := by decide +kernel
theorem d_Mo_border_17 : decode c_Mo_border 17 = .ok (.iload_n 2, 1) := by decide +kernel
theorem d_Mo_border_18 : decode c_Mo_border 18 = .ok (.if_icmp .eq 26, 3) := by decide +kernel
theorem d_Mo_border_21 : decode c_Mo_border 21 = .ok (.aload_n 0, 1) := by decide +kernel
theorem d_Mo_border_22 : decode c_Mo_border 22 = .ok (.getfield 31, 3) := by decide +kernel
theorem d_Mo_border_25 : decode c_Mo_border 25 = .ok (.iload_n 1, 1) := by decide +kernel
theorem d_Mo_border_26 : decode c_Mo_border 26 = .ok (.iaload, 1) := by decide +kernel
theorem d_Mo_border_27 : decode c_Mo_border 27 = .ok (.iload_n 2, 1) := by decide +kernel
theorem d_Mo_border_28 : decode c_Mo_border 28 = .ok (.invokestatic 98, 3) := by decide +kernel
theorem d_Mo_border_31 : decode c_Mo_border 31 = .ok (.ifCond .ne 13, 3) := by decide +kernel
theorem d_Mo_border_34 : decode c_Mo_border 34 = .ok (.iload_n 3, 1) := by decide +kernel
theorem d_Mo_border_35 : decode c_Mo_border 35 = .ok (.iconst 1, 1) := by decide +kernel
theorem d_Mo_border_36 : decode c_Mo_border 36 = .ok (.bipush 100, 2) := by decide +kernel
theorem d_Mo_border_38 : decode c_Mo_border 38 = .ok (.invokestatic 87, 3) := by decide +kernel
theorem d_Mo_border_41 : decode c_Mo_border 41 = .ok (.ifCond .ne 5, 3) := by decide +kernel
theorem d_Mo_border_44 : decode c_Mo_border 44 = .ok (.iconst (-1), 1) := by decide +kernel
theorem d_Mo_border_45 : decode c_Mo_border 45 = .ok (.ireturn, 1) := by decide +kernel
theorem d_Mo_border_46 : decode c_Mo_border 46 = .ok (.aload_n 0, 1) := by decide +kernel
theorem d_Mo_border_47 : decode c_Mo_border 47 = .ok (.getfield 102, 3) := by decide +kernel
theorem d_Mo_border_50 : decode c_Mo_border 50 = .ok (.bipush 100, 2) := by decide +kernel
theorem d_Mo_border_52 : decode c_Mo_border 52 = .ok (.if_icmp .ne 6, 3) := by decide +kernel
theorem d_Mo_border_55 : decode c_Mo_border 55 = .ok (.bipush (-2), 2) := by decide +kernel
theorem d_Mo_border_57 : decode c_Mo_border 57 = .ok (.ireturn, 1) := by decide +kernel
theorem d_Mo_border_58 : decode c_Mo_border 58 = .ok (.aload_n 0, 1) := by decide +kernel
theorem d_Mo_border_59 : decode c_Mo_border 59 = .ok (.getfield 22, 3) := by decide +kernel
theorem d_Mo_border_62 : decode c_Mo_border 62 = .ok (.aload_n 0, 1) := by decide +kernel
theorem d_Mo_border_63 : decode c_Mo_border 63 = .ok (.getfield 102, 3) := by decide +kernel
theorem d_Mo_border_66 : decode c_Mo_border 66 = .ok (.iload_n 1, 1) := by decide +kernel
theorem d_Mo_border_67 : decode c_Mo_border 67 = .ok (.iastore, 1) := by decide +kernel
theorem d_Mo_border_68 : decode c_Mo_border 68 = .ok (.aload_n 0, 1) := by decide +kernel
theorem d_Mo_border_69 : decode c_Mo_border 69 = .ok (.getfield 25, 3) := by decide +kernel
theorem d_Mo_border_72 : decode c_Mo_border 72 = .ok (.aload_n 0, 1) := by decide +kernel
theorem d_Mo_border_73 : decode c_Mo_border 73 = .ok (.getfield 102, 3) := by decide +kernel
theorem d_Mo_border_76 : decode c_Mo_border 76 = .ok (.iload_n 2, 1) := by decide +kernel
theorem d_Mo_border_77 : decode c_Mo_border 77 = .ok (.iastore, 1) := by decide +kernel
theorem d_Mo_border_78 : decode c_Mo_border 78 = .ok (.aload_n 0, 1) := by decide +kernel
theorem d_Mo_border_79 : decode c_Mo_border 79 = .ok (.getfield 28, 3) := by decide +kernel
theorem d_Mo_border_82 : decode c_Mo_border 82 = .ok (.aload_n 0, 1) := by decide +kernel
theorem d_Mo_border_83 : decode c_Mo_border 83 = .ok (.getfield 102, 3) := by decide +kernel
theorem d_Mo_border_86 : decode c_Mo_border 86 = .ok (.iload_n 3, 1) := by decide +kernel
theorem d_Mo_border_87 : decode c_Mo_border 87 = .ok (.iastore, 1) := by decide +kernel
theorem d_Mo_border_88 : decode c_Mo_border 88 = .ok (.aload_n 0, 1) := by decide +kernel
theorem d_Mo_border_89 : decode c_Mo_border 89 = .ok (.getfield 31, 3) := by decide +kernel
theorem d_Mo_border_92 : decode c_Mo_border 92 = .ok (.iload_n 1, 1) := by decide +kernel
theorem d_Mo_border_93 : decode c_Mo_border 93 = .ok (.dup2, 1) := by decide +kernel
theorem d_Mo_border_94 : decode c_Mo_border 94 = .ok (.iaload, 1) := by decide +kernel
theorem d_Mo_border_95 : decode c_Mo_border 95 = .ok (.iconst 1, 1) := by decide +kernel
theorem d_Mo_border_96 : decode c_Mo_border 96 = .ok (.iload_n 2, 1) := by decide +kernel
theorem d_Mo_border_97 : decode c_Mo_border 97 = .ok (.ishl, 1) := by decide +kernel
theorem d_Mo_border_98 : decode c_Mo_border 98 = .ok (.ior, 1) := by decide +kernel
theorem d_Mo_border_99 : decode c_Mo_border 99 = .ok (.iastore, 1) := by decide +kernel
theorem d_Mo_border_100 : decode c_Mo_border 100 = .ok (.aload_n 0, 1) := by decide +kernel
theorem d_Mo_border_101 : decode c_Mo_border 101 = .ok (.getfield 31, 3) := by decide +kernel
theorem d_Mo_border_104 : decode c_Mo_border 104 = .ok (.iload_n 2, 1) := by decide +kernel
theorem d_Mo_border_105 : decode c_Mo_border 105 = .ok (.dup2, 1) := by decide +kernel
theorem d_Mo_border_106 : decode c_Mo_border 106 = .ok (.iaload, 1) := by decide +kernel
theorem d_Mo_border_107 : decode c_Mo_border 107 = .ok (.iconst 1, 1) := by decide +kernel
theorem d_Mo_border_108 : decode c_Mo_border 108 = .ok (.iload_n 1, 1) := by decide +kernel
theorem d_Mo_border_109 : decode c_Mo_border 109 = .ok (.ishl, 1) := by decide +kernel
theorem d_Mo_border_110 : decode c_Mo_border 110 = .ok (.ior, 1) := by decide +kernel
theorem d_Mo_border_111 : decode c_Mo_border 111 = .ok (.iastore, 1) := by decide +kernel
theorem d_Mo_border_112 : decode c_Mo_border 112 = .ok (.aload_n 0, 1) := by decide +kernel
theorem d_Mo_border_113 : decode c_Mo_border 113 = .ok (.dup, 1) := by decide +kernel
theorem d_Mo_border_114 : decode c_Mo_border 114 = .ok (.getfield 102, 3) := by decide +kernel
theorem d_Mo_border_117 : decode c_Mo_border 117 = .ok (.iconst 1, 1) := by decide +kernel
theorem d_Mo_border_118 : decode c_Mo_border 118 = .ok (.iadd, 1) := by decide +kernel
theorem d_Mo_border_119 : decode c_Mo_border 119 = .ok (.putfield 102, 3) := by decide +kernel
theorem d_Mo_border_122 : decode c_Mo_border 122 = .ok (.aload_n 0, 1) := by decide +kernel
theorem d_Mo_border_123 : decode c_Mo_border 123 = .ok (.getfield 102, 3) := by decide +kernel
theorem d_Mo_border_126 : decode c_Mo_border 126 = .ok (.iconst 1, 1) := by decide +kernel
theorem d_Mo_border_127 : decode c_Mo_border 127 = .ok (.isub, 1) := by decide +kernel
theorem d_Mo_border_128 : decode c_Mo_border 128 = .ok (.ireturn, 1) := by decide +kernel
theorem d_Mo_law_0 : decode c_Mo_law 0 = .ok (.iload_n 1, 1) := by decide +kernel
theorem d_Mo_law_1 : decode c_Mo_law 1 = .ok (.iconst 1, 1) := by decide +kernel
theorem d_Mo_law_2 : decode c_Mo_law 2 = .ok (.bipush 6, 2) := by decide +kernel
theorem d_Mo_law_4 : decode c_Mo_law 4 = .ok (.invokestatic 87, 3) := by decide +kernel
theorem d_Mo_law_7 : decode c_Mo_law 7 = .ok (.ifCond .eq 14, 3) := by decide +kernel
theorem d_Mo_law_10 : decode c_Mo_law 10 = .ok (.iload_n 2, 1) := by decide +kernel
theorem d_Mo_law_11 : decode c_Mo_law 11 = .ok (.iconst 0, 1) := by decide +kernel
theorem d_Mo_law_12 : decode c_Mo_law 12 = .ok (.sipush 1000, 3) := by decide +kernel
theorem d_Mo_law_15 : decode c_Mo_law 15 = .ok (.invokestatic 87, 3) := by decide +kernel
theorem d_Mo_law_18 : decode c_Mo_law 18 = .ok (.ifCond .ne 5, 3) := by decide +kernel
theorem d_Mo_law_21 : decode c_Mo_law 21 = .ok (.iconst (-1), 1) := by decide +kernel
theorem d_Mo_law_22 : decode c_Mo_law 22 = .ok (.ireturn, 1) := by decide +kernel
theorem d_Mo_law_23 : decode c_Mo_law 23 = .ok (.aload_n 0, 1) := by decide +kernel
theorem d_Mo_law_24 : decode c_Mo_law 24 = .ok (.iload_n 1, 1) := by decide +kernel
theorem d_Mo_law_25 : decode c_Mo_law 25 = .ok (.putfield 34, 3) := by decide +kernel
theorem d_Mo_law_28 : decode c_Mo_law 28 = .ok (.aload_n 0, 1) := by decide +kernel
theorem d_Mo_law_29 : decode c_Mo_law 29 = .ok (.iload_n 2, 1) := by decide +kernel
theorem d_Mo_law_30 : decode c_Mo_law 30 = .ok (.putfield 38, 3) := by decide +kernel
theorem d_Mo_law_33 : decode c_Mo_law 33 = .ok (.iconst 0, 1) := by decide +kernel
theorem d_Mo_law_34 : decode c_Mo_law 34 = .ok (.istore_n 3, 1) := by decide +kernel
theorem d_Mo_law_35 : decode c_Mo_law 35 = .ok (.iload_n 3, 1) := by decide +kernel
theorem d_Mo_law_36 : decode c_Mo_law 36 = .ok (.bipush 30, 2) := by decide +kernel
theorem d_Mo_law_38 : decode c_Mo_law 38 = .ok (.if_icmp .ge 23, 3) := by decide +kernel
theorem d_Mo_law_41 : decode c_Mo_law 41 = .ok (.aload_n 0, 1) := by decide +kernel
theorem d_Mo_law_42 : decode c_Mo_law 42 = .ok (.getfield 51, 3) := by decide +kernel
theorem d_Mo_law_45 : decode c_Mo_law 45 = .ok (.iload_n 3, 1) := by decide +kernel
theorem d_Mo_law_46 : decode c_Mo_law 46 = .ok (.iconst 0, 1) := by decide +kernel
theorem d_Mo_law_47 : decode c_Mo_law 47 = .ok (.iastore, 1) := by decide +kernel
theorem d_Mo_law_48 : decode c_Mo_law 48 = .ok (.aload_n 0, 1) := by decide +kernel
theorem d_Mo_law_49 : decode c_Mo_law 49 = .ok (.getfield 48, 3) := by decide +kernel
theorem d_Mo_law_52 : decode c_Mo_law 52 = .ok (.iload_n 3, 1) := by decide +kernel
theorem d_Mo_law_53 : decode c_Mo_law 53 = .ok (.iconst (-1), 1) := by decide +kernel
theorem d_Mo_law_54 : decode c_Mo_law 54 = .ok (.iastore, 1) := by decide +kernel
theorem d_Mo_law_55 : decode c_Mo_law 55 = .ok (.iinc 3 1, 3) := by decide +kernel
theorem d_Mo_law_58 : decode c_Mo_law 58 = .ok (.goto (-23), 3) := by decide +kernel
theorem d_Mo_law_61 : decode c_Mo_law 61 = .ok (.iconst 1, 1) := by decide +kernel
theorem d_Mo_law_62 : decode c_Mo_law 62 = .ok (.ireturn, 1) := by decide +kernel
theorem d_Mo_keep_0 : decode c_Mo_keep 0 = .ok (.iload_n 1, 1) := by decide +kernel
theorem d_Mo_keep_1 : decode c_Mo_keep 1 = .ok (.iconst 0, 1) := by decide +kernel
theorem d_Mo_keep_2 : decode c_Mo_keep 2 = .ok (.bipush 9, 2) := by decide +kernel
theorem d_Mo_keep_4 : decode c_Mo_keep 4 = .ok (.invokestatic 87, 3) := by decide +kernel
theorem d_Mo_keep_7 : decode c_Mo_keep 7 = .ok (.ifCond .eq 12, 3) := by decide +kernel
theorem d_Mo_keep_10 : decode c_Mo_keep 10 = .ok (.iload_n 2, 1) := by decide +kernel
theorem d_Mo_keep_11 : decode c_Mo_keep 11 = .ok (.iconst 0, 1) := by decide +kernel
theorem d_Mo_keep_12 : decode c_Mo_keep 12 = .ok (.iconst 1, 1) := by decide +kernel
theorem d_Mo_keep_13 : decode c_Mo_keep 13 = .ok (.invokestatic 87, 3) := by decide +kernel
theorem d_Mo_keep_16 : decode c_Mo_keep 16 = .ok (.ifCond .ne 5, 3) := by decide +kernel
theorem d_Mo_keep_19 : decode c_Mo_keep 19 = .ok (.iconst (-1), 1) := by decide +kernel
theorem d_Mo_keep_20 : decode c_Mo_keep 20 = .ok (.ireturn, 1) := by decide +kernel
theorem d_Mo_keep_21 : decode c_Mo_keep 21 = .ok (.aload_n 0, 1) := by decide +kernel
theorem d_Mo_keep_22 : decode c_Mo_keep 22 = .ok (.getfield 41, 3) := by decide +kernel
theorem d_Mo_keep_25 : decode c_Mo_keep 25 = .ok (.iload_n 1, 1) := by decide +kernel
theorem d_Mo_keep_26 : decode c_Mo_keep 26 = .ok (.baload, 1) := by decide +kernel
theorem d_Mo_keep_27 : decode c_Mo_keep 27 = .ok (.ifCond .eq 7, 3) := by decide +kernel
theorem d_Mo_keep_30 : decode c_Mo_keep 30 = .ok (.iconst 1, 1) := by decide +kernel
theorem d_Mo_keep_31 : decode c_Mo_keep 31 = .ok (.goto 4, 3) := by decide +kernel
theorem d_Mo_keep_34 : decode c_Mo_keep 34 = .ok (.iconst 0, 1) := by decide +kernel
theorem d_Mo_keep_35 : decode c_Mo_keep 35 = .ok (.istore_n 3, 1) := by decide +kernel
theorem d_Mo_keep_36 : decode c_Mo_keep 36 = .ok (.aload_n 0, 1) := by decide +kernel
theorem d_Mo_keep_37 : decode c_Mo_keep 37 = .ok (.getfield 41, 3) := by decide +kernel
theorem d_Mo_keep_40 : decode c_Mo_keep 40 = .ok (.iload_n 1, 1) := by decide +kernel
theorem d_Mo_keep_41 : decode c_Mo_keep 41 = .ok (.iload_n 2, 1) := by decide +kernel
theorem d_Mo_keep_42 : decode c_Mo_keep 42 = .ok (.iconst 1, 1) := by decide +kernel
theorem d_Mo_keep_43 : decode c_Mo_keep 43 = .ok (.if_icmp .ne 7, 3) := by decide +kernel
theorem d_Mo_keep_46 : decode c_Mo_keep 46 = .ok (.iconst 1, 1) := by decide +kernel
theorem d_Mo_keep_47 : decode c_Mo_keep 47 = .ok (.goto 4, 3) := by decide +kernel
theorem d_Mo_keep_50 : decode c_Mo_keep 50 = .ok (.iconst 0, 1) := by decide +kernel
theorem d_Mo_keep_51 : decode c_Mo_keep 51 = .ok (.bastore, 1) := by decide +kernel
theorem d_Mo_keep_52 : decode c_Mo_keep 52 = .ok (.iload_n 3, 1) := by decide +kernel
theorem d_Mo_keep_53 : decode c_Mo_keep 53 = .ok (.ireturn, 1) := by decide +kernel
theorem d_Mo_cuts_0 : decode c_Mo_cuts 0 = .ok (.iload_n 1, 1) := by decide +kernel
theorem d_Mo_cuts_1 : decode c_Mo_cuts 1 = .ok (.iconst 0, 1) := by decide +kernel
theorem d_Mo_cuts_2 : decode c_Mo_cuts 2 = .ok (.bipush 10, 2) := by decide +kernel
theorem d_Mo_cuts_4 : decode c_Mo_cuts 4 = .ok (.invokestatic 87, 3) := by decide +kernel
theorem d_Mo_cuts_7 : decode c_Mo_cuts 7 = .ok (.ifCond .ne 5, 3) := by decide +kernel
theorem d_Mo_cuts_10 : decode c_Mo_cuts 10 = .ok (.iconst (-1), 1) := by decide +kernel
theorem d_Mo_cuts_11 : decode c_Mo_cuts 11 = .ok (.ireturn, 1) := by decide +kernel
theorem d_Mo_cuts_12 : decode c_Mo_cuts 12 = .ok (.aload_n 0, 1) := by decide +kernel
theorem d_Mo_cuts_13 : decode c_Mo_cuts 13 = .ok (.getfield 45, 3) := by decide +kernel
theorem d_Mo_cuts_16 : decode c_Mo_cuts 16 = .ok (.istore_n 2, 1) := by decide +kernel
theorem d_Mo_cuts_17 : decode c_Mo_cuts 17 = .ok (.aload_n 0, 1) := by decide +kernel
theorem d_Mo_cuts_18 : decode c_Mo_cuts 18 = .ok (.iload_n 1, 1) := by decide +kernel
theorem d_Mo_cuts_19 : decode c_Mo_cuts 19 = .ok (.putfield 45, 3) := by decide +kernel
theorem d_Mo_cuts_22 : decode c_Mo_cuts 22 = .ok (.iload_n 2, 1) := by decide +kernel
theorem d_Mo_cuts_23 : decode c_Mo_cuts 23 = .ok (.ireturn, 1) := by decide +kernel
theorem d_Mo_fix_0 : decode c_Mo_fix 0 = .ok (.aload_n 0, 1) := by decide +kernel
theorem d_Mo_fix_1 : decode c_Mo_fix 1 = .ok (.iload_n 1, 1) := by decide +kernel
theorem d_Mo_fix_2 : decode c_Mo_fix 2 = .ok (.invokevirtual 94, 3) := by decide +kernel
theorem d_Mo_fix_5 : decode c_Mo_fix 5 = .ok (.ifCond .eq 17, 3) := by decide +kernel
theorem d_Mo_fix_8 : decode c_Mo_fix 8 = .ok (.iload_n 2, 1) := by decide +kernel
theorem d_Mo_fix_9 : decode c_Mo_fix 9 = .ok (.iconst (-1), 1) := by decide +kernel
theorem d_Mo_fix_10 : decode c_Mo_fix 10 = .ok (.aload_n 0, 1) := by decide +kernel
theorem d_Mo_fix_11 : decode c_Mo_fix 11 = .ok (.getfield 34, 3) := by decide +kernel
theorem d_Mo_fix_14 : decode c_Mo_fix 14 = .ok (.iconst 1, 1) := by decide +kernel
theorem d_Mo_fix_15 : decode c_Mo_fix 15 = .ok (.isub, 1) := by decide +kernel
theorem d_Mo_fix_16 : decode c_Mo_fix 16 = .ok (.invokestatic 87, 3) := by decide +kernel
theorem d_Mo_fix_19 : decode c_Mo_fix 19 = .ok (.ifCond .ne 5, 3) := by decide +kernel
theorem d_Mo_fix_22 : decode c_Mo_fix 22 = .ok (.iconst (-1), 1) := by decide +kernel
theorem d_Mo_fix_23 : decode c_Mo_fix 23 = .ok (.ireturn, 1) := by decide +kernel
theorem d_Mo_fix_24 : decode c_Mo_fix 24 = .ok (.aload_n 0, 1) := by decide +kernel
theorem d_Mo_fix_25 : decode c_Mo_fix 25 = .ok (.getfield 48, 3) := by decide +kernel
theorem d_Mo_fix_28 : decode c_Mo_fix 28 = .ok (.iload_n 1, 1) := by decide +kernel
theorem d_Mo_fix_29 : decode c_Mo_fix 29 = .ok (.iaload, 1) := by decide +kernel
theorem d_Mo_fix_30 : decode c_Mo_fix 30 = .ok (.istore_n 3, 1) := by decide +kernel
theorem d_Mo_fix_31 : decode c_Mo_fix 31 = .ok (.aload_n 0, 1) := by decide +kernel
theorem d_Mo_fix_32 : decode c_Mo_fix 32 = .ok (.getfield 48, 3) := by decide +kernel
theorem d_Mo_fix_35 : decode c_Mo_fix 35 = .ok (.iload_n 1, 1) := by decide +kernel
theorem d_Mo_fix_36 : decode c_Mo_fix 36 = .ok (.iload_n 2, 1) := by decide +kernel
theorem d_Mo_fix_37 : decode c_Mo_fix 37 = .ok (.iastore, 1) := by decide +kernel
theorem d_Mo_fix_38 : decode c_Mo_fix 38 = .ok (.iload_n 3, 1) := by decide +kernel
theorem d_Mo_fix_39 : decode c_Mo_fix 39 = .ok (.ireturn, 1) := by decide +kernel
theorem d_Mo_people_0 : decode c_Mo_people 0 = .ok (.aload_n 0, 1) := by decide +kernel
theorem d_Mo_people_1 : decode c_Mo_people 1 = .ok (.iload_n 1, 1) := by decide +kernel
theorem d_Mo_people_2 : decode c_Mo_people 2 = .ok (.invokevirtual 94, 3) := by decide +kernel
theorem d_Mo_people_5 : decode c_Mo_people 5 = .ok (.ifCond .eq 14, 3) := by decide +kernel
theorem d_Mo_people_8 : decode c_Mo_people 8 = .ok (.iload_n 2, 1) := by decide +kernel
theorem d_Mo_people_9 : decode c_Mo_people 9 = .ok (.iconst 0, 1) := by decide +kernel
theorem d_Mo_people_10 : decode c_Mo_people 10 = .ok (.sipush 1000, 3) := by decide +kernel
theorem d_Mo_people_13 : decode c_Mo_people 13 = .ok (.invokestatic 87, 3) := by decide +kernel
theorem d_Mo_people_16 : decode c_Mo_people 16 = .ok (.ifCond .ne 5, 3) := by decide +kernel
theorem d_Mo_people_19 : decode c_Mo_people 19 = .ok (.iconst (-1), 1) := by decide +kernel
theorem d_Mo_people_20 : decode c_Mo_people 20 = .ok (.ireturn, 1) := by decide +kernel
theorem d_Mo_people_21 : decode c_Mo_people 21 = .ok (.aload_n 0, 1) := by decide +kernel
theorem d_Mo_people_22 : decode c_Mo_people 22 = .ok (.getfield 9, 3) := by decide +kernel
theorem d_Mo_people_25 : decode c_Mo_people 25 = .ok (.iload_n 1, 1) := by decide +kernel
theorem d_Mo_people_26 : decode c_Mo_people 26 = .ok (.iaload, 1) := by decide +kernel
theorem d_Mo_people_27 : decode c_Mo_people 27 = .ok (.istore_n 3, 1) := by decide +kernel
theorem d_Mo_people_28 : decode c_Mo_people 28 = .ok (.aload_n 0, 1) := by decide +kernel
theorem d_Mo_people_29 : decode c_Mo_people 29 = .ok (.getfield 9, 3) := by decide +kernel
theorem d_Mo_people_32 : decode c_Mo_people 32 = .ok (.iload_n 1, 1) := by decide +kernel
theorem d_Mo_people_33 : decode c_Mo_people 33 = .ok (.iload_n 2, 1) := by decide +kernel
theorem d_Mo_people_34 : decode c_Mo_people 34 = .ok (.iastore, 1) := by decide +kernel
theorem d_Mo_people_35 : decode c_Mo_people 35 = .ok (.iload_n 3, 1) := by decide +kernel
theorem d_Mo_people_36 : decode c_Mo_people 36 = .ok (.ireturn, 1) := by decide +kernel
theorem d_Mo_bitsOf_0 : decode c_Mo_bitsOf 0 = .ok (.iconst 0, 1) := by decide +kernel
theorem d_Mo_bitsOf_1 : decode c_Mo_bitsOf 1 = .ok (.istore_n 2, 1) := by decide +kernel
theorem d_Mo_bitsOf_2 : decode c_Mo_bitsOf 2 = .ok (.iconst 0, 1) := by decide +kernel
theorem d_Mo_bitsOf_3 : decode c_Mo_bitsOf 3 = .ok (.istore_n 3, 1) := by decide +kernel
theorem d_Mo_bitsOf_4 : decode c_Mo_bitsOf 4 = .ok (.iload_n 3, 1) := by decide +kernel
theorem d_Mo_bitsOf_5 : decode c_Mo_bitsOf 5 = .ok (.aload_n 0, 1) := by decide +kernel
theorem d_Mo_bitsOf_6 : decode c_Mo_bitsOf 6 = .ok (.getfield 91, 3) := by decide +kernel
theorem d_Mo_bitsOf_9 : decode c_Mo_bitsOf 9 = .ok (.if_icmp .ge 29, 3) := by decide +kernel
theorem d_Mo_bitsOf_12 : decode c_Mo_bitsOf 12 = .ok (.iload_n 2, 1) := by decide +kernel
theorem d_Mo_bitsOf_13 : decode c_Mo_bitsOf 13 = .ok (.aload_n 0, 1) := by decide +kernel
theorem d_Mo_bitsOf_14 : decode c_Mo_bitsOf 14 = .ok (.getfield 51, 3) := by decide +kernel
theorem d_Mo_bitsOf_17 : decode c_Mo_bitsOf 17 = .ok (.iload_n 3, 1) := by decide +kernel
theorem d_Mo_bitsOf_18 : decode c_Mo_bitsOf 18 = .ok (.iaload, 1) := by decide +kernel
theorem d_Mo_bitsOf_19 : decode c_Mo_bitsOf 19 = .ok (.iload_n 1, 1) := by decide +kernel
theorem d_Mo_bitsOf_20 : decode c_Mo_bitsOf 20 = .ok (.if_icmp .ne 9, 3) := by decide +kernel
theorem d_Mo_bitsOf_23 : decode c_Mo_bitsOf 23 = .ok (.iconst 1, 1) := by decide +kernel
theorem d_Mo_bitsOf_24 : decode c_Mo_bitsOf 24 = .ok (.iload_n 3, 1) := by decide +kernel
theorem d_Mo_bitsOf_25 : decode c_Mo_bitsOf 25 = .ok (.ishl, 1) := by decide +kernel
theorem d_Mo_bitsOf_26 : decode c_Mo_bitsOf 26 = .ok (.goto 4, 3) := by decide +kernel
theorem d_Mo_bitsOf_29 : decode c_Mo_bitsOf 29 = .ok (.iconst 0, 1) := by decide +kernel
theorem d_Mo_bitsOf_30 : decode c_Mo_bitsOf 30 = .ok (.ior, 1) := by decide +kernel
theorem d_Mo_bitsOf_31 : decode c_Mo_bitsOf 31 = .ok (.istore_n 2, 1) := by decide +kernel
theorem d_Mo_bitsOf_32 : decode c_Mo_bitsOf 32 = .ok (.iinc 3 1, 3) := by decide +kernel
theorem d_Mo_bitsOf_35 : decode c_Mo_bitsOf 35 = .ok (.goto (-31), 3) := by decide +kernel
theorem d_Mo_bitsOf_38 : decode c_Mo_bitsOf 38 = .ok (.iload_n 2, 1) := by decide +kernel
theorem d_Mo_bitsOf_39 : decode c_Mo_bitsOf 39 = .ok (.ireturn, 1) := by decide +kernel
theorem d_Mo_peopleOf_0 : decode c_Mo_peopleOf 0 = .ok (.iconst 0, 1) := by decide +kernel
theorem d_Mo_peopleOf_1 : decode c_Mo_peopleOf 1 = .ok (.istore_n 2, 1) := by decide +kernel
theorem d_Mo_peopleOf_2 : decode c_Mo_peopleOf 2 = .ok (.iconst 0, 1) := by decide +kernel
theorem d_Mo_peopleOf_3 : decode c_Mo_peopleOf 3 = .ok (.istore_n 3, 1) := by decide +kernel
theorem d_Mo_peopleOf_4 : decode c_Mo_peopleOf 4 = .ok (.iload_n 3, 1) := by decide +kernel
theorem d_Mo_peopleOf_5 : decode c_Mo_peopleOf 5 = .ok (.aload_n 0, 1) := by decide +kernel
theorem d_Mo_peopleOf_6 : decode c_Mo_peopleOf 6 = .ok (.getfield 91, 3) := by decide +kernel
theorem d_Mo_peopleOf_9 : decode c_Mo_peopleOf 9 = .ok (.if_icmp .ge 30, 3) := by decide +kernel
theorem d_Mo_peopleOf_12 : decode c_Mo_peopleOf 12 = .ok (.iload_n 2, 1) := by decide +kernel
theorem d_Mo_peopleOf_13 : decode c_Mo_peopleOf 13 = .ok (.iload_n 1, 1) := by decide +kernel
theorem d_Mo_peopleOf_14 : decode c_Mo_peopleOf 14 = .ok (.iload_n 3, 1) := by decide +kernel
theorem d_Mo_peopleOf_15 : decode c_Mo_peopleOf 15 = .ok (.invokestatic 98, 3) := by decide +kernel
theorem d_Mo_peopleOf_18 : decode c_Mo_peopleOf 18 = .ok (.ifCond .eq 12, 3) := by decide +kernel
theorem d_Mo_peopleOf_21 : decode c_Mo_peopleOf 21 = .ok (.aload_n 0, 1) := by decide +kernel
theorem d_Mo_peopleOf_22 : decode c_Mo_peopleOf 22 = .ok (.getfield 9, 3) := by decide +kernel
theorem d_Mo_peopleOf_25 : decode c_Mo_peopleOf 25 = .ok (.iload_n 3, 1) := by decide +kernel
theorem d_Mo_peopleOf_26 : decode c_Mo_peopleOf 26 = .ok (.iaload, 1) := by decide +kernel
theorem d_Mo_peopleOf_27 : decode c_Mo_peopleOf 27 = .ok (.goto 4, 3) := by decide +kernel
theorem d_Mo_peopleOf_30 : decode c_Mo_peopleOf 30 = .ok (.iconst 0, 1) := by decide +kernel
theorem d_Mo_peopleOf_31 : decode c_Mo_peopleOf 31 = .ok (.iadd, 1) := by decide +kernel
theorem d_Mo_peopleOf_32 : decode c_Mo_peopleOf 32 = .ok (.istore_n 2, 1) := by decide +kernel
theorem d_Mo_peopleOf_33 : decode c_Mo_peopleOf 33 = .ok (.iinc 3 1, 3) := by decide +kernel
theorem d_Mo_peopleOf_36 : decode c_Mo_peopleOf 36 = .ok (.goto (-32), 3) := by decide +kernel
theorem d_Mo_peopleOf_39 : decode c_Mo_peopleOf 39 = .ok (.iload_n 2, 1) := by decide +kernel
theorem d_Mo_peopleOf_40 : decode c_Mo_peopleOf 40 = .ok (.ireturn, 1) := by decide +kernel
theorem d_Mo_all_0 : decode c_Mo_all 0 = .ok (.aload_n 0, 1) := by decide +kernel
theorem d_Mo_all_1 : decode c_Mo_all 1 = .ok (.iconst 1, 1) := by decide +kernel
theorem d_Mo_all_2 : decode c_Mo_all 2 = .ok (.aload_n 0, 1) := by decide +kernel
theorem d_Mo_all_3 : decode c_Mo_all 3 = .ok (.getfield 91, 3) := by decide +kernel
theorem d_Mo_all_6 : decode c_Mo_all 6 = .ok (.ishl, 1) := by decide +kernel
theorem d_Mo_all_7 : decode c_Mo_all 7 = .ok (.iconst 1, 1) := by decide +kernel
theorem d_Mo_all_8 : decode c_Mo_all 8 = .ok (.isub, 1) := by decide +kernel
theorem d_Mo_all_9 : decode c_Mo_all 9 = .ok (.invokevirtual 105, 3) := by decide +kernel
theorem d_Mo_all_12 : decode c_Mo_all 12 = .ok (.ireturn, 1) := by decide +kernel
theorem d_Mo_leastOf_0 : decode c_Mo_leastOf 0 = .ok (.iconst 0, 1) := by decide +kernel
theorem d_Mo_leastOf_1 : decode c_Mo_leastOf 1 = .ok (.istore_n 1, 1) := by decide +kernel
theorem d_Mo_leastOf_2 : decode c_Mo_leastOf 2 = .ok (.iload_n 0, 1) := by decide +kernel
theorem d_Mo_leastOf_3 : decode c_Mo_leastOf 3 = .ok (.iload_n 1, 1) := by decide +kernel
theorem d_Mo_leastOf_4 : decode c_Mo_leastOf 4 = .ok (.invokestatic 98, 3) := by decide +kernel
theorem d_Mo_leastOf_7 : decode c_Mo_leastOf 7 = .ok (.ifCond .ne 9, 3) := by decide +kernel
theorem d_Mo_leastOf_10 : decode c_Mo_leastOf 10 = .ok (.iinc 1 1, 3) := by decide +kernel
theorem d_Mo_leastOf_13 : decode c_Mo_leastOf 13 = .ok (.goto (-11), 3) := by decide +kernel
theorem d_Mo_leastOf_16 : decode c_Mo_leastOf 16 = .ok (.iload_n 1, 1) := by decide +kernel
theorem d_Mo_leastOf_17 : decode c_Mo_leastOf 17 = .ok (.ireturn, 1) := by decide +kernel
theorem d_Mo_reached_0 : decode c_Mo_reached 0 = .ok (.iconst 1, 1) := by decide +kernel
theorem d_Mo_reached_1 : decode c_Mo_reached 1 = .ok (.iload_n 1, 1) := by decide +kernel
theorem d_Mo_reached_2 : decode c_Mo_reached 2 = .ok (.invokestatic 109, 3) := by decide +kernel
theorem d_Mo_reached_5 : decode c_Mo_reached 5 = .ok (.ishl, 1) := by decide +kernel
theorem d_Mo_reached_6 : decode c_Mo_reached 6 = .ok (.istore_n 2, 1) := by decide +kernel
theorem d_Mo_reached_7 : decode c_Mo_reached 7 = .ok (.iconst 1, 1) := by decide +kernel
theorem d_Mo_reached_8 : decode c_Mo_reached 8 = .ok (.istore_n 3, 1) := by decide +kernel
theorem d_Mo_reached_9 : decode c_Mo_reached 9 = .ok (.iload_n 3, 1) := by decide +kernel
theorem d_Mo_reached_10 : decode c_Mo_reached 10 = .ok (.ifCond .eq 69, 3) := by decide +kernel
theorem d_Mo_reached_13 : decode c_Mo_reached 13 = .ok (.iload_n 2, 1) := by decide +kernel
theorem d_Mo_reached_14 : decode c_Mo_reached 14 = .ok (.istore 4, 2) := by decide +kernel
theorem d_Mo_reached_16 : decode c_Mo_reached 16 = .ok (.iconst 0, 1) := by decide +kernel
theorem d_Mo_reached_17 : decode c_Mo_reached 17 = .ok (.istore 5, 2) := by decide +kernel
theorem d_Mo_reached_19 : decode c_Mo_reached 19 = .ok (.iload 5, 2) := by decide +kernel
theorem d_Mo_reached_21 : decode c_Mo_reached 21 = .ok (.aload_n 0, 1) := by decide +kernel
theorem d_Mo_reached_22 : decode c_Mo_reached 22 = .ok (.getfield 91, 3) := by decide +kernel
theorem d_Mo_reached_25 : decode c_Mo_reached 25 = .ok (.if_icmp .ge 36, 3) := by decide +kernel
theorem d_Mo_reached_28 : decode c_Mo_reached 28 = .ok (.iload 4, 2) := by decide +kernel
theorem d_Mo_reached_30 : decode c_Mo_reached 30 = .ok (.iload_n 2, 1) := by decide +kernel
theorem d_Mo_reached_31 : decode c_Mo_reached 31 = .ok (.iload 5, 2) := by decide +kernel
theorem d_Mo_reached_33 : decode c_Mo_reached 33 = .ok (.invokestatic 98, 3) := by decide +kernel
theorem d_Mo_reached_36 : decode c_Mo_reached 36 = .ok (.ifCond .eq 15, 3) := by decide +kernel
theorem d_Mo_reached_39 : decode c_Mo_reached 39 = .ok (.aload_n 0, 1) := by decide +kernel
theorem d_Mo_reached_40 : decode c_Mo_reached 40 = .ok (.getfield 31, 3) := by decide +kernel
theorem d_Mo_reached_43 : decode c_Mo_reached 43 = .ok (.iload 5, 2) := by decide +kernel
theorem d_Mo_reached_45 : decode c_Mo_reached 45 = .ok (.iaload, 1) := by decide +kernel
theorem d_Mo_reached_46 : decode c_Mo_reached 46 = .ok (.iload_n 1, 1) := by decide +kernel
theorem d_Mo_reached_47 : decode c_Mo_reached 47 = .ok (.iand, 1) := by decide +kernel
theorem d_Mo_reached_48 : decode c_Mo_reached 48 = .ok (.goto 4, 3) := by decide +kernel
theorem d_Mo_reached_51 : decode c_Mo_reached 51 = .ok (.iconst 0, 1) := by decide +kernel
theorem d_Mo_reached_52 : decode c_Mo_reached 52 = .ok (.ior, 1) := by decide +kernel
theorem d_Mo_reached_53 : decode c_Mo_reached 53 = .ok (.istore 4, 2) := by decide +kernel
theorem d_Mo_reached_55 : decode c_Mo_reached 55 = .ok (.iinc 5 1, 3) := by decide +kernel
theorem d_Mo_reached_58 : decode c_Mo_reached 58 = .ok (.goto (-39), 3) := by decide +kernel
theorem d_Mo_reached_61 : decode c_Mo_reached 61 = .ok (.iload 4, 2) := by decide +kernel
theorem d_Mo_reached_63 : decode c_Mo_reached 63 = .ok (.iload_n 2, 1) := by decide +kernel
theorem d_Mo_reached_64 : decode c_Mo_reached 64 = .ok (.if_icmp .eq 7, 3) := by decide +kernel
theorem d_Mo_reached_67 : decode c_Mo_reached 67 = .ok (.iconst 1, 1) := by decide +kernel
theorem d_Mo_reached_68 : decode c_Mo_reached 68 = .ok (.goto 4, 3) := by decide +kernel
theorem d_Mo_reached_71 : decode c_Mo_reached 71 = .ok (.iconst 0, 1) := by decide +kernel
theorem d_Mo_reached_72 : decode c_Mo_reached 72 = .ok (.istore_n 3, 1) := by decide +kernel
theorem d_Mo_reached_73 : decode c_Mo_reached 73 = .ok (.iload 4, 2) := by decide +kernel
theorem d_Mo_reached_75 : decode c_Mo_reached 75 = .ok (.istore_n 2, 1) := by decide +kernel
theorem d_Mo_reached_76 : decode c_Mo_reached 76 = .ok (.goto (-67), 3) := by decide +kernel
theorem d_Mo_reached_79 : decode c_Mo_reached 79 = .ok (.iload_n 2, 1) := by decide +kernel
theorem d_Mo_reached_80 : decode c_Mo_reached 80 = .ok (.ireturn, 1) := by decide +kernel
theorem d_Mo_fits_0 : decode c_Mo_fits 0 = .ok (.aload_n 0, 1) := by decide +kernel
theorem d_Mo_fits_1 : decode c_Mo_fits 1 = .ok (.getfield 34, 3) := by decide +kernel
theorem d_Mo_fits_4 : decode c_Mo_fits 4 = .ok (.aload_n 0, 1) := by decide +kernel
theorem d_Mo_fits_5 : decode c_Mo_fits 5 = .ok (.iload_n 1, 1) := by decide +kernel
theorem d_Mo_fits_6 : decode c_Mo_fits 6 = .ok (.invokevirtual 105, 3) := by decide +kernel
theorem d_Mo_fits_9 : decode c_Mo_fits 9 = .ok (.imul, 1) := by decide +kernel
theorem d_Mo_fits_10 : decode c_Mo_fits 10 = .ok (.aload_n 0, 1) := by decide +kernel
theorem d_Mo_fits_11 : decode c_Mo_fits 11 = .ok (.invokevirtual 112, 3) := by decide +kernel
theorem d_Mo_fits_14 : decode c_Mo_fits 14 = .ok (.isub, 1) := by decide +kernel
theorem d_Mo_fits_15 : decode c_Mo_fits 15 = .ok (.istore_n 2, 1) := by decide +kernel
theorem d_Mo_fits_16 : decode c_Mo_fits 16 = .ok (.ldc2_w 116, 3) := by decide +kernel
theorem d_Mo_fits_19 : decode c_Mo_fits 19 = .ok (.iload_n 2, 1) := by decide +kernel
theorem d_Mo_fits_20 : decode c_Mo_fits 20 = .ok (.ifCond .ge 8, 3) := by decide +kernel
theorem d_Mo_fits_23 : decode c_Mo_fits 23 = .ok (.iload_n 2, 1) := by decide +kernel
theorem d_Mo_fits_24 : decode c_Mo_fits 24 = .ok (.ineg, 1) := by decide +kernel
theorem d_Mo_fits_25 : decode c_Mo_fits 25 = .ok (.goto 4, 3) := by decide +kernel
theorem d_Mo_fits_28 : decode c_Mo_fits 28 = .ok (.iload_n 2, 1) := by decide +kernel
theorem d_Mo_fits_29 : decode c_Mo_fits 29 = .ok (.i2l, 1) := by decide +kernel
theorem d_Mo_fits_30 : decode c_Mo_fits 30 = .ok (.lmul, 1) := by decide +kernel
theorem d_Mo_fits_31 : decode c_Mo_fits 31 = .ok (.aload_n 0, 1) := by decide +kernel
theorem d_Mo_fits_32 : decode c_Mo_fits 32 = .ok (.getfield 38, 3) := by decide +kernel
theorem d_Mo_fits_35 : decode c_Mo_fits 35 = .ok (.i2l, 1) := by decide +kernel
theorem d_Mo_fits_36 : decode c_Mo_fits 36 = .ok (.aload_n 0, 1) := by decide +kernel
theorem d_Mo_fits_37 : decode c_Mo_fits 37 = .ok (.invokevirtual 112, 3) := by decide +kernel
theorem d_Mo_fits_40 : decode c_Mo_fits 40 = .ok (.i2l, 1) := by decide +kernel
theorem d_Mo_fits_41 : decode c_Mo_fits 41 = .ok (.lmul, 1) := by decide +kernel
theorem d_Mo_fits_42 : decode c_Mo_fits 42 = .ok (.lcmp, 1) := by decide +kernel
theorem d_Mo_fits_43 : decode c_Mo_fits 43 = .ok (.ifCond .gt 7, 3) := by decide +kernel
theorem d_Mo_fits_46 : decode c_Mo_fits 46 = .ok (.iconst 1, 1) := by decide +kernel
theorem d_Mo_fits_47 : decode c_Mo_fits 47 = .ok (.goto 4, 3) := by decide +kernel
theorem d_Mo_fits_50 : decode c_Mo_fits 50 = .ok (.iconst 0, 1) := by decide +kernel
theorem d_Mo_fits_51 : decode c_Mo_fits 51 = .ok (.ireturn, 1) := by decide +kernel
theorem d_Mo_isCut_0 : decode c_Mo_isCut 0 = .ok (.iconst (-1), 1) := by decide +kernel
theorem d_Mo_isCut_1 : decode c_Mo_isCut 1 = .ok (.istore_n 2, 1) := by decide +kernel
theorem d_Mo_isCut_2 : decode c_Mo_isCut 2 = .ok (.iconst 0, 1) := by decide +kernel
theorem d_Mo_isCut_3 : decode c_Mo_isCut 3 = .ok (.istore_n 3, 1) := by decide +kernel
theorem d_Mo_isCut_4 : decode c_Mo_isCut 4 = .ok (.iconst 0, 1) := by decide +kernel
theorem d_Mo_isCut_5 : decode c_Mo_isCut 5 = .ok (.istore 4, 2) := by decide +kernel
theorem d_Mo_isCut_7 : decode c_Mo_isCut 7 = .ok (.iload 4, 2) := by decide +kernel
theorem d_Mo_isCut_9 : decode c_Mo_isCut 9 = .ok (.aload_n 0, 1) := by decide +kernel
theorem d_Mo_isCut_10 : decode c_Mo_isCut 10 = .ok (.getfield 91, 3) := by decide +kernel
theorem d_Mo_isCut_13 : decode c_Mo_isCut 13 = .ok (.if_icmp .ge 53, 3) := by decide +kernel
theorem d_Mo_isCut_16 : decode c_Mo_isCut 16 = .ok (.aload_n 0, 1) := by decide +kernel
theorem d_Mo_isCut_17 : decode c_Mo_isCut 17 = .ok (.getfield 19, 3) := by decide +kernel
theorem d_Mo_isCut_20 : decode c_Mo_isCut 20 = .ok (.iload 4, 2) := by decide +kernel
theorem d_Mo_isCut_22 : decode c_Mo_isCut 22 = .ok (.iaload, 1) := by decide +kernel
theorem d_Mo_isCut_23 : decode c_Mo_isCut 23 = .ok (.iload_n 1, 1) := by decide +kernel
theorem d_Mo_isCut_24 : decode c_Mo_isCut 24 = .ok (.if_icmp .ne 36, 3) := by decide +kernel
theorem d_Mo_isCut_27 : decode c_Mo_isCut 27 = .ok (.iload_n 3, 1) := by decide +kernel
theorem d_Mo_isCut_28 : decode c_Mo_isCut 28 = .ok (.ifCond .ne 18, 3) := by decide +kernel
theorem d_Mo_isCut_31 : decode c_Mo_isCut 31 = .ok (.iload_n 2, 1) := by decide +kernel
theorem d_Mo_isCut_32 : decode c_Mo_isCut 32 = .ok (.ifCond .lt 18, 3) := by decide +kernel
theorem d_Mo_isCut_35 : decode c_Mo_isCut 35 = .ok (.aload_n 0, 1) := by decide +kernel
theorem d_Mo_isCut_36 : decode c_Mo_isCut 36 = .ok (.getfield 51, 3) := by decide +kernel
theorem d_Mo_isCut_39 : decode c_Mo_isCut 39 = .ok (.iload 4, 2) := by decide +kernel
theorem d_Mo_isCut_41 : decode c_Mo_isCut 41 = .ok (.iaload, 1) := by decide +kernel
theorem d_Mo_isCut_42 : decode c_Mo_isCut 42 = .ok (.iload_n 2, 1) := by decide +kernel
theorem d_Mo_isCut_43 : decode c_Mo_isCut 43 = .ok (.if_icmp .eq 7, 3) := by decide +kernel
theorem d_Mo_isCut_46 : decode c_Mo_isCut 46 = .ok (.iconst 1, 1) := by decide +kernel
theorem d_Mo_isCut_47 : decode c_Mo_isCut 47 = .ok (.goto 4, 3) := by decide +kernel
theorem d_Mo_isCut_50 : decode c_Mo_isCut 50 = .ok (.iconst 0, 1) := by decide +kernel
theorem d_Mo_isCut_51 : decode c_Mo_isCut 51 = .ok (.istore_n 3, 1) := by decide +kernel
theorem d_Mo_isCut_52 : decode c_Mo_isCut 52 = .ok (.aload_n 0, 1) := by decide +kernel
theorem d_Mo_isCut_53 : decode c_Mo_isCut 53 = .ok (.getfield 51, 3) := by decide +kernel
theorem d_Mo_isCut_56 : decode c_Mo_isCut 56 = .ok (.iload 4, 2) := by decide +kernel
theorem d_Mo_isCut_58 : decode c_Mo_isCut 58 = .ok (.iaload, 1) := by decide +kernel
theorem d_Mo_isCut_59 : decode c_Mo_isCut 59 = .ok (.istore_n 2, 1) := by decide +kernel
theorem d_Mo_isCut_60 : decode c_Mo_isCut 60 = .ok (.iinc 4 1, 3) := by decide +kernel
theorem d_Mo_isCut_63 : decode c_Mo_isCut 63 = .ok (.goto (-56), 3) := by decide +kernel
theorem d_Mo_isCut_66 : decode c_Mo_isCut 66 = .ok (.iload_n 3, 1) := by decide +kernel
theorem d_Mo_isCut_67 : decode c_Mo_isCut 67 = .ok (.ireturn, 1) := by decide +kernel
theorem d_Mo_broken_0 : decode c_Mo_broken 0 = .ok (.iconst 0, 1) := by decide +kernel
theorem d_Mo_broken_1 : decode c_Mo_broken 1 = .ok (.istore_n 2, 1) := by decide +kernel
theorem d_Mo_broken_2 : decode c_Mo_broken 2 = .ok (.iload_n 2, 1) := by decide +kernel
theorem d_Mo_broken_3 : decode c_Mo_broken 3 = .ok (.aload_n 0, 1) := by decide +kernel
theorem d_Mo_broken_4 : decode c_Mo_broken 4 = .ok (.getfield 34, 3) := by decide +kernel
theorem d_Mo_broken_7 : decode c_Mo_broken 7 = .ok (.if_icmp .ge 24, 3) := by decide +kernel
theorem d_Mo_broken_10 : decode c_Mo_broken 10 = .ok (.aload_n 0, 1) := by decide +kernel
theorem d_Mo_broken_11 : decode c_Mo_broken 11 = .ok (.iload_n 2, 1) := by decide +kernel
theorem d_Mo_broken_12 : decode c_Mo_broken 12 = .ok (.putfield 118, 3) := by decide +kernel
theorem d_Mo_broken_15 : decode c_Mo_broken 15 = .ok (.aload_n 0, 1) := by decide +kernel
theorem d_Mo_broken_16 : decode c_Mo_broken 16 = .ok (.iload_n 2, 1) := by decide +kernel
theorem d_Mo_broken_17 : decode c_Mo_broken 17 = .ok (.invokevirtual 121, 3) := by decide +kernel
theorem d_Mo_broken_20 : decode c_Mo_broken 20 = .ok (.ifCond .ne 5, 3) := by decide +kernel
theorem d_Mo_broken_23 : decode c_Mo_broken 23 = .ok (.iconst 1, 1) := by decide +kernel
theorem d_Mo_broken_24 : decode c_Mo_broken 24 = .ok (.ireturn, 1) := by decide +kernel
theorem d_Mo_broken_25 : decode c_Mo_broken 25 = .ok (.iinc 2 1, 3) := by decide +kernel
theorem d_Mo_broken_28 : decode c_Mo_broken 28 = .ok (.goto (-26), 3) := by decide +kernel
theorem d_Mo_broken_31 : decode c_Mo_broken 31 = .ok (.iconst 0, 1) := by decide +kernel
theorem d_Mo_broken_32 : decode c_Mo_broken 32 = .ok (.istore_n 2, 1) := by decide +kernel
theorem d_Mo_broken_33 : decode c_Mo_broken 33 = .ok (.iload_n 2, 1) := by decide +kernel
theorem d_Mo_broken_34 : decode c_Mo_broken 34 = .ok (.aload_n 0, 1) := by decide +kernel
theorem d_Mo_broken_35 : decode c_Mo_broken 35 = .ok (.getfield 34, 3) := by decide +kernel
theorem d_Mo_broken_38 : decode c_Mo_broken 38 = .ok (.if_icmp .ge 55, 3) := by decide +kernel
theorem d_Mo_broken_41 : decode c_Mo_broken 41 = .ok (.aload_n 0, 1) := by decide +kernel
theorem d_Mo_broken_42 : decode c_Mo_broken 42 = .ok (.iload_n 2, 1) := by decide +kernel
theorem d_Mo_broken_43 : decode c_Mo_broken 43 = .ok (.invokevirtual 121, 3) := by decide +kernel
theorem d_Mo_broken_46 : decode c_Mo_broken 46 = .ok (.istore_n 3, 1) := by decide +kernel
theorem d_Mo_broken_47 : decode c_Mo_broken 47 = .ok (.iload_n 3, 1) := by decide +kernel
theorem d_Mo_broken_48 : decode c_Mo_broken 48 = .ok (.aload_n 0, 1) := by decide +kernel
theorem d_Mo_broken_49 : decode c_Mo_broken 49 = .ok (.iload_n 3, 1) := by decide +kernel
theorem d_Mo_broken_50 : decode c_Mo_broken 50 = .ok (.invokevirtual 124, 3) := by decide +kernel
theorem d_Mo_broken_53 : decode c_Mo_broken 53 = .ok (.iconst (-1), 1) := by decide +kernel
theorem d_Mo_broken_54 : decode c_Mo_broken 54 = .ok (.ixor, 1) := by decide +kernel
theorem d_Mo_broken_55 : decode c_Mo_broken 55 = .ok (.iand, 1) := by decide +kernel
theorem d_Mo_broken_56 : decode c_Mo_broken 56 = .ok (.istore 4, 2) := by decide +kernel
theorem d_Mo_broken_58 : decode c_Mo_broken 58 = .ok (.iload 4, 2) := by decide +kernel
theorem d_Mo_broken_60 : decode c_Mo_broken 60 = .ok (.ifCond .eq 27, 3) := by decide +kernel
theorem d_Mo_broken_63 : decode c_Mo_broken 63 = .ok (.aload_n 0, 1) := by decide +kernel
theorem d_Mo_broken_64 : decode c_Mo_broken 64 = .ok (.iload_n 2, 1) := by decide +kernel
theorem d_Mo_broken_65 : decode c_Mo_broken 65 = .ok (.putfield 118, 3) := by decide +kernel
theorem d_Mo_broken_68 : decode c_Mo_broken 68 = .ok (.aload_n 0, 1) := by decide +kernel
theorem d_Mo_broken_69 : decode c_Mo_broken 69 = .ok (.iload_n 3, 1) := by decide +kernel
theorem d_Mo_broken_70 : decode c_Mo_broken 70 = .ok (.invokestatic 109, 3) := by decide +kernel
theorem d_Mo_broken_73 : decode c_Mo_broken 73 = .ok (.putfield 127, 3) := by decide +kernel
theorem d_Mo_broken_76 : decode c_Mo_broken 76 = .ok (.aload_n 0, 1) := by decide +kernel
theorem d_Mo_broken_77 : decode c_Mo_broken 77 = .ok (.iload 4, 2) := by decide +kernel
theorem d_Mo_broken_79 : decode c_Mo_broken 79 = .ok (.invokestatic 109, 3) := by decide +kernel
theorem d_Mo_broken_82 : decode c_Mo_broken 82 = .ok (.putfield 130, 3) := by decide +kernel
theorem d_Mo_broken_85 : decode c_Mo_broken 85 = .ok (.iconst 2, 1) := by decide +kernel
theorem d_Mo_broken_86 : decode c_Mo_broken 86 = .ok (.ireturn, 1) := by decide +kernel
theorem d_Mo_broken_87 : decode c_Mo_broken 87 = .ok (.iinc 2 1, 3) := by decide +kernel
theorem d_Mo_broken_90 : decode c_Mo_broken 90 = .ok (.goto (-57), 3) := by decide +kernel
theorem d_Mo_broken_93 : decode c_Mo_broken 93 = .ok (.iconst 0, 1) := by decide +kernel
theorem d_Mo_broken_94 : decode c_Mo_broken 94 = .ok (.istore_n 2, 1) := by decide +kernel
theorem d_Mo_broken_95 : decode c_Mo_broken 95 = .ok (.iload_n 2, 1) := by decide +kernel
theorem d_Mo_broken_96 : decode c_Mo_broken 96 = .ok (.aload_n 0, 1) := by decide +kernel
theorem d_Mo_broken_97 : decode c_Mo_broken 97 = .ok (.getfield 34, 3) := by decide +kernel
theorem d_Mo_broken_100 : decode c_Mo_broken 100 = .ok (.if_icmp .ge 28, 3) := by decide +kernel
theorem d_Mo_broken_103 : decode c_Mo_broken 103 = .ok (.aload_n 0, 1) := by decide +kernel
theorem d_Mo_broken_104 : decode c_Mo_broken 104 = .ok (.iload_n 2, 1) := by decide +kernel
theorem d_Mo_broken_105 : decode c_Mo_broken 105 = .ok (.putfield 118, 3) := by decide +kernel
theorem d_Mo_broken_108 : decode c_Mo_broken 108 = .ok (.aload_n 0, 1) := by decide +kernel
theorem d_Mo_broken_109 : decode c_Mo_broken 109 = .ok (.aload_n 0, 1) := by decide +kernel
theorem d_Mo_broken_110 : decode c_Mo_broken 110 = .ok (.iload_n 2, 1) := by decide +kernel
theorem d_Mo_broken_111 : decode c_Mo_broken 111 = .ok (.invokevirtual 121, 3) := by decide +kernel
theorem d_Mo_broken_114 : decode c_Mo_broken 114 = .ok (.invokevirtual 133, 3) := by decide +kernel
theorem d_Mo_broken_117 : decode c_Mo_broken 117 = .ok (.ifCond .ne 5, 3) := by decide +kernel
theorem d_Mo_broken_120 : decode c_Mo_broken 120 = .ok (.iconst 3, 1) := by decide +kernel
theorem d_Mo_broken_121 : decode c_Mo_broken 121 = .ok (.ireturn, 1) := by decide +kernel
theorem d_Mo_broken_122 : decode c_Mo_broken 122 = .ok (.iinc 2 1, 3) := by decide +kernel
theorem d_Mo_broken_125 : decode c_Mo_broken 125 = .ok (.goto (-30), 3) := by decide +kernel
theorem d_Mo_broken_128 : decode c_Mo_broken 128 = .ok (.iconst 0, 1) := by decide +kernel
theorem d_Mo_broken_129 : decode c_Mo_broken 129 = .ok (.istore_n 2, 1) := by decide +kernel
theorem d_Mo_broken_130 : decode c_Mo_broken 130 = .ok (.iconst (-1), 1) := by decide +kernel
theorem d_Mo_broken_131 : decode c_Mo_broken 131 = .ok (.istore_n 3, 1) := by decide +kernel
theorem d_Mo_broken_132 : decode c_Mo_broken 132 = .ok (.iconst 0, 1) := by decide +kernel
theorem d_Mo_broken_133 : decode c_Mo_broken 133 = .ok (.istore 4, 2) := by decide +kernel
theorem d_Mo_broken_135 : decode c_Mo_broken 135 = .ok (.iload 4, 2) := by decide +kernel
theorem d_Mo_broken_137 : decode c_Mo_broken 137 = .ok (.bipush 10, 2) := by decide +kernel
theorem d_Mo_broken_139 : decode c_Mo_broken 139 = .ok (.if_icmp .ge 75, 3) := by decide +kernel
theorem d_Mo_broken_142 : decode c_Mo_broken 142 = .ok (.aload_n 0, 1) := by decide +kernel
theorem d_Mo_broken_143 : decode c_Mo_broken 143 = .ok (.iload 4, 2) := by decide +kernel
theorem d_Mo_broken_145 : decode c_Mo_broken 145 = .ok (.invokevirtual 136, 3) := by decide +kernel
theorem d_Mo_broken_148 : decode c_Mo_broken 148 = .ok (.istore 5, 2) := by decide +kernel
theorem d_Mo_broken_150 : decode c_Mo_broken 150 = .ok (.aload_n 0, 1) := by decide +kernel
theorem d_Mo_broken_151 : decode c_Mo_broken 151 = .ok (.iload 4, 2) := by decide +kernel
theorem d_Mo_broken_153 : decode c_Mo_broken 153 = .ok (.putfield 118, 3) := by decide +kernel
theorem d_Mo_broken_156 : decode c_Mo_broken 156 = .ok (.iload 5, 2) := by decide +kernel
theorem d_Mo_broken_158 : decode c_Mo_broken 158 = .ok (.ifCond .eq 15, 3) := by decide +kernel
theorem d_Mo_broken_161 : decode c_Mo_broken 161 = .ok (.aload_n 0, 1) := by decide +kernel
theorem d_Mo_broken_162 : decode c_Mo_broken 162 = .ok (.getfield 41, 3) := by decide +kernel
theorem d_Mo_broken_165 : decode c_Mo_broken 165 = .ok (.iload 4, 2) := by decide +kernel
theorem d_Mo_broken_167 : decode c_Mo_broken 167 = .ok (.baload, 1) := by decide +kernel
theorem d_Mo_broken_168 : decode c_Mo_broken 168 = .ok (.ifCond .eq 5, 3) := by decide +kernel
theorem d_Mo_broken_171 : decode c_Mo_broken 171 = .ok (.iconst 4, 1) := by decide +kernel
theorem d_Mo_broken_172 : decode c_Mo_broken 172 = .ok (.ireturn, 1) := by decide +kernel
theorem d_Mo_broken_173 : decode c_Mo_broken 173 = .ok (.iload_n 2, 1) := by decide +kernel
theorem d_Mo_broken_174 : decode c_Mo_broken 174 = .ok (.iload 5, 2) := by decide +kernel
theorem d_Mo_broken_176 : decode c_Mo_broken 176 = .ok (.ifCond .eq 7, 3) := by decide +kernel
theorem d_Mo_broken_179 : decode c_Mo_broken 179 = .ok (.iconst 1, 1) := by decide +kernel
theorem d_Mo_broken_180 : decode c_Mo_broken 180 = .ok (.goto 4, 3) := by decide +kernel
theorem d_Mo_broken_183 : decode c_Mo_broken 183 = .ok (.iconst 0, 1) := by decide +kernel
theorem d_Mo_broken_184 : decode c_Mo_broken 184 = .ok (.iadd, 1) := by decide +kernel
theorem d_Mo_broken_185 : decode c_Mo_broken 185 = .ok (.istore_n 2, 1) := by decide +kernel
theorem d_Mo_broken_186 : decode c_Mo_broken 186 = .ok (.iload 5, 2) := by decide +kernel
theorem d_Mo_broken_188 : decode c_Mo_broken 188 = .ok (.ifCond .eq 18, 3) := by decide +kernel
theorem d_Mo_broken_191 : decode c_Mo_broken 191 = .ok (.iload_n 2, 1) := by decide +kernel
theorem d_Mo_broken_192 : decode c_Mo_broken 192 = .ok (.aload_n 0, 1) := by decide +kernel
theorem d_Mo_broken_193 : decode c_Mo_broken 193 = .ok (.getfield 45, 3) := by decide +kernel
theorem d_Mo_broken_196 : decode c_Mo_broken 196 = .ok (.iconst 1, 1) := by decide +kernel
theorem d_Mo_broken_197 : decode c_Mo_broken 197 = .ok (.iadd, 1) := by decide +kernel
theorem d_Mo_broken_198 : decode c_Mo_broken 198 = .ok (.if_icmp .ne 8, 3) := by decide +kernel
theorem d_Mo_broken_201 : decode c_Mo_broken 201 = .ok (.iload 4, 2) := by decide +kernel
theorem d_Mo_broken_203 : decode c_Mo_broken 203 = .ok (.goto 4, 3) := by decide +kernel
theorem d_Mo_broken_206 : decode c_Mo_broken 206 = .ok (.iload_n 3, 1) := by decide +kernel
theorem d_Mo_broken_207 : decode c_Mo_broken 207 = .ok (.istore_n 3, 1) := by decide +kernel
theorem d_Mo_broken_208 : decode c_Mo_broken 208 = .ok (.iinc 4 1, 3) := by decide +kernel
theorem d_Mo_broken_211 : decode c_Mo_broken 211 = .ok (.goto (-76), 3) := by decide +kernel
theorem d_Mo_broken_214 : decode c_Mo_broken 214 = .ok (.iconst 0, 1) := by decide +kernel
theorem d_Mo_broken_215 : decode c_Mo_broken 215 = .ok (.istore 4, 2) := by decide +kernel
theorem d_Mo_broken_217 : decode c_Mo_broken 217 = .ok (.iload 4, 2) := by decide +kernel
theorem d_Mo_broken_219 : decode c_Mo_broken 219 = .ok (.aload_n 0, 1) := by decide +kernel
theorem d_Mo_broken_220 : decode c_Mo_broken 220 = .ok (.getfield 91, 3) := by decide +kernel
theorem d_Mo_broken_223 : decode c_Mo_broken 223 = .ok (.if_icmp .ge 48, 3) := by decide +kernel
theorem d_Mo_broken_226 : decode c_Mo_broken 226 = .ok (.iload_n 1, 1) := by decide +kernel
theorem d_Mo_broken_227 : decode c_Mo_broken 227 = .ok (.ifCond .ne 44, 3) := by decide +kernel
theorem d_Mo_broken_230 : decode c_Mo_broken 230 = .ok (.aload_n 0, 1) := by decide +kernel
theorem d_Mo_broken_231 : decode c_Mo_broken 231 = .ok (.iload 4, 2) := by decide +kernel
theorem d_Mo_broken_233 : decode c_Mo_broken 233 = .ok (.putfield 118, 3) := by decide +kernel
theorem d_Mo_broken_236 : decode c_Mo_broken 236 = .ok (.aload_n 0, 1) := by decide +kernel
theorem d_Mo_broken_237 : decode c_Mo_broken 237 = .ok (.getfield 48, 3) := by decide +kernel
theorem d_Mo_broken_240 : decode c_Mo_broken 240 = .ok (.iload 4, 2) := by decide +kernel
theorem d_Mo_broken_242 : decode c_Mo_broken 242 = .ok (.iaload, 1) := by decide +kernel
theorem d_Mo_broken_243 : decode c_Mo_broken 243 = .ok (.ifCond .lt 22, 3) := by decide +kernel
theorem d_Mo_broken_246 : decode c_Mo_broken 246 = .ok (.aload_n 0, 1) := by decide +kernel
theorem d_Mo_broken_247 : decode c_Mo_broken 247 = .ok (.getfield 48, 3) := by decide +kernel
theorem d_Mo_broken_250 : decode c_Mo_broken 250 = .ok (.iload 4, 2) := by decide +kernel
theorem d_Mo_broken_252 : decode c_Mo_broken 252 = .ok (.iaload, 1) := by decide +kernel
theorem d_Mo_broken_253 : decode c_Mo_broken 253 = .ok (.aload_n 0, 1) := by decide +kernel
theorem d_Mo_broken_254 : decode c_Mo_broken 254 = .ok (.getfield 51, 3) := by decide +kernel
theorem d_Mo_broken_257 : decode c_Mo_broken 257 = .ok (.iload 4, 2) := by decide +kernel
theorem d_Mo_broken_259 : decode c_Mo_broken 259 = .ok (.iaload, 1) := by decide +kernel
theorem d_Mo_broken_260 : decode c_Mo_broken 260 = .ok (.if_icmp .eq 5, 3) := by decide +kernel
theorem d_Mo_broken_263 : decode c_Mo_broken 263 = .ok (.iconst 5, 1) := by decide +kernel
theorem d_Mo_broken_264 : decode c_Mo_broken 264 = .ok (.ireturn, 1) := by decide +kernel
theorem d_Mo_broken_265 : decode c_Mo_broken 265 = .ok (.iinc 4 1, 3) := by decide +kernel
theorem d_Mo_broken_268 : decode c_Mo_broken 268 = .ok (.goto (-51), 3) := by decide +kernel
theorem d_Mo_broken_271 : decode c_Mo_broken 271 = .ok (.aload_n 0, 1) := by decide +kernel
theorem d_Mo_broken_272 : decode c_Mo_broken 272 = .ok (.iload_n 3, 1) := by decide +kernel
theorem d_Mo_broken_273 : decode c_Mo_broken 273 = .ok (.putfield 118, 3) := by decide +kernel
theorem d_Mo_broken_276 : decode c_Mo_broken 276 = .ok (.iload_n 3, 1) := by decide +kernel
theorem d_Mo_broken_277 : decode c_Mo_broken 277 = .ok (.ifCond .lt 8, 3) := by decide +kernel
theorem d_Mo_broken_280 : decode c_Mo_broken 280 = .ok (.bipush 6, 2) := by decide +kernel
theorem d_Mo_broken_282 : decode c_Mo_broken 282 = .ok (.goto 4, 3) := by decide +kernel
theorem d_Mo_broken_285 : decode c_Mo_broken 285 = .ok (.iconst 0, 1) := by decide +kernel
theorem d_Mo_broken_286 : decode c_Mo_broken 286 = .ok (.ireturn, 1) := by decide +kernel
theorem d_Mo_lawful_0 : decode c_Mo_lawful 0 = .ok (.aload_n 0, 1) := by decide +kernel
theorem d_Mo_lawful_1 : decode c_Mo_lawful 1 = .ok (.getfield 91, 3) := by decide +kernel
theorem d_Mo_lawful_4 : decode c_Mo_lawful 4 = .ok (.ifCond .ne 8, 3) := by decide +kernel
theorem d_Mo_lawful_7 : decode c_Mo_lawful 7 = .ok (.bipush (-5), 2) := by decide +kernel
theorem d_Mo_lawful_9 : decode c_Mo_lawful 9 = .ok (.goto 8, 3) := by decide +kernel
theorem d_Mo_lawful_12 : decode c_Mo_lawful 12 = .ok (.aload_n 0, 1) := by decide +kernel
theorem d_Mo_lawful_13 : decode c_Mo_lawful 13 = .ok (.iconst 0, 1) := by decide +kernel
theorem d_Mo_lawful_14 : decode c_Mo_lawful 14 = .ok (.invokevirtual 139, 3) := by decide +kernel
theorem d_Mo_lawful_17 : decode c_Mo_lawful 17 = .ok (.ireturn, 1) := by decide +kernel
theorem d_Mo_why_0 : decode c_Mo_why 0 = .ok (.aload_n 0, 1) := by decide +kernel
theorem d_Mo_why_1 : decode c_Mo_why 1 = .ok (.getfield 91, 3) := by decide +kernel
theorem d_Mo_why_4 : decode c_Mo_why 4 = .ok (.ifCond .ne 5, 3) := by decide +kernel
theorem d_Mo_why_7 : decode c_Mo_why 7 = .ok (.iconst (-1), 1) := by decide +kernel
theorem d_Mo_why_8 : decode c_Mo_why 8 = .ok (.ireturn, 1) := by decide +kernel
theorem d_Mo_why_9 : decode c_Mo_why 9 = .ok (.aload_n 0, 1) := by decide +kernel
theorem d_Mo_why_10 : decode c_Mo_why 10 = .ok (.iconst 0, 1) := by decide +kernel
theorem d_Mo_why_11 : decode c_Mo_why 11 = .ok (.invokevirtual 139, 3) := by decide +kernel
theorem d_Mo_why_14 : decode c_Mo_why 14 = .ok (.istore_n 2, 1) := by decide +kernel
theorem d_Mo_why_15 : decode c_Mo_why 15 = .ok (.iload_n 2, 1) := by decide +kernel
theorem d_Mo_why_16 : decode c_Mo_why 16 = .ok (.ifCond .eq 21, 3) := by decide +kernel
theorem d_Mo_why_19 : decode c_Mo_why 19 = .ok (.iload_n 1, 1) := by decide +kernel
theorem d_Mo_why_20 : decode c_Mo_why 20 = .ok (.ifCond .lt 17, 3) := by decide +kernel
theorem d_Mo_why_23 : decode c_Mo_why 23 = .ok (.iload_n 1, 1) := by decide +kernel
theorem d_Mo_why_24 : decode c_Mo_why 24 = .ok (.iload_n 2, 1) := by decide +kernel
theorem d_Mo_why_25 : decode c_Mo_why 25 = .ok (.iconst 2, 1) := by decide +kernel
theorem d_Mo_why_26 : decode c_Mo_why 26 = .ok (.if_icmp .ne 7, 3) := by decide +kernel
theorem d_Mo_why_29 : decode c_Mo_why 29 = .ok (.iconst 2, 1) := by decide +kernel
theorem d_Mo_why_30 : decode c_Mo_why 30 = .ok (.goto 4, 3) := by decide +kernel
theorem d_Mo_why_33 : decode c_Mo_why 33 = .ok (.iconst 0, 1) := by decide +kernel
theorem d_Mo_why_34 : decode c_Mo_why 34 = .ok (.if_icmp .le 5, 3) := by decide +kernel
theorem d_Mo_why_37 : decode c_Mo_why 37 = .ok (.iconst (-1), 1) := by decide +kernel
theorem d_Mo_why_38 : decode c_Mo_why 38 = .ok (.ireturn, 1) := by decide +kernel
theorem d_Mo_why_39 : decode c_Mo_why 39 = .ok (.iload_n 1, 1) := by decide +kernel
theorem d_Mo_why_40 : decode c_Mo_why 40 = .ok (.ifCond .ne 10, 3) := by decide +kernel
theorem d_Mo_why_43 : decode c_Mo_why 43 = .ok (.aload_n 0, 1) := by decide +kernel
theorem d_Mo_why_44 : decode c_Mo_why 44 = .ok (.getfield 118, 3) := by decide +kernel
theorem d_Mo_why_47 : decode c_Mo_why 47 = .ok (.goto 19, 3) := by decide +kernel
theorem d_Mo_why_50 : decode c_Mo_why 50 = .ok (.iload_n 1, 1) := by decide +kernel
theorem d_Mo_why_51 : decode c_Mo_why 51 = .ok (.iconst 1, 1) := by decide +kernel
theorem d_Mo_why_52 : decode c_Mo_why 52 = .ok (.if_icmp .ne 10, 3) := by decide +kernel
theorem d_Mo_why_55 : decode c_Mo_why 55 = .ok (.aload_n 0, 1) := by decide +kernel
theorem d_Mo_why_56 : decode c_Mo_why 56 = .ok (.getfield 127, 3) := by decide +kernel
theorem d_Mo_why_59 : decode c_Mo_why 59 = .ok (.goto 7, 3) := by decide +kernel
theorem d_Mo_why_62 : decode c_Mo_why 62 = .ok (.aload_n 0, 1) := by decide +kernel
theorem d_Mo_why_63 : decode c_Mo_why 63 = .ok (.getfield 130, 3) := by decide +kernel
theorem d_Mo_why_66 : decode c_Mo_why 66 = .ok (.ireturn, 1) := by decide +kernel
theorem d_Mo_put_0 : decode c_Mo_put 0 = .ok (.aload_n 0, 1) := by decide +kernel
theorem d_Mo_put_1 : decode c_Mo_put 1 = .ok (.iload_n 1, 1) := by decide +kernel
theorem d_Mo_put_2 : decode c_Mo_put 2 = .ok (.invokevirtual 94, 3) := by decide +kernel
theorem d_Mo_put_5 : decode c_Mo_put 5 = .ok (.ifCond .eq 17, 3) := by decide +kernel
theorem d_Mo_put_8 : decode c_Mo_put 8 = .ok (.iload_n 2, 1) := by decide +kernel
theorem d_Mo_put_9 : decode c_Mo_put 9 = .ok (.iconst 0, 1) := by decide +kernel
theorem d_Mo_put_10 : decode c_Mo_put 10 = .ok (.aload_n 0, 1) := by decide +kernel
theorem d_Mo_put_11 : decode c_Mo_put 11 = .ok (.getfield 34, 3) := by decide +kernel
theorem d_Mo_put_14 : decode c_Mo_put 14 = .ok (.iconst 1, 1) := by decide +kernel
theorem d_Mo_put_15 : decode c_Mo_put 15 = .ok (.isub, 1) := by decide +kernel
theorem d_Mo_put_16 : decode c_Mo_put 16 = .ok (.invokestatic 87, 3) := by decide +kernel
theorem d_Mo_put_19 : decode c_Mo_put 19 = .ok (.ifCond .ne 5, 3) := by decide +kernel
theorem d_Mo_put_22 : decode c_Mo_put 22 = .ok (.iconst (-1), 1) := by decide +kernel
theorem d_Mo_put_23 : decode c_Mo_put 23 = .ok (.ireturn, 1) := by decide +kernel
theorem d_Mo_put_24 : decode c_Mo_put 24 = .ok (.aload_n 0, 1) := by decide +kernel
theorem d_Mo_put_25 : decode c_Mo_put 25 = .ok (.getfield 51, 3) := by decide +kernel
theorem d_Mo_put_28 : decode c_Mo_put 28 = .ok (.iload_n 1, 1) := by decide +kernel
theorem d_Mo_put_29 : decode c_Mo_put 29 = .ok (.iaload, 1) := by decide +kernel
theorem d_Mo_put_30 : decode c_Mo_put 30 = .ok (.istore_n 3, 1) := by decide +kernel
theorem d_Mo_put_31 : decode c_Mo_put 31 = .ok (.aload_n 0, 1) := by decide +kernel
theorem d_Mo_put_32 : decode c_Mo_put 32 = .ok (.getfield 51, 3) := by decide +kernel
theorem d_Mo_put_35 : decode c_Mo_put 35 = .ok (.iload_n 1, 1) := by decide +kernel
theorem d_Mo_put_36 : decode c_Mo_put 36 = .ok (.iload_n 2, 1) := by decide +kernel
theorem d_Mo_put_37 : decode c_Mo_put 37 = .ok (.iastore, 1) := by decide +kernel
theorem d_Mo_put_38 : decode c_Mo_put 38 = .ok (.iload_n 3, 1) := by decide +kernel
theorem d_Mo_put_39 : decode c_Mo_put 39 = .ok (.ireturn, 1) := by decide +kernel
theorem d_Mo_at_0 : decode c_Mo_at 0 = .ok (.aload_n 0, 1) := by decide +kernel
theorem d_Mo_at_1 : decode c_Mo_at 1 = .ok (.iload_n 1, 1) := by decide +kernel
theorem d_Mo_at_2 : decode c_Mo_at 2 = .ok (.invokevirtual 94, 3) := by decide +kernel
theorem d_Mo_at_5 : decode c_Mo_at 5 = .ok (.ifCond .eq 12, 3) := by decide +kernel
theorem d_Mo_at_8 : decode c_Mo_at 8 = .ok (.aload_n 0, 1) := by decide +kernel
theorem d_Mo_at_9 : decode c_Mo_at 9 = .ok (.getfield 51, 3) := by decide +kernel
theorem d_Mo_at_12 : decode c_Mo_at 12 = .ok (.iload_n 1, 1) := by decide +kernel
theorem d_Mo_at_13 : decode c_Mo_at 13 = .ok (.iaload, 1) := by decide +kernel
theorem d_Mo_at_14 : decode c_Mo_at 14 = .ok (.goto 4, 3) := by decide +kernel
theorem d_Mo_at_17 : decode c_Mo_at 17 = .ok (.iconst (-1), 1) := by decide +kernel
theorem d_Mo_at_18 : decode c_Mo_at 18 = .ok (.ireturn, 1) := by decide +kernel
theorem d_Mo_votesOf_0 : decode c_Mo_votesOf 0 = .ok (.iconst 0, 1) := by decide +kernel
theorem d_Mo_votesOf_1 : decode c_Mo_votesOf 1 = .ok (.istore_n 3, 1) := by decide +kernel
theorem d_Mo_votesOf_2 : decode c_Mo_votesOf 2 = .ok (.iconst 0, 1) := by decide +kernel
theorem d_Mo_votesOf_3 : decode c_Mo_votesOf 3 = .ok (.istore 4, 2) := by decide +kernel
theorem d_Mo_votesOf_5 : decode c_Mo_votesOf 5 = .ok (.iload 4, 2) := by decide +kernel
theorem d_Mo_votesOf_7 : decode c_Mo_votesOf 7 = .ok (.aload_n 0, 1) := by decide +kernel
theorem d_Mo_votesOf_8 : decode c_Mo_votesOf 8 = .ok (.getfield 91, 3) := by decide +kernel
theorem d_Mo_votesOf_11 : decode c_Mo_votesOf 11 = .ok (.if_icmp .ge 38, 3) := by decide +kernel
theorem d_Mo_votesOf_14 : decode c_Mo_votesOf 14 = .ok (.iload_n 3, 1) := by decide +kernel
theorem d_Mo_votesOf_15 : decode c_Mo_votesOf 15 = .ok (.aload_n 0, 1) := by decide +kernel
theorem d_Mo_votesOf_16 : decode c_Mo_votesOf 16 = .ok (.getfield 51, 3) := by decide +kernel
theorem d_Mo_votesOf_19 : decode c_Mo_votesOf 19 = .ok (.iload 4, 2) := by decide +kernel
theorem d_Mo_votesOf_21 : decode c_Mo_votesOf 21 = .ok (.iaload, 1) := by decide +kernel
theorem d_Mo_votesOf_22 : decode c_Mo_votesOf 22 = .ok (.iload_n 1, 1) := by decide +kernel
theorem d_Mo_votesOf_23 : decode c_Mo_votesOf 23 = .ok (.if_icmp .ne 17, 3) := by decide +kernel
theorem d_Mo_votesOf_26 : decode c_Mo_votesOf 26 = .ok (.aload_n 0, 1) := by decide +kernel
theorem d_Mo_votesOf_27 : decode c_Mo_votesOf 27 = .ok (.getfield 13, 3) := by decide +kernel
theorem d_Mo_votesOf_30 : decode c_Mo_votesOf 30 = .ok (.iconst 2, 1) := by decide +kernel
theorem d_Mo_votesOf_31 : decode c_Mo_votesOf 31 = .ok (.iload 4, 2) := by decide +kernel
theorem d_Mo_votesOf_33 : decode c_Mo_votesOf 33 = .ok (.imul, 1) := by decide +kernel
theorem d_Mo_votesOf_34 : decode c_Mo_votesOf 34 = .ok (.iload_n 2, 1) := by decide +kernel
theorem d_Mo_votesOf_35 : decode c_Mo_votesOf 35 = .ok (.iadd, 1) := by decide +kernel
theorem d_Mo_votesOf_36 : decode c_Mo_votesOf 36 = .ok (.iaload, 1) := by decide +kernel
theorem d_Mo_votesOf_37 : decode c_Mo_votesOf 37 = .ok (.goto 4, 3) := by decide +kernel
theorem d_Mo_votesOf_40 : decode c_Mo_votesOf 40 = .ok (.iconst 0, 1) := by decide +kernel
theorem d_Mo_votesOf_41 : decode c_Mo_votesOf 41 = .ok (.iadd, 1) := by decide +kernel
theorem d_Mo_votesOf_42 : decode c_Mo_votesOf 42 = .ok (.istore_n 3, 1) := by decide +kernel
theorem d_Mo_votesOf_43 : decode c_Mo_votesOf 43 = .ok (.iinc 4 1, 3) := by decide +kernel
theorem d_Mo_votesOf_46 : decode c_Mo_votesOf 46 = .ok (.goto (-41), 3) := by decide +kernel
theorem d_Mo_votesOf_49 : decode c_Mo_votesOf 49 = .ok (.iload_n 3, 1) := by decide +kernel
theorem d_Mo_votesOf_50 : decode c_Mo_votesOf 50 = .ok (.ireturn, 1) := by decide +kernel
theorem d_Mo_value_0 : decode c_Mo_value 0 = .ok (.iconst 0, 1) := by decide +kernel
theorem d_Mo_value_1 : decode c_Mo_value 1 = .ok (.istore_n 2, 1) := by decide +kernel
theorem d_Mo_value_2 : decode c_Mo_value 2 = .ok (.iload_n 1, 1) := by decide +kernel
theorem d_Mo_value_3 : decode c_Mo_value 3 = .ok (.ifCond .ne 59, 3) := by decide +kernel
theorem d_Mo_value_6 : decode c_Mo_value 6 = .ok (.iconst 0, 1) := by decide +kernel
theorem d_Mo_value_7 : decode c_Mo_value 7 = .ok (.istore_n 3, 1) := by decide +kernel
theorem d_Mo_value_8 : decode c_Mo_value 8 = .ok (.iload_n 3, 1) := by decide +kernel
theorem d_Mo_value_9 : decode c_Mo_value 9 = .ok (.aload_n 0, 1) := by decide +kernel
theorem d_Mo_value_10 : decode c_Mo_value 10 = .ok (.getfield 102, 3) := by decide +kernel
theorem d_Mo_value_13 : decode c_Mo_value 13 = .ok (.if_icmp .ge 47, 3) := by decide +kernel
theorem d_Mo_value_16 : decode c_Mo_value 16 = .ok (.iload_n 2, 1) := by decide +kernel
theorem d_Mo_value_17 : decode c_Mo_value 17 = .ok (.aload_n 0, 1) := by decide +kernel
theorem d_Mo_value_18 : decode c_Mo_value 18 = .ok (.getfield 51, 3) := by decide +kernel
theorem d_Mo_value_21 : decode c_Mo_value 21 = .ok (.aload_n 0, 1) := by decide +kernel
theorem d_Mo_value_22 : decode c_Mo_value 22 = .ok (.getfield 22, 3) := by decide +kernel
theorem d_Mo_value_25 : decode c_Mo_value 25 = .ok (.iload_n 3, 1) := by decide +kernel
theorem d_Mo_value_26 : decode c_Mo_value 26 = .ok (.iaload, 1) := by decide +kernel
theorem d_Mo_value_27 : decode c_Mo_value 27 = .ok (.iaload, 1) := by decide +kernel
theorem d_Mo_value_28 : decode c_Mo_value 28 = .ok (.aload_n 0, 1) := by decide +kernel
theorem d_Mo_value_29 : decode c_Mo_value 29 = .ok (.getfield 51, 3) := by decide +kernel
theorem d_Mo_value_32 : decode c_Mo_value 32 = .ok (.aload_n 0, 1) := by decide +kernel
theorem d_Mo_value_33 : decode c_Mo_value 33 = .ok (.getfield 25, 3) := by decide +kernel
theorem d_Mo_value_36 : decode c_Mo_value 36 = .ok (.iload_n 3, 1) := by decide +kernel
theorem d_Mo_value_37 : decode c_Mo_value 37 = .ok (.iaload, 1) := by decide +kernel
theorem d_Mo_value_38 : decode c_Mo_value 38 = .ok (.iaload, 1) := by decide +kernel
theorem d_Mo_value_39 : decode c_Mo_value 39 = .ok (.if_icmp .eq 12, 3) := by decide +kernel
theorem d_Mo_value_42 : decode c_Mo_value 42 = .ok (.aload_n 0, 1) := by decide +kernel
theorem d_Mo_value_43 : decode c_Mo_value 43 = .ok (.getfield 28, 3) := by decide +kernel
theorem d_Mo_value_46 : decode c_Mo_value 46 = .ok (.iload_n 3, 1) := by decide +kernel
theorem d_Mo_value_47 : decode c_Mo_value 47 = .ok (.iaload, 1) := by decide +kernel
theorem d_Mo_value_48 : decode c_Mo_value 48 = .ok (.goto 4, 3) := by decide +kernel
theorem d_Mo_value_51 : decode c_Mo_value 51 = .ok (.iconst 0, 1) := by decide +kernel
theorem d_Mo_value_52 : decode c_Mo_value 52 = .ok (.iadd, 1) := by decide +kernel
theorem d_Mo_value_53 : decode c_Mo_value 53 = .ok (.istore_n 2, 1) := by decide +kernel
theorem d_Mo_value_54 : decode c_Mo_value 54 = .ok (.iinc 3 1, 3) := by decide +kernel
theorem d_Mo_value_57 : decode c_Mo_value 57 = .ok (.goto (-49), 3) := by decide +kernel
theorem d_Mo_value_60 : decode c_Mo_value 60 = .ok (.iload_n 2, 1) := by decide +kernel
theorem d_Mo_value_61 : decode c_Mo_value 61 = .ok (.ireturn, 1) := by decide +kernel
theorem d_Mo_value_62 : decode c_Mo_value 62 = .ok (.iload_n 1, 1) := by decide +kernel
theorem d_Mo_value_63 : decode c_Mo_value 63 = .ok (.iconst 1, 1) := by decide +kernel
theorem d_Mo_value_64 : decode c_Mo_value 64 = .ok (.if_icmp .ne 35, 3) := by decide +kernel
theorem d_Mo_value_67 : decode c_Mo_value 67 = .ok (.iconst 0, 1) := by decide +kernel
theorem d_Mo_value_68 : decode c_Mo_value 68 = .ok (.istore_n 3, 1) := by decide +kernel
theorem d_Mo_value_69 : decode c_Mo_value 69 = .ok (.iload_n 3, 1) := by decide +kernel
theorem d_Mo_value_70 : decode c_Mo_value 70 = .ok (.bipush 10, 2) := by decide +kernel
theorem d_Mo_value_72 : decode c_Mo_value 72 = .ok (.if_icmp .ge 25, 3) := by decide +kernel
theorem d_Mo_value_75 : decode c_Mo_value 75 = .ok (.iload_n 2, 1) := by decide +kernel
theorem d_Mo_value_76 : decode c_Mo_value 76 = .ok (.aload_n 0, 1) := by decide +kernel
theorem d_Mo_value_77 : decode c_Mo_value 77 = .ok (.iload_n 3, 1) := by decide +kernel
theorem d_Mo_value_78 : decode c_Mo_value 78 = .ok (.invokevirtual 136, 3) := by decide +kernel
theorem d_Mo_value_81 : decode c_Mo_value 81 = .ok (.ifCond .eq 7, 3) := by decide +kernel
theorem d_Mo_value_84 : decode c_Mo_value 84 = .ok (.iconst 1, 1) := by decide +kernel
theorem d_Mo_value_85 : decode c_Mo_value 85 = .ok (.goto 4, 3) := by decide +kernel
theorem d_Mo_value_88 : decode c_Mo_value 88 = .ok (.iconst 0, 1) := by decide +kernel
theorem d_Mo_value_89 : decode c_Mo_value 89 = .ok (.iadd, 1) := by decide +kernel
theorem d_Mo_value_90 : decode c_Mo_value 90 = .ok (.istore_n 2, 1) := by decide +kernel
theorem d_Mo_value_91 : decode c_Mo_value 91 = .ok (.iinc 3 1, 3) := by decide +kernel
theorem d_Mo_value_94 : decode c_Mo_value 94 = .ok (.goto (-25), 3) := by decide +kernel
theorem d_Mo_value_97 : decode c_Mo_value 97 = .ok (.iload_n 2, 1) := by decide +kernel
theorem d_Mo_value_98 : decode c_Mo_value 98 = .ok (.ireturn, 1) := by decide +kernel
theorem d_Mo_value_99 : decode c_Mo_value 99 = .ok (.ldc 145, 2) := by decide +kernel
theorem d_Mo_value_101 : decode c_Mo_value 101 = .ok (.istore_n 3, 1) := by decide +kernel
theorem d_Mo_value_102 : decode c_Mo_value 102 = .ok (.iconst 0, 1) := by decide +kernel
theorem d_Mo_value_103 : decode c_Mo_value 103 = .ok (.istore 4, 2) := by decide +kernel
theorem d_Mo_value_105 : decode c_Mo_value 105 = .ok (.iconst 0, 1) := by decide +kernel
theorem d_Mo_value_106 : decode c_Mo_value 106 = .ok (.istore 5, 2) := by decide +kernel
theorem d_Mo_value_108 : decode c_Mo_value 108 = .ok (.iload 5, 2) := by decide +kernel
theorem d_Mo_value_110 : decode c_Mo_value 110 = .ok (.aload_n 0, 1) := by decide +kernel
theorem d_Mo_value_111 : decode c_Mo_value 111 = .ok (.getfield 34, 3) := by decide +kernel
theorem d_Mo_value_114 : decode c_Mo_value 114 = .ok (.if_icmp .ge 127, 3) := by decide +kernel
theorem d_Mo_value_117 : decode c_Mo_value 117 = .ok (.aload_n 0, 1) := by decide +kernel
theorem d_Mo_value_118 : decode c_Mo_value 118 = .ok (.aload_n 0, 1) := by decide +kernel
theorem d_Mo_value_119 : decode c_Mo_value 119 = .ok (.iload 5, 2) := by decide +kernel
theorem d_Mo_value_121 : decode c_Mo_value 121 = .ok (.invokevirtual 121, 3) := by decide +kernel
theorem d_Mo_value_124 : decode c_Mo_value 124 = .ok (.invokevirtual 105, 3) := by decide +kernel
theorem d_Mo_value_127 : decode c_Mo_value 127 = .ok (.istore 6, 2) := by decide +kernel
theorem d_Mo_value_129 : decode c_Mo_value 129 = .ok (.iload 6, 2) := by decide +kernel
theorem d_Mo_value_131 : decode c_Mo_value 131 = .ok (.iload_n 3, 1) := by decide +kernel
theorem d_Mo_value_132 : decode c_Mo_value 132 = .ok (.if_icmp .ge 8, 3) := by decide +kernel
theorem d_Mo_value_135 : decode c_Mo_value 135 = .ok (.iload 6, 2) := by decide +kernel
theorem d_Mo_value_137 : decode c_Mo_value 137 = .ok (.goto 4, 3) := by decide +kernel
theorem d_Mo_value_140 : decode c_Mo_value 140 = .ok (.iload_n 3, 1) := by decide +kernel
theorem d_Mo_value_141 : decode c_Mo_value 141 = .ok (.istore_n 3, 1) := by decide +kernel
theorem d_Mo_value_142 : decode c_Mo_value 142 = .ok (.iload 6, 2) := by decide +kernel
theorem d_Mo_value_144 : decode c_Mo_value 144 = .ok (.iload 4, 2) := by decide +kernel
theorem d_Mo_value_146 : decode c_Mo_value 146 = .ok (.if_icmp .le 8, 3) := by decide +kernel
theorem d_Mo_value_149 : decode c_Mo_value 149 = .ok (.iload 6, 2) := by decide +kernel
theorem d_Mo_value_151 : decode c_Mo_value 151 = .ok (.goto 5, 3) := by decide +kernel
theorem d_Mo_value_154 : decode c_Mo_value 154 = .ok (.iload 4, 2) := by decide +kernel
theorem d_Mo_value_156 : decode c_Mo_value 156 = .ok (.istore 4, 2) := by decide +kernel
theorem d_Mo_value_158 : decode c_Mo_value 158 = .ok (.iload_n 1, 1) := by decide +kernel
theorem d_Mo_value_159 : decode c_Mo_value 159 = .ok (.iconst 2, 1) := by decide +kernel
theorem d_Mo_value_160 : decode c_Mo_value 160 = .ok (.irem, 1) := by decide +kernel
theorem d_Mo_value_161 : decode c_Mo_value 161 = .ok (.istore 7, 2) := by decide +kernel
theorem d_Mo_value_163 : decode c_Mo_value 163 = .ok (.aload_n 0, 1) := by decide +kernel
theorem d_Mo_value_164 : decode c_Mo_value 164 = .ok (.iload 5, 2) := by decide +kernel
theorem d_Mo_value_166 : decode c_Mo_value 166 = .ok (.iload 7, 2) := by decide +kernel
theorem d_Mo_value_168 : decode c_Mo_value 168 = .ok (.invokevirtual 146, 3) := by decide +kernel
theorem d_Mo_value_171 : decode c_Mo_value 171 = .ok (.istore 8, 2) := by decide +kernel
theorem d_Mo_value_173 : decode c_Mo_value 173 = .ok (.aload_n 0, 1) := by decide +kernel
theorem d_Mo_value_174 : decode c_Mo_value 174 = .ok (.iload 5, 2) := by decide +kernel
theorem d_Mo_value_176 : decode c_Mo_value 176 = .ok (.iconst 1, 1) := by decide +kernel
theorem d_Mo_value_177 : decode c_Mo_value 177 = .ok (.iload 7, 2) := by decide +kernel
theorem d_Mo_value_179 : decode c_Mo_value 179 = .ok (.isub, 1) := by decide +kernel
theorem d_Mo_value_180 : decode c_Mo_value 180 = .ok (.invokevirtual 146, 3) := by decide +kernel
theorem d_Mo_value_183 : decode c_Mo_value 183 = .ok (.istore 9, 2) := by decide +kernel
theorem d_Mo_value_185 : decode c_Mo_value 185 = .ok (.iload_n 1, 1) := by decide +kernel
theorem d_Mo_value_186 : decode c_Mo_value 186 = .ok (.iconst 4, 1) := by decide +kernel
theorem d_Mo_value_187 : decode c_Mo_value 187 = .ok (.if_icmp .ge 21, 3) := by decide +kernel
theorem d_Mo_value_190 : decode c_Mo_value 190 = .ok (.iload_n 2, 1) := by decide +kernel
theorem d_Mo_value_191 : decode c_Mo_value 191 = .ok (.iload 8, 2) := by decide +kernel
theorem d_Mo_value_193 : decode c_Mo_value 193 = .ok (.iload 9, 2) := by decide +kernel
theorem d_Mo_value_195 : decode c_Mo_value 195 = .ok (.if_icmp .le 7, 3) := by decide +kernel
theorem d_Mo_value_198 : decode c_Mo_value 198 = .ok (.iconst 1, 1) := by decide +kernel
theorem d_Mo_value_199 : decode c_Mo_value 199 = .ok (.goto 4, 3) := by decide +kernel
theorem d_Mo_value_202 : decode c_Mo_value 202 = .ok (.iconst 0, 1) := by decide +kernel
theorem d_Mo_value_203 : decode c_Mo_value 203 = .ok (.iadd, 1) := by decide +kernel
theorem d_Mo_value_204 : decode c_Mo_value 204 = .ok (.istore_n 2, 1) := by decide +kernel
theorem d_Mo_value_205 : decode c_Mo_value 205 = .ok (.goto 30, 3) := by decide +kernel
theorem d_Mo_value_208 : decode c_Mo_value 208 = .ok (.iload_n 2, 1) := by decide +kernel
theorem d_Mo_value_209 : decode c_Mo_value 209 = .ok (.iload 8, 2) := by decide +kernel
theorem d_Mo_value_211 : decode c_Mo_value 211 = .ok (.iload 9, 2) := by decide +kernel
theorem d_Mo_value_213 : decode c_Mo_value 213 = .ok (.if_icmp .le 18, 3) := by decide +kernel
theorem d_Mo_value_216 : decode c_Mo_value 216 = .ok (.iload 8, 2) := by decide +kernel
theorem d_Mo_value_218 : decode c_Mo_value 218 = .ok (.iload 8, 2) := by decide +kernel
theorem d_Mo_value_220 : decode c_Mo_value 220 = .ok (.iload 9, 2) := by decide +kernel
theorem d_Mo_value_222 : decode c_Mo_value 222 = .ok (.iadd, 1) := by decide +kernel
theorem d_Mo_value_223 : decode c_Mo_value 223 = .ok (.iconst 2, 1) := by decide +kernel
theorem d_Mo_value_224 : decode c_Mo_value 224 = .ok (.idiv, 1) := by decide +kernel
theorem d_Mo_value_225 : decode c_Mo_value 225 = .ok (.isub, 1) := by decide +kernel
theorem d_Mo_value_226 : decode c_Mo_value 226 = .ok (.iconst 1, 1) := by decide +kernel
theorem d_Mo_value_227 : decode c_Mo_value 227 = .ok (.isub, 1) := by decide +kernel
theorem d_Mo_value_228 : decode c_Mo_value 228 = .ok (.goto 5, 3) := by decide +kernel
theorem d_Mo_value_231 : decode c_Mo_value 231 = .ok (.iload 8, 2) := by decide +kernel
theorem d_Mo_value_233 : decode c_Mo_value 233 = .ok (.iadd, 1) := by decide +kernel
theorem d_Mo_value_234 : decode c_Mo_value 234 = .ok (.istore_n 2, 1) := by decide +kernel
theorem d_Mo_value_235 : decode c_Mo_value 235 = .ok (.iinc 5 1, 3) := by decide +kernel
theorem d_Mo_value_238 : decode c_Mo_value 238 = .ok (.goto (-130), 3) := by decide +kernel
theorem d_Mo_value_241 : decode c_Mo_value 241 = .ok (.iload_n 1, 1) := by decide +kernel
theorem d_Mo_value_242 : decode c_Mo_value 242 = .ok (.bipush 6, 2) := by decide +kernel
theorem d_Mo_value_244 : decode c_Mo_value 244 = .ok (.if_icmp .ne 10, 3) := by decide +kernel
theorem d_Mo_value_247 : decode c_Mo_value 247 = .ok (.iload 4, 2) := by decide +kernel
theorem d_Mo_value_249 : decode c_Mo_value 249 = .ok (.iload_n 3, 1) := by decide +kernel
theorem d_Mo_value_250 : decode c_Mo_value 250 = .ok (.isub, 1) := by decide +kernel
theorem d_Mo_value_251 : decode c_Mo_value 251 = .ok (.goto 4, 3) := by decide +kernel
theorem d_Mo_value_254 : decode c_Mo_value 254 = .ok (.iload_n 2, 1) := by decide +kernel
theorem d_Mo_value_255 : decode c_Mo_value 255 = .ok (.ireturn, 1) := by decide +kernel
theorem d_Mo_measure_0 : decode c_Mo_measure 0 = .ok (.iload_n 1, 1) := by decide +kernel
theorem d_Mo_measure_1 : decode c_Mo_measure 1 = .ok (.iconst 0, 1) := by decide +kernel
theorem d_Mo_measure_2 : decode c_Mo_measure 2 = .ok (.bipush 6, 2) := by decide +kernel
theorem d_Mo_measure_4 : decode c_Mo_measure 4 = .ok (.invokestatic 87, 3) := by decide +kernel
theorem d_Mo_measure_7 : decode c_Mo_measure 7 = .ok (.ifCond .eq 11, 3) := by decide +kernel
theorem d_Mo_measure_10 : decode c_Mo_measure 10 = .ok (.aload_n 0, 1) := by decide +kernel
theorem d_Mo_measure_11 : decode c_Mo_measure 11 = .ok (.iload_n 1, 1) := by decide +kernel
theorem d_Mo_measure_12 : decode c_Mo_measure 12 = .ok (.invokevirtual 150, 3) := by decide +kernel
theorem d_Mo_measure_15 : decode c_Mo_measure 15 = .ok (.goto 4, 3) := by decide +kernel
theorem d_Mo_measure_18 : decode c_Mo_measure 18 = .ok (.iconst (-1), 1) := by decide +kernel
theorem d_Mo_measure_19 : decode c_Mo_measure 19 = .ok (.ireturn, 1) := by decide +kernel
theorem d_Mo_district_0 : decode c_Mo_district 0 = .ok (.iload_n 1, 1) := by decide +kernel
theorem d_Mo_district_1 : decode c_Mo_district 1 = .ok (.iconst 0, 1) := by decide +kernel
theorem d_Mo_district_2 : decode c_Mo_district 2 = .ok (.aload_n 0, 1) := by decide +kernel
theorem d_Mo_district_3 : decode c_Mo_district 3 = .ok (.getfield 34, 3) := by decide +kernel
theorem d_Mo_district_6 : decode c_Mo_district 6 = .ok (.iconst 1, 1) := by decide +kernel
theorem d_Mo_district_7 : decode c_Mo_district 7 = .ok (.isub, 1) := by decide +kernel
theorem d_Mo_district_8 : decode c_Mo_district 8 = .ok (.invokestatic 87, 3) := by decide +kernel
theorem d_Mo_district_11 : decode c_Mo_district 11 = .ok (.ifCond .eq 13, 3) := by decide +kernel
theorem d_Mo_district_14 : decode c_Mo_district 14 = .ok (.iload_n 2, 1) := by decide +kernel
theorem d_Mo_district_15 : decode c_Mo_district 15 = .ok (.iconst 0, 1) := by decide +kernel
theorem d_Mo_district_16 : decode c_Mo_district 16 = .ok (.bipush 7, 2) := by decide +kernel
theorem d_Mo_district_18 : decode c_Mo_district 18 = .ok (.invokestatic 87, 3) := by decide +kernel
theorem d_Mo_district_21 : decode c_Mo_district 21 = .ok (.ifCond .ne 5, 3) := by decide +kernel
theorem d_Mo_district_24 : decode c_Mo_district 24 = .ok (.iconst (-1), 1) := by decide +kernel
theorem d_Mo_district_25 : decode c_Mo_district 25 = .ok (.ireturn, 1) := by decide +kernel
theorem d_Mo_district_26 : decode c_Mo_district 26 = .ok (.aload_n 0, 1) := by decide +kernel
theorem d_Mo_district_27 : decode c_Mo_district 27 = .ok (.iload_n 1, 1) := by decide +kernel
theorem d_Mo_district_28 : decode c_Mo_district 28 = .ok (.invokevirtual 121, 3) := by decide +kernel
theorem d_Mo_district_31 : decode c_Mo_district 31 = .ok (.istore_n 3, 1) := by decide +kernel
theorem d_Mo_district_32 : decode c_Mo_district 32 = .ok (.iconst 0, 1) := by decide +kernel
theorem d_Mo_district_33 : decode c_Mo_district 33 = .ok (.istore 4, 2) := by decide +kernel
theorem d_Mo_district_35 : decode c_Mo_district 35 = .ok (.iload_n 2, 1) := by decide +kernel
theorem d_Mo_district_36 : decode c_Mo_district 36 = .ok (.tableswitch 153 1 7 #[44, 50, 50, 153, 59, 121, 140], 44) := by decide +kernel
theorem d_Mo_district_80 : decode c_Mo_district 80 = .ok (.aload_n 0, 1) := by decide +kernel
theorem d_Mo_district_81 : decode c_Mo_district 81 = .ok (.iload_n 3, 1) := by decide +kernel
theorem d_Mo_district_82 : decode c_Mo_district 82 = .ok (.invokevirtual 105, 3) := by decide +kernel
theorem d_Mo_district_85 : decode c_Mo_district 85 = .ok (.ireturn, 1) := by decide +kernel
theorem d_Mo_district_86 : decode c_Mo_district 86 = .ok (.aload_n 0, 1) := by decide +kernel
theorem d_Mo_district_87 : decode c_Mo_district 87 = .ok (.iload_n 1, 1) := by decide +kernel
theorem d_Mo_district_88 : decode c_Mo_district 88 = .ok (.iload_n 2, 1) := by decide +kernel
theorem d_Mo_district_89 : decode c_Mo_district 89 = .ok (.iconst 2, 1) := by decide +kernel
theorem d_Mo_district_90 : decode c_Mo_district 90 = .ok (.isub, 1) := by decide +kernel
theorem d_Mo_district_91 : decode c_Mo_district 91 = .ok (.invokevirtual 146, 3) := by decide +kernel
theorem d_Mo_district_94 : decode c_Mo_district 94 = .ok (.ireturn, 1) := by decide +kernel
theorem d_Mo_district_95 : decode c_Mo_district 95 = .ok (.iconst 0, 1) := by decide +kernel
theorem d_Mo_district_96 : decode c_Mo_district 96 = .ok (.istore 5, 2) := by decide +kernel
theorem d_Mo_district_98 : decode c_Mo_district 98 = .ok (.iload 5, 2) := by decide +kernel
theorem d_Mo_district_100 : decode c_Mo_district 100 = .ok (.aload_n 0, 1) := by decide +kernel
theorem d_Mo_district_101 : decode c_Mo_district 101 = .ok (.getfield 102, 3) := by decide +kernel
theorem d_Mo_district_104 : decode c_Mo_district 104 = .ok (.if_icmp .ge 50, 3) := by decide +kernel
theorem d_Mo_district_107 : decode c_Mo_district 107 = .ok (.iload 4, 2) := by decide +kernel
theorem d_Mo_district_109 : decode c_Mo_district 109 = .ok (.iload_n 3, 1) := by decide +kernel
theorem d_Mo_district_110 : decode c_Mo_district 110 = .ok (.aload_n 0, 1) := by decide +kernel
theorem d_Mo_district_111 : decode c_Mo_district 111 = .ok (.getfield 22, 3) := by decide +kernel
theorem d_Mo_district_114 : decode c_Mo_district 114 = .ok (.iload 5, 2) := by decide +kernel
theorem d_Mo_district_116 : decode c_Mo_district 116 = .ok (.iaload, 1) := by decide +kernel
theorem d_Mo_district_117 : decode c_Mo_district 117 = .ok (.invokestatic 98, 3) := by decide +kernel
theorem d_Mo_district_120 : decode c_Mo_district 120 = .ok (.iload_n 3, 1) := by decide +kernel
theorem d_Mo_district_121 : decode c_Mo_district 121 = .ok (.aload_n 0, 1) := by decide +kernel
theorem d_Mo_district_122 : decode c_Mo_district 122 = .ok (.getfield 25, 3) := by decide +kernel
theorem d_Mo_district_125 : decode c_Mo_district 125 = .ok (.iload 5, 2) := by decide +kernel
theorem d_Mo_district_127 : decode c_Mo_district 127 = .ok (.iaload, 1) := by decide +kernel
theorem d_Mo_district_128 : decode c_Mo_district 128 = .ok (.invokestatic 98, 3) := by decide +kernel
theorem d_Mo_district_131 : decode c_Mo_district 131 = .ok (.if_icmp .eq 13, 3) := by decide +kernel
theorem d_Mo_district_134 : decode c_Mo_district 134 = .ok (.aload_n 0, 1) := by decide +kernel
theorem d_Mo_district_135 : decode c_Mo_district 135 = .ok (.getfield 28, 3) := by decide +kernel
theorem d_Mo_district_138 : decode c_Mo_district 138 = .ok (.iload 5, 2) := by decide +kernel
theorem d_Mo_district_140 : decode c_Mo_district 140 = .ok (.iaload, 1) := by decide +kernel
theorem d_Mo_district_141 : decode c_Mo_district 141 = .ok (.goto 4, 3) := by decide +kernel
theorem d_Mo_district_144 : decode c_Mo_district 144 = .ok (.iconst 0, 1) := by decide +kernel
theorem d_Mo_district_145 : decode c_Mo_district 145 = .ok (.iadd, 1) := by decide +kernel
theorem d_Mo_district_146 : decode c_Mo_district 146 = .ok (.istore 4, 2) := by decide +kernel
theorem d_Mo_district_148 : decode c_Mo_district 148 = .ok (.iinc 5 1, 3) := by decide +kernel
theorem d_Mo_district_151 : decode c_Mo_district 151 = .ok (.goto (-53), 3) := by decide +kernel
theorem d_Mo_district_154 : decode c_Mo_district 154 = .ok (.iload 4, 2) := by decide +kernel
theorem d_Mo_district_156 : decode c_Mo_district 156 = .ok (.ireturn, 1) := by decide +kernel
theorem d_Mo_district_157 : decode c_Mo_district 157 = .ok (.iload_n 3, 1) := by decide +kernel
theorem d_Mo_district_158 : decode c_Mo_district 158 = .ok (.ifCond .eq 12, 3) := by decide +kernel
theorem d_Mo_district_161 : decode c_Mo_district 161 = .ok (.aload_n 0, 1) := by decide +kernel
theorem d_Mo_district_162 : decode c_Mo_district 162 = .ok (.iload_n 3, 1) := by decide +kernel
theorem d_Mo_district_163 : decode c_Mo_district 163 = .ok (.invokevirtual 124, 3) := by decide +kernel
theorem d_Mo_district_166 : decode c_Mo_district 166 = .ok (.iload_n 3, 1) := by decide +kernel
theorem d_Mo_district_167 : decode c_Mo_district 167 = .ok (.if_icmp .ne 7, 3) := by decide +kernel
theorem d_Mo_district_170 : decode c_Mo_district 170 = .ok (.iconst 1, 1) := by decide +kernel
theorem d_Mo_district_171 : decode c_Mo_district 171 = .ok (.goto 4, 3) := by decide +kernel
theorem d_Mo_district_174 : decode c_Mo_district 174 = .ok (.iconst 0, 1) := by decide +kernel
theorem d_Mo_district_175 : decode c_Mo_district 175 = .ok (.ireturn, 1) := by decide +kernel
theorem d_Mo_district_176 : decode c_Mo_district 176 = .ok (.iload_n 3, 1) := by decide +kernel
theorem d_Mo_district_177 : decode c_Mo_district 177 = .ok (.ifCond .ne 7, 3) := by decide +kernel
theorem d_Mo_district_180 : decode c_Mo_district 180 = .ok (.iconst (-1), 1) := by decide +kernel
theorem d_Mo_district_181 : decode c_Mo_district 181 = .ok (.goto 7, 3) := by decide +kernel
theorem d_Mo_district_184 : decode c_Mo_district 184 = .ok (.iload_n 3, 1) := by decide +kernel
theorem d_Mo_district_185 : decode c_Mo_district 185 = .ok (.invokestatic 109, 3) := by decide +kernel
theorem d_Mo_district_188 : decode c_Mo_district 188 = .ok (.ireturn, 1) := by decide +kernel
theorem d_Mo_district_189 : decode c_Mo_district 189 = .ok (.iconst 0, 1) := by decide +kernel
theorem d_Mo_district_190 : decode c_Mo_district 190 = .ok (.istore 5, 2) := by decide +kernel
theorem d_Mo_district_192 : decode c_Mo_district 192 = .ok (.iload 5, 2) := by decide +kernel
theorem d_Mo_district_194 : decode c_Mo_district 194 = .ok (.aload_n 0, 1) := by decide +kernel
theorem d_Mo_district_195 : decode c_Mo_district 195 = .ok (.getfield 91, 3) := by decide +kernel
theorem d_Mo_district_198 : decode c_Mo_district 198 = .ok (.if_icmp .ge 42, 3) := by decide +kernel
theorem d_Mo_district_201 : decode c_Mo_district 201 = .ok (.iload 4, 2) := by decide +kernel
theorem d_Mo_district_203 : decode c_Mo_district 203 = .ok (.iload_n 3, 1) := by decide +kernel
theorem d_Mo_district_204 : decode c_Mo_district 204 = .ok (.iload 5, 2) := by decide +kernel
theorem d_Mo_district_206 : decode c_Mo_district 206 = .ok (.invokestatic 98, 3) := by decide +kernel
theorem d_Mo_district_209 : decode c_Mo_district 209 = .ok (.ifCond .ne 7, 3) := by decide +kernel
theorem d_Mo_district_212 : decode c_Mo_district 212 = .ok (.iconst 0, 1) := by decide +kernel
theorem d_Mo_district_213 : decode c_Mo_district 213 = .ok (.goto 18, 3) := by decide +kernel
theorem d_Mo_district_216 : decode c_Mo_district 216 = .ok (.iload_n 2, 1) := by decide +kernel
theorem d_Mo_district_217 : decode c_Mo_district 217 = .ok (.ifCond .ne 7, 3) := by decide +kernel
theorem d_Mo_district_220 : decode c_Mo_district 220 = .ok (.iconst 1, 1) := by decide +kernel
theorem d_Mo_district_221 : decode c_Mo_district 221 = .ok (.goto 10, 3) := by decide +kernel
theorem d_Mo_district_224 : decode c_Mo_district 224 = .ok (.aload_n 0, 1) := by decide +kernel
theorem d_Mo_district_225 : decode c_Mo_district 225 = .ok (.getfield 16, 3) := by decide +kernel
theorem d_Mo_district_228 : decode c_Mo_district 228 = .ok (.iload 5, 2) := by decide +kernel
theorem d_Mo_district_230 : decode c_Mo_district 230 = .ok (.iaload, 1) := by decide +kernel
theorem d_Mo_district_231 : decode c_Mo_district 231 = .ok (.iadd, 1) := by decide +kernel
theorem d_Mo_district_232 : decode c_Mo_district 232 = .ok (.istore 4, 2) := by decide +kernel
theorem d_Mo_district_234 : decode c_Mo_district 234 = .ok (.iinc 5 1, 3) := by decide +kernel
theorem d_Mo_district_237 : decode c_Mo_district 237 = .ok (.goto (-45), 3) := by decide +kernel
theorem d_Mo_district_240 : decode c_Mo_district 240 = .ok (.iload 4, 2) := by decide +kernel
theorem d_Mo_district_242 : decode c_Mo_district 242 = .ok (.ireturn, 1) := by decide +kernel
theorem d_Mo_land_0 : decode c_Mo_land 0 = .ok (.iconst 0, 1) := by decide +kernel
theorem d_Mo_land_1 : decode c_Mo_land 1 = .ok (.istore_n 2, 1) := by decide +kernel
theorem d_Mo_land_2 : decode c_Mo_land 2 = .ok (.iload_n 1, 1) := by decide +kernel
theorem d_Mo_land_3 : decode c_Mo_land 3 = .ok (.tableswitch 106 0 6 #[41, 46, 51, 56, 61, 66, 101], 41) := by decide +kernel
theorem d_Mo_land_44 : decode c_Mo_land 44 = .ok (.aload_n 0, 1) := by decide +kernel
theorem d_Mo_land_45 : decode c_Mo_land 45 = .ok (.getfield 91, 3) := by decide +kernel
theorem d_Mo_land_48 : decode c_Mo_land 48 = .ok (.ireturn, 1) := by decide +kernel
theorem d_Mo_land_49 : decode c_Mo_land 49 = .ok (.aload_n 0, 1) := by decide +kernel
theorem d_Mo_land_50 : decode c_Mo_land 50 = .ok (.getfield 102, 3) := by decide +kernel
theorem d_Mo_land_53 : decode c_Mo_land 53 = .ok (.ireturn, 1) := by decide +kernel
theorem d_Mo_land_54 : decode c_Mo_land 54 = .ok (.aload_n 0, 1) := by decide +kernel
theorem d_Mo_land_55 : decode c_Mo_land 55 = .ok (.invokevirtual 112, 3) := by decide +kernel
theorem d_Mo_land_58 : decode c_Mo_land 58 = .ok (.ireturn, 1) := by decide +kernel
theorem d_Mo_land_59 : decode c_Mo_land 59 = .ok (.aload_n 0, 1) := by decide +kernel
theorem d_Mo_land_60 : decode c_Mo_land 60 = .ok (.getfield 34, 3) := by decide +kernel
theorem d_Mo_land_63 : decode c_Mo_land 63 = .ok (.ireturn, 1) := by decide +kernel
theorem d_Mo_land_64 : decode c_Mo_land 64 = .ok (.aload_n 0, 1) := by decide +kernel
theorem d_Mo_land_65 : decode c_Mo_land 65 = .ok (.getfield 38, 3) := by decide +kernel
theorem d_Mo_land_68 : decode c_Mo_land 68 = .ok (.ireturn, 1) := by decide +kernel
theorem d_Mo_land_69 : decode c_Mo_land 69 = .ok (.iconst 0, 1) := by decide +kernel
theorem d_Mo_land_70 : decode c_Mo_land 70 = .ok (.istore_n 3, 1) := by decide +kernel
theorem d_Mo_land_71 : decode c_Mo_land 71 = .ok (.iload_n 3, 1) := by decide +kernel
theorem d_Mo_land_72 : decode c_Mo_land 72 = .ok (.aload_n 0, 1) := by decide +kernel
theorem d_Mo_land_73 : decode c_Mo_land 73 = .ok (.getfield 91, 3) := by decide +kernel
theorem d_Mo_land_76 : decode c_Mo_land 76 = .ok (.if_icmp .ge 26, 3) := by decide +kernel
theorem d_Mo_land_79 : decode c_Mo_land 79 = .ok (.iload_n 2, 1) := by decide +kernel
theorem d_Mo_land_80 : decode c_Mo_land 80 = .ok (.aload_n 0, 1) := by decide +kernel
theorem d_Mo_land_81 : decode c_Mo_land 81 = .ok (.getfield 48, 3) := by decide +kernel
theorem d_Mo_land_84 : decode c_Mo_land 84 = .ok (.iload_n 3, 1) := by decide +kernel
theorem d_Mo_land_85 : decode c_Mo_land 85 = .ok (.iaload, 1) := by decide +kernel
theorem d_Mo_land_86 : decode c_Mo_land 86 = .ok (.ifCond .lt 7, 3) := by decide +kernel
theorem d_Mo_land_89 : decode c_Mo_land 89 = .ok (.iconst 1, 1) := by decide +kernel
theorem d_Mo_land_90 : decode c_Mo_land 90 = .ok (.goto 4, 3) := by decide +kernel
theorem d_Mo_land_93 : decode c_Mo_land 93 = .ok (.iconst 0, 1) := by decide +kernel
theorem d_Mo_land_94 : decode c_Mo_land 94 = .ok (.iadd, 1) := by decide +kernel
theorem d_Mo_land_95 : decode c_Mo_land 95 = .ok (.istore_n 2, 1) := by decide +kernel
theorem d_Mo_land_96 : decode c_Mo_land 96 = .ok (.iinc 3 1, 3) := by decide +kernel
theorem d_Mo_land_99 : decode c_Mo_land 99 = .ok (.goto (-28), 3) := by decide +kernel
theorem d_Mo_land_102 : decode c_Mo_land 102 = .ok (.iload_n 2, 1) := by decide +kernel
theorem d_Mo_land_103 : decode c_Mo_land 103 = .ok (.ireturn, 1) := by decide +kernel
theorem d_Mo_land_104 : decode c_Mo_land 104 = .ok (.aload_n 0, 1) := by decide +kernel
theorem d_Mo_land_105 : decode c_Mo_land 105 = .ok (.getfield 45, 3) := by decide +kernel
theorem d_Mo_land_108 : decode c_Mo_land 108 = .ok (.ireturn, 1) := by decide +kernel
theorem d_Mo_land_109 : decode c_Mo_land 109 = .ok (.iconst (-1), 1) := by decide +kernel
theorem d_Mo_land_110 : decode c_Mo_land 110 = .ok (.ireturn, 1) := by decide +kernel
theorem d_Mo_part_0 : decode c_Mo_part 0 = .ok (.iload_n 1, 1) := by decide +kernel
theorem d_Mo_part_1 : decode c_Mo_part 1 = .ok (.aload_n 0, 1) := by decide +kernel
theorem d_Mo_part_2 : decode c_Mo_part 2 = .ok (.getfield 34, 3) := by decide +kernel
theorem d_Mo_part_5 : decode c_Mo_part 5 = .ok (.if_icmp .ne 12, 3) := by decide +kernel
theorem d_Mo_part_8 : decode c_Mo_part 8 = .ok (.iload_n 2, 1) := by decide +kernel
theorem d_Mo_part_9 : decode c_Mo_part 9 = .ok (.ifCond .ne 7, 3) := by decide +kernel
theorem d_Mo_part_12 : decode c_Mo_part 12 = .ok (.aload_n 0, 1) := by decide +kernel
theorem d_Mo_part_13 : decode c_Mo_part 13 = .ok (.invokevirtual 153, 3) := by decide +kernel
theorem d_Mo_part_16 : decode c_Mo_part 16 = .ok (.return_, 1) := by decide +kernel
theorem d_Mo_part_17 : decode c_Mo_part 17 = .ok (.iload_n 2, 1) := by decide +kernel
theorem d_Mo_part_18 : decode c_Mo_part 18 = .ok (.ifCond .eq 20, 3) := by decide +kernel
theorem d_Mo_part_21 : decode c_Mo_part 21 = .ok (.iload_n 2, 1) := by decide +kernel
theorem d_Mo_part_22 : decode c_Mo_part 22 = .ok (.invokestatic 109, 3) := by decide +kernel
theorem d_Mo_part_25 : decode c_Mo_part 25 = .ok (.istore_n 3, 1) := by decide +kernel
theorem d_Mo_part_26 : decode c_Mo_part 26 = .ok (.aload_n 0, 1) := by decide +kernel
theorem d_Mo_part_27 : decode c_Mo_part 27 = .ok (.iload_n 1, 1) := by decide +kernel
theorem d_Mo_part_28 : decode c_Mo_part 28 = .ok (.iconst 1, 1) := by decide +kernel
theorem d_Mo_part_29 : decode c_Mo_part 29 = .ok (.iload_n 3, 1) := by decide +kernel
theorem d_Mo_part_30 : decode c_Mo_part 30 = .ok (.ishl, 1) := by decide +kernel
theorem d_Mo_part_31 : decode c_Mo_part 31 = .ok (.iload_n 3, 1) := by decide +kernel
theorem d_Mo_part_32 : decode c_Mo_part 32 = .ok (.iconst 1, 1) := by decide +kernel
theorem d_Mo_part_33 : decode c_Mo_part 33 = .ok (.iadd, 1) := by decide +kernel
theorem d_Mo_part_34 : decode c_Mo_part 34 = .ok (.iload_n 2, 1) := by decide +kernel
theorem d_Mo_part_35 : decode c_Mo_part 35 = .ok (.invokevirtual 156, 3) := by decide +kernel
theorem d_Mo_part_38 : decode c_Mo_part 38 = .ok (.return_, 1) := by decide +kernel
theorem d_Mo_grow_0 : decode c_Mo_grow 0 = .ok (.iload_n 3, 1) := by decide +kernel
theorem d_Mo_grow_1 : decode c_Mo_grow 1 = .ok (.aload_n 0, 1) := by decide +kernel
theorem d_Mo_grow_2 : decode c_Mo_grow 2 = .ok (.getfield 91, 3) := by decide +kernel
theorem d_Mo_grow_5 : decode c_Mo_grow 5 = .ok (.if_icmp .ne 41, 3) := by decide +kernel
theorem d_Mo_grow_8 : decode c_Mo_grow 8 = .ok (.aload_n 0, 1) := by decide +kernel
theorem d_Mo_grow_9 : decode c_Mo_grow 9 = .ok (.iload_n 2, 1) := by decide +kernel
theorem d_Mo_grow_10 : decode c_Mo_grow 10 = .ok (.invokevirtual 124, 3) := by decide +kernel
theorem d_Mo_grow_13 : decode c_Mo_grow 13 = .ok (.iload_n 2, 1) := by decide +kernel
theorem d_Mo_grow_14 : decode c_Mo_grow 14 = .ok (.if_icmp .ne 31, 3) := by decide +kernel
theorem d_Mo_grow_17 : decode c_Mo_grow 17 = .ok (.aload_n 0, 1) := by decide +kernel
theorem d_Mo_grow_18 : decode c_Mo_grow 18 = .ok (.iload_n 2, 1) := by decide +kernel
theorem d_Mo_grow_19 : decode c_Mo_grow 19 = .ok (.invokevirtual 133, 3) := by decide +kernel
theorem d_Mo_grow_22 : decode c_Mo_grow 22 = .ok (.ifCond .eq 23, 3) := by decide +kernel
theorem d_Mo_grow_25 : decode c_Mo_grow 25 = .ok (.aload_n 0, 1) := by decide +kernel
theorem d_Mo_grow_26 : decode c_Mo_grow 26 = .ok (.getfield 75, 3) := by decide +kernel
theorem d_Mo_grow_29 : decode c_Mo_grow 29 = .ok (.iload_n 1, 1) := by decide +kernel
theorem d_Mo_grow_30 : decode c_Mo_grow 30 = .ok (.iload_n 2, 1) := by decide +kernel
theorem d_Mo_grow_31 : decode c_Mo_grow 31 = .ok (.iastore, 1) := by decide +kernel
theorem d_Mo_grow_32 : decode c_Mo_grow 32 = .ok (.aload_n 0, 1) := by decide +kernel
theorem d_Mo_grow_33 : decode c_Mo_grow 33 = .ok (.iload_n 1, 1) := by decide +kernel
theorem d_Mo_grow_34 : decode c_Mo_grow 34 = .ok (.iconst 1, 1) := by decide +kernel
theorem d_Mo_grow_35 : decode c_Mo_grow 35 = .ok (.iadd, 1) := by decide +kernel
theorem d_Mo_grow_36 : decode c_Mo_grow 36 = .ok (.iload 4, 2) := by decide +kernel
theorem d_Mo_grow_38 : decode c_Mo_grow 38 = .ok (.iload_n 2, 1) := by decide +kernel
theorem d_Mo_grow_39 : decode c_Mo_grow 39 = .ok (.iconst (-1), 1) := by decide +kernel
theorem d_Mo_grow_40 : decode c_Mo_grow 40 = .ok (.ixor, 1) := by decide +kernel
theorem d_Mo_grow_41 : decode c_Mo_grow 41 = .ok (.iand, 1) := by decide +kernel
theorem d_Mo_grow_42 : decode c_Mo_grow 42 = .ok (.invokevirtual 160, 3) := by decide +kernel
theorem d_Mo_grow_45 : decode c_Mo_grow 45 = .ok (.return_, 1) := by decide +kernel
theorem d_Mo_grow_46 : decode c_Mo_grow 46 = .ok (.iload 4, 2) := by decide +kernel
theorem d_Mo_grow_48 : decode c_Mo_grow 48 = .ok (.iload_n 3, 1) := by decide +kernel
theorem d_Mo_grow_49 : decode c_Mo_grow 49 = .ok (.invokestatic 98, 3) := by decide +kernel
theorem d_Mo_grow_52 : decode c_Mo_grow 52 = .ok (.ifCond .eq 18, 3) := by decide +kernel
theorem d_Mo_grow_55 : decode c_Mo_grow 55 = .ok (.aload_n 0, 1) := by decide +kernel
theorem d_Mo_grow_56 : decode c_Mo_grow 56 = .ok (.iload_n 1, 1) := by decide +kernel
theorem d_Mo_grow_57 : decode c_Mo_grow 57 = .ok (.iload_n 2, 1) := by decide +kernel
theorem d_Mo_grow_58 : decode c_Mo_grow 58 = .ok (.iconst 1, 1) := by decide +kernel
theorem d_Mo_grow_59 : decode c_Mo_grow 59 = .ok (.iload_n 3, 1) := by decide +kernel
theorem d_Mo_grow_60 : decode c_Mo_grow 60 = .ok (.ishl, 1) := by decide +kernel
theorem d_Mo_grow_61 : decode c_Mo_grow 61 = .ok (.ior, 1) := by decide +kernel
theorem d_Mo_grow_62 : decode c_Mo_grow 62 = .ok (.iload_n 3, 1) := by decide +kernel
theorem d_Mo_grow_63 : decode c_Mo_grow 63 = .ok (.iconst 1, 1) := by decide +kernel
theorem d_Mo_grow_64 : decode c_Mo_grow 64 = .ok (.iadd, 1) := by decide +kernel
theorem d_Mo_grow_65 : decode c_Mo_grow 65 = .ok (.iload 4, 2) := by decide +kernel
theorem d_Mo_grow_67 : decode c_Mo_grow 67 = .ok (.invokevirtual 156, 3) := by decide +kernel
theorem d_Mo_grow_70 : decode c_Mo_grow 70 = .ok (.aload_n 0, 1) := by decide +kernel
theorem d_Mo_grow_71 : decode c_Mo_grow 71 = .ok (.iload_n 1, 1) := by decide +kernel
theorem d_Mo_grow_72 : decode c_Mo_grow 72 = .ok (.iload_n 2, 1) := by decide +kernel
theorem d_Mo_grow_73 : decode c_Mo_grow 73 = .ok (.iload_n 3, 1) := by decide +kernel
theorem d_Mo_grow_74 : decode c_Mo_grow 74 = .ok (.iconst 1, 1) := by decide +kernel
theorem d_Mo_grow_75 : decode c_Mo_grow 75 = .ok (.iadd, 1) := by decide +kernel
theorem d_Mo_grow_76 : decode c_Mo_grow 76 = .ok (.iload 4, 2) := by decide +kernel
theorem d_Mo_grow_78 : decode c_Mo_grow 78 = .ok (.invokevirtual 156, 3) := by decide +kernel
theorem d_Mo_grow_81 : decode c_Mo_grow 81 = .ok (.return_, 1) := by decide +kernel
theorem d_Mo_whole_0 : decode c_Mo_whole 0 = .ok (.iconst 0, 1) := by decide +kernel
theorem d_Mo_whole_1 : decode c_Mo_whole 1 = .ok (.istore_n 1, 1) := by decide +kernel
end
section
theorem d_Mo_whole_2 : decode c_Mo_whole 2 = .ok (.iload_n 1, 1) := by decide +kernel
theorem d_Mo_whole_3 : decode c_Mo_whole 3 = .ok (.aload_n 0, 1) := by decide +kernel
theorem d_Mo_whole_4 : decode c_Mo_whole 4 = .ok (.getfield 34, 3) := by decide +kernel
theorem d_Mo_whole_7 : decode c_Mo_whole 7 = .ok (.if_icmp .ge 54, 3) := by decide +kernel
theorem d_Mo_whole_10 : decode c_Mo_whole 10 = .ok (.iconst 0, 1) := by decide +kernel
theorem d_Mo_whole_11 : decode c_Mo_whole 11 = .ok (.istore_n 2, 1) := by decide +kernel
theorem d_Mo_whole_12 : decode c_Mo_whole 12 = .ok (.iload_n 2, 1) := by decide +kernel
theorem d_Mo_whole_13 : decode c_Mo_whole 13 = .ok (.aload_n 0, 1) := by decide +kernel
theorem d_Mo_whole_14 : decode c_Mo_whole 14 = .ok (.getfield 91, 3) := by decide +kernel
theorem d_Mo_whole_17 : decode c_Mo_whole 17 = .ok (.if_icmp .ge 38, 3) := by decide +kernel
theorem d_Mo_whole_20 : decode c_Mo_whole 20 = .ok (.aload_n 0, 1) := by decide +kernel
theorem d_Mo_whole_21 : decode c_Mo_whole 21 = .ok (.getfield 51, 3) := by decide +kernel
theorem d_Mo_whole_24 : decode c_Mo_whole 24 = .ok (.iload_n 2, 1) := by decide +kernel
theorem d_Mo_whole_25 : decode c_Mo_whole 25 = .ok (.aload_n 0, 1) := by decide +kernel
theorem d_Mo_whole_26 : decode c_Mo_whole 26 = .ok (.getfield 75, 3) := by decide +kernel
theorem d_Mo_whole_29 : decode c_Mo_whole 29 = .ok (.iload_n 1, 1) := by decide +kernel
theorem d_Mo_whole_30 : decode c_Mo_whole 30 = .ok (.iaload, 1) := by decide +kernel
theorem d_Mo_whole_31 : decode c_Mo_whole 31 = .ok (.iload_n 2, 1) := by decide +kernel
theorem d_Mo_whole_32 : decode c_Mo_whole 32 = .ok (.invokestatic 98, 3) := by decide +kernel
theorem d_Mo_whole_35 : decode c_Mo_whole 35 = .ok (.ifCond .eq 7, 3) := by decide +kernel
theorem d_Mo_whole_38 : decode c_Mo_whole 38 = .ok (.iload_n 1, 1) := by decide +kernel
theorem d_Mo_whole_39 : decode c_Mo_whole 39 = .ok (.goto 9, 3) := by decide +kernel
theorem d_Mo_whole_42 : decode c_Mo_whole 42 = .ok (.aload_n 0, 1) := by decide +kernel
theorem d_Mo_whole_43 : decode c_Mo_whole 43 = .ok (.getfield 51, 3) := by decide +kernel
theorem d_Mo_whole_46 : decode c_Mo_whole 46 = .ok (.iload_n 2, 1) := by decide +kernel
theorem d_Mo_whole_47 : decode c_Mo_whole 47 = .ok (.iaload, 1) := by decide +kernel
theorem d_Mo_whole_48 : decode c_Mo_whole 48 = .ok (.iastore, 1) := by decide +kernel
theorem d_Mo_whole_49 : decode c_Mo_whole 49 = .ok (.iinc 2 1, 3) := by decide +kernel
theorem d_Mo_whole_52 : decode c_Mo_whole 52 = .ok (.goto (-40), 3) := by decide +kernel
theorem d_Mo_whole_55 : decode c_Mo_whole 55 = .ok (.iinc 1 1, 3) := by decide +kernel
theorem d_Mo_whole_58 : decode c_Mo_whole 58 = .ok (.goto (-56), 3) := by decide +kernel
theorem d_Mo_whole_61 : decode c_Mo_whole 61 = .ok (.aload_n 0, 1) := by decide +kernel
theorem d_Mo_whole_62 : decode c_Mo_whole 62 = .ok (.iconst 1, 1) := by decide +kernel
theorem d_Mo_whole_63 : decode c_Mo_whole 63 = .ok (.invokevirtual 139, 3) := by decide +kernel
theorem d_Mo_whole_66 : decode c_Mo_whole 66 = .ok (.ifCond .eq 4, 3) := by decide +kernel
theorem d_Mo_whole_69 : decode c_Mo_whole 69 = .ok (.return_, 1) := by decide +kernel
theorem d_Mo_whole_70 : decode c_Mo_whole 70 = .ok (.iconst 1, 1) := by decide +kernel
theorem d_Mo_whole_71 : decode c_Mo_whole 71 = .ok (.istore_n 1, 1) := by decide +kernel
theorem d_Mo_whole_72 : decode c_Mo_whole 72 = .ok (.iconst 0, 1) := by decide +kernel
theorem d_Mo_whole_73 : decode c_Mo_whole 73 = .ok (.istore_n 2, 1) := by decide +kernel
theorem d_Mo_whole_74 : decode c_Mo_whole 74 = .ok (.iload_n 2, 1) := by decide +kernel
theorem d_Mo_whole_75 : decode c_Mo_whole 75 = .ok (.aload_n 0, 1) := by decide +kernel
theorem d_Mo_whole_76 : decode c_Mo_whole 76 = .ok (.getfield 34, 3) := by decide +kernel
theorem d_Mo_whole_79 : decode c_Mo_whole 79 = .ok (.if_icmp .ge 34, 3) := by decide +kernel
theorem d_Mo_whole_82 : decode c_Mo_whole 82 = .ok (.iload_n 1, 1) := by decide +kernel
theorem d_Mo_whole_83 : decode c_Mo_whole 83 = .ok (.ifCond .eq 22, 3) := by decide +kernel
theorem d_Mo_whole_86 : decode c_Mo_whole 86 = .ok (.aload_n 0, 1) := by decide +kernel
theorem d_Mo_whole_87 : decode c_Mo_whole 87 = .ok (.getfield 75, 3) := by decide +kernel
theorem d_Mo_whole_90 : decode c_Mo_whole 90 = .ok (.iload_n 2, 1) := by decide +kernel
theorem d_Mo_whole_91 : decode c_Mo_whole 91 = .ok (.iaload, 1) := by decide +kernel
theorem d_Mo_whole_92 : decode c_Mo_whole 92 = .ok (.aload_n 0, 1) := by decide +kernel
theorem d_Mo_whole_93 : decode c_Mo_whole 93 = .ok (.getfield 78, 3) := by decide +kernel
theorem d_Mo_whole_96 : decode c_Mo_whole 96 = .ok (.iload_n 2, 1) := by decide +kernel
theorem d_Mo_whole_97 : decode c_Mo_whole 97 = .ok (.iaload, 1) := by decide +kernel
theorem d_Mo_whole_98 : decode c_Mo_whole 98 = .ok (.if_icmp .ne 7, 3) := by decide +kernel
theorem d_Mo_whole_101 : decode c_Mo_whole 101 = .ok (.iconst 1, 1) := by decide +kernel
theorem d_Mo_whole_102 : decode c_Mo_whole 102 = .ok (.goto 4, 3) := by decide +kernel
theorem d_Mo_whole_105 : decode c_Mo_whole 105 = .ok (.iconst 0, 1) := by decide +kernel
theorem d_Mo_whole_106 : decode c_Mo_whole 106 = .ok (.istore_n 1, 1) := by decide +kernel
theorem d_Mo_whole_107 : decode c_Mo_whole 107 = .ok (.iinc 2 1, 3) := by decide +kernel
theorem d_Mo_whole_110 : decode c_Mo_whole 110 = .ok (.goto (-36), 3) := by decide +kernel
theorem d_Mo_whole_113 : decode c_Mo_whole 113 = .ok (.aload_n 0, 1) := by decide +kernel
theorem d_Mo_whole_114 : decode c_Mo_whole 114 = .ok (.iload_n 1, 1) := by decide +kernel
theorem d_Mo_whole_115 : decode c_Mo_whole 115 = .ok (.ifCond .eq 10, 3) := by decide +kernel
theorem d_Mo_whole_118 : decode c_Mo_whole 118 = .ok (.aload_n 0, 1) := by decide +kernel
theorem d_Mo_whole_119 : decode c_Mo_whole 119 = .ok (.getfield 164, 3) := by decide +kernel
theorem d_Mo_whole_122 : decode c_Mo_whole 122 = .ok (.goto 7, 3) := by decide +kernel
theorem d_Mo_whole_125 : decode c_Mo_whole 125 = .ok (.aload_n 0, 1) := by decide +kernel
theorem d_Mo_whole_126 : decode c_Mo_whole 126 = .ok (.getfield 167, 3) := by decide +kernel
theorem d_Mo_whole_129 : decode c_Mo_whole 129 = .ok (.putfield 167, 3) := by decide +kernel
theorem d_Mo_whole_132 : decode c_Mo_whole 132 = .ok (.aload_n 0, 1) := by decide +kernel
theorem d_Mo_whole_133 : decode c_Mo_whole 133 = .ok (.getfield 164, 3) := by decide +kernel
theorem d_Mo_whole_136 : decode c_Mo_whole 136 = .ok (.aload_n 0, 1) := by decide +kernel
theorem d_Mo_whole_137 : decode c_Mo_whole 137 = .ok (.getfield 170, 3) := by decide +kernel
theorem d_Mo_whole_140 : decode c_Mo_whole 140 = .ok (.if_icmp .ne 31, 3) := by decide +kernel
theorem d_Mo_whole_143 : decode c_Mo_whole 143 = .ok (.iconst 0, 1) := by decide +kernel
theorem d_Mo_whole_144 : decode c_Mo_whole 144 = .ok (.istore_n 2, 1) := by decide +kernel
theorem d_Mo_whole_145 : decode c_Mo_whole 145 = .ok (.iload_n 2, 1) := by decide +kernel
theorem d_Mo_whole_146 : decode c_Mo_whole 146 = .ok (.aload_n 0, 1) := by decide +kernel
theorem d_Mo_whole_147 : decode c_Mo_whole 147 = .ok (.getfield 34, 3) := by decide +kernel
theorem d_Mo_whole_150 : decode c_Mo_whole 150 = .ok (.if_icmp .ge 21, 3) := by decide +kernel
theorem d_Mo_whole_153 : decode c_Mo_whole 153 = .ok (.aload_n 0, 1) := by decide +kernel
theorem d_Mo_whole_154 : decode c_Mo_whole 154 = .ok (.getfield 84, 3) := by decide +kernel
theorem d_Mo_whole_157 : decode c_Mo_whole 157 = .ok (.iload_n 2, 1) := by decide +kernel
theorem d_Mo_whole_158 : decode c_Mo_whole 158 = .ok (.aload_n 0, 1) := by decide +kernel
theorem d_Mo_whole_159 : decode c_Mo_whole 159 = .ok (.getfield 75, 3) := by decide +kernel
theorem d_Mo_whole_162 : decode c_Mo_whole 162 = .ok (.iload_n 2, 1) := by decide +kernel
theorem d_Mo_whole_163 : decode c_Mo_whole 163 = .ok (.iaload, 1) := by decide +kernel
theorem d_Mo_whole_164 : decode c_Mo_whole 164 = .ok (.iastore, 1) := by decide +kernel
theorem d_Mo_whole_165 : decode c_Mo_whole 165 = .ok (.iinc 2 1, 3) := by decide +kernel
theorem d_Mo_whole_168 : decode c_Mo_whole 168 = .ok (.goto (-23), 3) := by decide +kernel
theorem d_Mo_whole_171 : decode c_Mo_whole 171 = .ok (.aload_n 0, 1) := by decide +kernel
theorem d_Mo_whole_172 : decode c_Mo_whole 172 = .ok (.getfield 173, 3) := by decide +kernel
theorem d_Mo_whole_175 : decode c_Mo_whole 175 = .ok (.ifCond .lt 73, 3) := by decide +kernel
theorem d_Mo_whole_178 : decode c_Mo_whole 178 = .ok (.aload_n 0, 1) := by decide +kernel
theorem d_Mo_whole_179 : decode c_Mo_whole 179 = .ok (.aload_n 0, 1) := by decide +kernel
theorem d_Mo_whole_180 : decode c_Mo_whole 180 = .ok (.getfield 173, 3) := by decide +kernel
theorem d_Mo_whole_183 : decode c_Mo_whole 183 = .ok (.invokevirtual 150, 3) := by decide +kernel
theorem d_Mo_whole_186 : decode c_Mo_whole 186 = .ok (.istore_n 2, 1) := by decide +kernel
theorem d_Mo_whole_187 : decode c_Mo_whole 187 = .ok (.aload_n 0, 1) := by decide +kernel
theorem d_Mo_whole_188 : decode c_Mo_whole 188 = .ok (.aload_n 0, 1) := by decide +kernel
theorem d_Mo_whole_189 : decode c_Mo_whole 189 = .ok (.getfield 164, 3) := by decide +kernel
theorem d_Mo_whole_192 : decode c_Mo_whole 192 = .ok (.ifCond .eq 11, 3) := by decide +kernel
theorem d_Mo_whole_195 : decode c_Mo_whole 195 = .ok (.iload_n 2, 1) := by decide +kernel
theorem d_Mo_whole_196 : decode c_Mo_whole 196 = .ok (.aload_n 0, 1) := by decide +kernel
theorem d_Mo_whole_197 : decode c_Mo_whole 197 = .ok (.getfield 176, 3) := by decide +kernel
theorem d_Mo_whole_200 : decode c_Mo_whole 200 = .ok (.if_icmp .ge 7, 3) := by decide +kernel
theorem d_Mo_whole_203 : decode c_Mo_whole 203 = .ok (.iload_n 2, 1) := by decide +kernel
theorem d_Mo_whole_204 : decode c_Mo_whole 204 = .ok (.goto 7, 3) := by decide +kernel
theorem d_Mo_whole_207 : decode c_Mo_whole 207 = .ok (.aload_n 0, 1) := by decide +kernel
theorem d_Mo_whole_208 : decode c_Mo_whole 208 = .ok (.getfield 176, 3) := by decide +kernel
theorem d_Mo_whole_211 : decode c_Mo_whole 211 = .ok (.putfield 176, 3) := by decide +kernel
theorem d_Mo_whole_214 : decode c_Mo_whole 214 = .ok (.aload_n 0, 1) := by decide +kernel
theorem d_Mo_whole_215 : decode c_Mo_whole 215 = .ok (.getfield 81, 3) := by decide +kernel
theorem d_Mo_whole_218 : decode c_Mo_whole 218 = .ok (.iload_n 2, 1) := by decide +kernel
theorem d_Mo_whole_219 : decode c_Mo_whole 219 = .ok (.aload_n 0, 1) := by decide +kernel
theorem d_Mo_whole_220 : decode c_Mo_whole 220 = .ok (.getfield 179, 3) := by decide +kernel
theorem d_Mo_whole_223 : decode c_Mo_whole 223 = .ok (.if_icmp .ge 7, 3) := by decide +kernel
theorem d_Mo_whole_226 : decode c_Mo_whole 226 = .ok (.iconst 0, 1) := by decide +kernel
theorem d_Mo_whole_227 : decode c_Mo_whole 227 = .ok (.goto 16, 3) := by decide +kernel
theorem d_Mo_whole_230 : decode c_Mo_whole 230 = .ok (.iload_n 2, 1) := by decide +kernel
theorem d_Mo_whole_231 : decode c_Mo_whole 231 = .ok (.aload_n 0, 1) := by decide +kernel
theorem d_Mo_whole_232 : decode c_Mo_whole 232 = .ok (.getfield 179, 3) := by decide +kernel
theorem d_Mo_whole_235 : decode c_Mo_whole 235 = .ok (.if_icmp .ne 7, 3) := by decide +kernel
theorem d_Mo_whole_238 : decode c_Mo_whole 238 = .ok (.iconst 1, 1) := by decide +kernel
theorem d_Mo_whole_239 : decode c_Mo_whole 239 = .ok (.goto 4, 3) := by decide +kernel
theorem d_Mo_whole_242 : decode c_Mo_whole 242 = .ok (.iconst 2, 1) := by decide +kernel
theorem d_Mo_whole_243 : decode c_Mo_whole 243 = .ok (.dup2, 1) := by decide +kernel
theorem d_Mo_whole_244 : decode c_Mo_whole 244 = .ok (.iaload, 1) := by decide +kernel
theorem d_Mo_whole_245 : decode c_Mo_whole 245 = .ok (.iconst 1, 1) := by decide +kernel
theorem d_Mo_whole_246 : decode c_Mo_whole 246 = .ok (.iadd, 1) := by decide +kernel
theorem d_Mo_whole_247 : decode c_Mo_whole 247 = .ok (.iastore, 1) := by decide +kernel
theorem d_Mo_whole_248 : decode c_Mo_whole 248 = .ok (.aload_n 0, 1) := by decide +kernel
theorem d_Mo_whole_249 : decode c_Mo_whole 249 = .ok (.dup, 1) := by decide +kernel
theorem d_Mo_whole_250 : decode c_Mo_whole 250 = .ok (.getfield 164, 3) := by decide +kernel
theorem d_Mo_whole_253 : decode c_Mo_whole 253 = .ok (.iconst 1, 1) := by decide +kernel
theorem d_Mo_whole_254 : decode c_Mo_whole 254 = .ok (.iadd, 1) := by decide +kernel
theorem d_Mo_whole_255 : decode c_Mo_whole 255 = .ok (.putfield 164, 3) := by decide +kernel
theorem d_Mo_whole_258 : decode c_Mo_whole 258 = .ok (.return_, 1) := by decide +kernel
theorem d_Mo_goThrough_0 : decode c_Mo_goThrough 0 = .ok (.iconst 0, 1) := by decide +kernel
theorem d_Mo_goThrough_1 : decode c_Mo_goThrough 1 = .ok (.istore_n 3, 1) := by decide +kernel
theorem d_Mo_goThrough_2 : decode c_Mo_goThrough 2 = .ok (.iconst 1, 1) := by decide +kernel
theorem d_Mo_goThrough_3 : decode c_Mo_goThrough 3 = .ok (.aload_n 0, 1) := by decide +kernel
theorem d_Mo_goThrough_4 : decode c_Mo_goThrough 4 = .ok (.getfield 91, 3) := by decide +kernel
theorem d_Mo_goThrough_7 : decode c_Mo_goThrough 7 = .ok (.ishl, 1) := by decide +kernel
theorem d_Mo_goThrough_8 : decode c_Mo_goThrough 8 = .ok (.iconst 1, 1) := by decide +kernel
theorem d_Mo_goThrough_9 : decode c_Mo_goThrough 9 = .ok (.isub, 1) := by decide +kernel
theorem d_Mo_goThrough_10 : decode c_Mo_goThrough 10 = .ok (.istore 4, 2) := by decide +kernel
theorem d_Mo_goThrough_12 : decode c_Mo_goThrough 12 = .ok (.iconst 0, 1) := by decide +kernel
theorem d_Mo_goThrough_13 : decode c_Mo_goThrough 13 = .ok (.istore 5, 2) := by decide +kernel
theorem d_Mo_goThrough_15 : decode c_Mo_goThrough 15 = .ok (.iload 5, 2) := by decide +kernel
theorem d_Mo_goThrough_17 : decode c_Mo_goThrough 17 = .ok (.bipush 6, 2) := by decide +kernel
theorem d_Mo_goThrough_19 : decode c_Mo_goThrough 19 = .ok (.if_icmp .ge 17, 3) := by decide +kernel
theorem d_Mo_goThrough_22 : decode c_Mo_goThrough 22 = .ok (.aload_n 0, 1) := by decide +kernel
theorem d_Mo_goThrough_23 : decode c_Mo_goThrough 23 = .ok (.getfield 78, 3) := by decide +kernel
theorem d_Mo_goThrough_26 : decode c_Mo_goThrough 26 = .ok (.iload 5, 2) := by decide +kernel
theorem d_Mo_goThrough_28 : decode c_Mo_goThrough 28 = .ok (.iconst 0, 1) := by decide +kernel
theorem d_Mo_goThrough_29 : decode c_Mo_goThrough 29 = .ok (.iastore, 1) := by decide +kernel
theorem d_Mo_goThrough_30 : decode c_Mo_goThrough 30 = .ok (.iinc 5 1, 3) := by decide +kernel
theorem d_Mo_goThrough_33 : decode c_Mo_goThrough 33 = .ok (.goto (-18), 3) := by decide +kernel
theorem d_Mo_goThrough_36 : decode c_Mo_goThrough 36 = .ok (.iload 4, 2) := by decide +kernel
theorem d_Mo_goThrough_38 : decode c_Mo_goThrough 38 = .ok (.ifCond .eq 42, 3) := by decide +kernel
theorem d_Mo_goThrough_41 : decode c_Mo_goThrough 41 = .ok (.aload_n 0, 1) := by decide +kernel
theorem d_Mo_goThrough_42 : decode c_Mo_goThrough 42 = .ok (.getfield 78, 3) := by decide +kernel
theorem d_Mo_goThrough_45 : decode c_Mo_goThrough 45 = .ok (.iload_n 3, 1) := by decide +kernel
theorem d_Mo_goThrough_46 : decode c_Mo_goThrough 46 = .ok (.aload_n 0, 1) := by decide +kernel
theorem d_Mo_goThrough_47 : decode c_Mo_goThrough 47 = .ok (.aload_n 0, 1) := by decide +kernel
theorem d_Mo_goThrough_48 : decode c_Mo_goThrough 48 = .ok (.getfield 51, 3) := by decide +kernel
theorem d_Mo_goThrough_51 : decode c_Mo_goThrough 51 = .ok (.iload 4, 2) := by decide +kernel
theorem d_Mo_goThrough_53 : decode c_Mo_goThrough 53 = .ok (.invokestatic 109, 3) := by decide +kernel
theorem d_Mo_goThrough_56 : decode c_Mo_goThrough 56 = .ok (.iaload, 1) := by decide +kernel
theorem d_Mo_goThrough_57 : decode c_Mo_goThrough 57 = .ok (.invokevirtual 121, 3) := by decide +kernel
theorem d_Mo_goThrough_60 : decode c_Mo_goThrough 60 = .ok (.iastore, 1) := by decide +kernel
theorem d_Mo_goThrough_61 : decode c_Mo_goThrough 61 = .ok (.iload 4, 2) := by decide +kernel
theorem d_Mo_goThrough_63 : decode c_Mo_goThrough 63 = .ok (.aload_n 0, 1) := by decide +kernel
theorem d_Mo_goThrough_64 : decode c_Mo_goThrough 64 = .ok (.getfield 78, 3) := by decide +kernel
theorem d_Mo_goThrough_67 : decode c_Mo_goThrough 67 = .ok (.iload_n 3, 1) := by decide +kernel
theorem d_Mo_goThrough_68 : decode c_Mo_goThrough 68 = .ok (.iaload, 1) := by decide +kernel
theorem d_Mo_goThrough_69 : decode c_Mo_goThrough 69 = .ok (.iconst (-1), 1) := by decide +kernel
theorem d_Mo_goThrough_70 : decode c_Mo_goThrough 70 = .ok (.ixor, 1) := by decide +kernel
theorem d_Mo_goThrough_71 : decode c_Mo_goThrough 71 = .ok (.iand, 1) := by decide +kernel
theorem d_Mo_goThrough_72 : decode c_Mo_goThrough 72 = .ok (.istore 4, 2) := by decide +kernel
theorem d_Mo_goThrough_74 : decode c_Mo_goThrough 74 = .ok (.iinc 3 1, 3) := by decide +kernel
theorem d_Mo_goThrough_77 : decode c_Mo_goThrough 77 = .ok (.goto (-41), 3) := by decide +kernel
theorem d_Mo_goThrough_80 : decode c_Mo_goThrough 80 = .ok (.aload_n 0, 1) := by decide +kernel
theorem d_Mo_goThrough_81 : decode c_Mo_goThrough 81 = .ok (.iconst 0, 1) := by decide +kernel
theorem d_Mo_goThrough_82 : decode c_Mo_goThrough 82 = .ok (.putfield 164, 3) := by decide +kernel
theorem d_Mo_goThrough_85 : decode c_Mo_goThrough 85 = .ok (.aload_n 0, 1) := by decide +kernel
theorem d_Mo_goThrough_86 : decode c_Mo_goThrough 86 = .ok (.iload_n 1, 1) := by decide +kernel
theorem d_Mo_goThrough_87 : decode c_Mo_goThrough 87 = .ok (.putfield 170, 3) := by decide +kernel
theorem d_Mo_goThrough_90 : decode c_Mo_goThrough 90 = .ok (.aload_n 0, 1) := by decide +kernel
theorem d_Mo_goThrough_91 : decode c_Mo_goThrough 91 = .ok (.iload_n 2, 1) := by decide +kernel
theorem d_Mo_goThrough_92 : decode c_Mo_goThrough 92 = .ok (.putfield 173, 3) := by decide +kernel
theorem d_Mo_goThrough_95 : decode c_Mo_goThrough 95 = .ok (.aload_n 0, 1) := by decide +kernel
theorem d_Mo_goThrough_96 : decode c_Mo_goThrough 96 = .ok (.iload_n 2, 1) := by decide +kernel
theorem d_Mo_goThrough_97 : decode c_Mo_goThrough 97 = .ok (.ifCond .lt 11, 3) := by decide +kernel
theorem d_Mo_goThrough_100 : decode c_Mo_goThrough 100 = .ok (.aload_n 0, 1) := by decide +kernel
theorem d_Mo_goThrough_101 : decode c_Mo_goThrough 101 = .ok (.iload_n 2, 1) := by decide +kernel
theorem d_Mo_goThrough_102 : decode c_Mo_goThrough 102 = .ok (.invokevirtual 150, 3) := by decide +kernel
theorem d_Mo_goThrough_105 : decode c_Mo_goThrough 105 = .ok (.goto 4, 3) := by decide +kernel
theorem d_Mo_goThrough_108 : decode c_Mo_goThrough 108 = .ok (.iconst 0, 1) := by decide +kernel
theorem d_Mo_goThrough_109 : decode c_Mo_goThrough 109 = .ok (.putfield 179, 3) := by decide +kernel
theorem d_Mo_goThrough_112 : decode c_Mo_goThrough 112 = .ok (.aload_n 0, 1) := by decide +kernel
theorem d_Mo_goThrough_113 : decode c_Mo_goThrough 113 = .ok (.iconst (-1), 1) := by decide +kernel
theorem d_Mo_goThrough_114 : decode c_Mo_goThrough 114 = .ok (.putfield 167, 3) := by decide +kernel
theorem d_Mo_goThrough_117 : decode c_Mo_goThrough 117 = .ok (.iconst 0, 1) := by decide +kernel
theorem d_Mo_goThrough_118 : decode c_Mo_goThrough 118 = .ok (.istore 5, 2) := by decide +kernel
theorem d_Mo_goThrough_120 : decode c_Mo_goThrough 120 = .ok (.iload 5, 2) := by decide +kernel
theorem d_Mo_goThrough_122 : decode c_Mo_goThrough 122 = .ok (.iconst 3, 1) := by decide +kernel
theorem d_Mo_goThrough_123 : decode c_Mo_goThrough 123 = .ok (.if_icmp .ge 17, 3) := by decide +kernel
theorem d_Mo_goThrough_126 : decode c_Mo_goThrough 126 = .ok (.aload_n 0, 1) := by decide +kernel
theorem d_Mo_goThrough_127 : decode c_Mo_goThrough 127 = .ok (.getfield 81, 3) := by decide +kernel
theorem d_Mo_goThrough_130 : decode c_Mo_goThrough 130 = .ok (.iload 5, 2) := by decide +kernel
theorem d_Mo_goThrough_132 : decode c_Mo_goThrough 132 = .ok (.iconst 0, 1) := by decide +kernel
theorem d_Mo_goThrough_133 : decode c_Mo_goThrough 133 = .ok (.iastore, 1) := by decide +kernel
theorem d_Mo_goThrough_134 : decode c_Mo_goThrough 134 = .ok (.iinc 5 1, 3) := by decide +kernel
theorem d_Mo_goThrough_137 : decode c_Mo_goThrough 137 = .ok (.goto (-17), 3) := by decide +kernel
theorem d_Mo_goThrough_140 : decode c_Mo_goThrough 140 = .ok (.iconst 0, 1) := by decide +kernel
theorem d_Mo_goThrough_141 : decode c_Mo_goThrough 141 = .ok (.istore 5, 2) := by decide +kernel
theorem d_Mo_goThrough_143 : decode c_Mo_goThrough 143 = .ok (.iload 5, 2) := by decide +kernel
theorem d_Mo_goThrough_145 : decode c_Mo_goThrough 145 = .ok (.aload_n 0, 1) := by decide +kernel
theorem d_Mo_goThrough_146 : decode c_Mo_goThrough 146 = .ok (.getfield 91, 3) := by decide +kernel
theorem d_Mo_goThrough_149 : decode c_Mo_goThrough 149 = .ok (.if_icmp .ge 23, 3) := by decide +kernel
theorem d_Mo_goThrough_152 : decode c_Mo_goThrough 152 = .ok (.aload_n 0, 1) := by decide +kernel
theorem d_Mo_goThrough_153 : decode c_Mo_goThrough 153 = .ok (.getfield 66, 3) := by decide +kernel
theorem d_Mo_goThrough_156 : decode c_Mo_goThrough 156 = .ok (.iload 5, 2) := by decide +kernel
theorem d_Mo_goThrough_158 : decode c_Mo_goThrough 158 = .ok (.aload_n 0, 1) := by decide +kernel
theorem d_Mo_goThrough_159 : decode c_Mo_goThrough 159 = .ok (.getfield 51, 3) := by decide +kernel
theorem d_Mo_goThrough_162 : decode c_Mo_goThrough 162 = .ok (.iload 5, 2) := by decide +kernel
theorem d_Mo_goThrough_164 : decode c_Mo_goThrough 164 = .ok (.iaload, 1) := by decide +kernel
theorem d_Mo_goThrough_165 : decode c_Mo_goThrough 165 = .ok (.iastore, 1) := by decide +kernel
theorem d_Mo_goThrough_166 : decode c_Mo_goThrough 166 = .ok (.iinc 5 1, 3) := by decide +kernel
theorem d_Mo_goThrough_169 : decode c_Mo_goThrough 169 = .ok (.goto (-26), 3) := by decide +kernel
theorem d_Mo_goThrough_172 : decode c_Mo_goThrough 172 = .ok (.aload_n 0, 1) := by decide +kernel
theorem d_Mo_goThrough_173 : decode c_Mo_goThrough 173 = .ok (.iconst 0, 1) := by decide +kernel
theorem d_Mo_goThrough_174 : decode c_Mo_goThrough 174 = .ok (.iconst 1, 1) := by decide +kernel
theorem d_Mo_goThrough_175 : decode c_Mo_goThrough 175 = .ok (.aload_n 0, 1) := by decide +kernel
theorem d_Mo_goThrough_176 : decode c_Mo_goThrough 176 = .ok (.getfield 91, 3) := by decide +kernel
theorem d_Mo_goThrough_179 : decode c_Mo_goThrough 179 = .ok (.ishl, 1) := by decide +kernel
theorem d_Mo_goThrough_180 : decode c_Mo_goThrough 180 = .ok (.iconst 1, 1) := by decide +kernel
theorem d_Mo_goThrough_181 : decode c_Mo_goThrough 181 = .ok (.isub, 1) := by decide +kernel
theorem d_Mo_goThrough_182 : decode c_Mo_goThrough 182 = .ok (.invokevirtual 160, 3) := by decide +kernel
theorem d_Mo_goThrough_185 : decode c_Mo_goThrough 185 = .ok (.iconst 0, 1) := by decide +kernel
theorem d_Mo_goThrough_186 : decode c_Mo_goThrough 186 = .ok (.istore 5, 2) := by decide +kernel
theorem d_Mo_goThrough_188 : decode c_Mo_goThrough 188 = .ok (.iload 5, 2) := by decide +kernel
theorem d_Mo_goThrough_190 : decode c_Mo_goThrough 190 = .ok (.aload_n 0, 1) := by decide +kernel
theorem d_Mo_goThrough_191 : decode c_Mo_goThrough 191 = .ok (.getfield 91, 3) := by decide +kernel
theorem d_Mo_goThrough_194 : decode c_Mo_goThrough 194 = .ok (.if_icmp .ge 23, 3) := by decide +kernel
theorem d_Mo_goThrough_197 : decode c_Mo_goThrough 197 = .ok (.aload_n 0, 1) := by decide +kernel
theorem d_Mo_goThrough_198 : decode c_Mo_goThrough 198 = .ok (.getfield 51, 3) := by decide +kernel
theorem d_Mo_goThrough_201 : decode c_Mo_goThrough 201 = .ok (.iload 5, 2) := by decide +kernel
theorem d_Mo_goThrough_203 : decode c_Mo_goThrough 203 = .ok (.aload_n 0, 1) := by decide +kernel
theorem d_Mo_goThrough_204 : decode c_Mo_goThrough 204 = .ok (.getfield 66, 3) := by decide +kernel
theorem d_Mo_goThrough_207 : decode c_Mo_goThrough 207 = .ok (.iload 5, 2) := by decide +kernel
theorem d_Mo_goThrough_209 : decode c_Mo_goThrough 209 = .ok (.iaload, 1) := by decide +kernel
theorem d_Mo_goThrough_210 : decode c_Mo_goThrough 210 = .ok (.iastore, 1) := by decide +kernel
theorem d_Mo_goThrough_211 : decode c_Mo_goThrough 211 = .ok (.iinc 5 1, 3) := by decide +kernel
theorem d_Mo_goThrough_214 : decode c_Mo_goThrough 214 = .ok (.goto (-26), 3) := by decide +kernel
theorem d_Mo_goThrough_217 : decode c_Mo_goThrough 217 = .ok (.return_, 1) := by decide +kernel
theorem d_Mo_size_0 : decode c_Mo_size 0 = .ok (.aload_n 0, 1) := by decide +kernel
theorem d_Mo_size_1 : decode c_Mo_size 1 = .ok (.getfield 91, 3) := by decide +kernel
theorem d_Mo_size_4 : decode c_Mo_size 4 = .ok (.bipush 12, 2) := by decide +kernel
theorem d_Mo_size_6 : decode c_Mo_size 6 = .ok (.if_icmp .le 8, 3) := by decide +kernel
theorem d_Mo_size_9 : decode c_Mo_size 9 = .ok (.bipush (-4), 2) := by decide +kernel
theorem d_Mo_size_11 : decode c_Mo_size 11 = .ok (.goto 16, 3) := by decide +kernel
theorem d_Mo_size_14 : decode c_Mo_size 14 = .ok (.aload_n 0, 1) := by decide +kernel
theorem d_Mo_size_15 : decode c_Mo_size 15 = .ok (.getfield 91, 3) := by decide +kernel
theorem d_Mo_size_18 : decode c_Mo_size 18 = .ok (.ifCond .ne 8, 3) := by decide +kernel
theorem d_Mo_size_21 : decode c_Mo_size 21 = .ok (.bipush (-5), 2) := by decide +kernel
theorem d_Mo_size_23 : decode c_Mo_size 23 = .ok (.goto 4, 3) := by decide +kernel
theorem d_Mo_size_26 : decode c_Mo_size 26 = .ok (.iconst 0, 1) := by decide +kernel
theorem d_Mo_size_27 : decode c_Mo_size 27 = .ok (.ireturn, 1) := by decide +kernel
theorem d_Mo_count_0 : decode c_Mo_count 0 = .ok (.aload_n 0, 1) := by decide +kernel
theorem d_Mo_count_1 : decode c_Mo_count 1 = .ok (.invokevirtual 182, 3) := by decide +kernel
theorem d_Mo_count_4 : decode c_Mo_count 4 = .ok (.ifCond .eq 8, 3) := by decide +kernel
theorem d_Mo_count_7 : decode c_Mo_count 7 = .ok (.aload_n 0, 1) := by decide +kernel
theorem d_Mo_count_8 : decode c_Mo_count 8 = .ok (.invokevirtual 182, 3) := by decide +kernel
theorem d_Mo_count_11 : decode c_Mo_count 11 = .ok (.ireturn, 1) := by decide +kernel
theorem d_Mo_count_12 : decode c_Mo_count 12 = .ok (.aload_n 0, 1) := by decide +kernel
theorem d_Mo_count_13 : decode c_Mo_count 13 = .ok (.iconst (-1), 1) := by decide +kernel
theorem d_Mo_count_14 : decode c_Mo_count 14 = .ok (.iconst (-1), 1) := by decide +kernel
theorem d_Mo_count_15 : decode c_Mo_count 15 = .ok (.invokevirtual 185, 3) := by decide +kernel
theorem d_Mo_count_18 : decode c_Mo_count 18 = .ok (.aload_n 0, 1) := by decide +kernel
theorem d_Mo_count_19 : decode c_Mo_count 19 = .ok (.getfield 164, 3) := by decide +kernel
theorem d_Mo_count_22 : decode c_Mo_count 22 = .ok (.ireturn, 1) := by decide +kernel
theorem d_Mo_isClass_0 : decode c_Mo_isClass 0 = .ok (.aload_n 0, 1) := by decide +kernel
theorem d_Mo_isClass_1 : decode c_Mo_isClass 1 = .ok (.iload_n 1, 1) := by decide +kernel
theorem d_Mo_isClass_2 : decode c_Mo_isClass 2 = .ok (.iconst (-1), 1) := by decide +kernel
theorem d_Mo_isClass_3 : decode c_Mo_isClass 3 = .ok (.invokevirtual 185, 3) := by decide +kernel
theorem d_Mo_isClass_6 : decode c_Mo_isClass 6 = .ok (.iload_n 1, 1) := by decide +kernel
theorem d_Mo_isClass_7 : decode c_Mo_isClass 7 = .ok (.ifCond .lt 15, 3) := by decide +kernel
theorem d_Mo_isClass_10 : decode c_Mo_isClass 10 = .ok (.iload_n 1, 1) := by decide +kernel
theorem d_Mo_isClass_11 : decode c_Mo_isClass 11 = .ok (.aload_n 0, 1) := by decide +kernel
theorem d_Mo_isClass_12 : decode c_Mo_isClass 12 = .ok (.getfield 164, 3) := by decide +kernel
theorem d_Mo_isClass_15 : decode c_Mo_isClass 15 = .ok (.if_icmp .ge 7, 3) := by decide +kernel
theorem d_Mo_isClass_18 : decode c_Mo_isClass 18 = .ok (.iconst 1, 1) := by decide +kernel
theorem d_Mo_isClass_19 : decode c_Mo_isClass 19 = .ok (.goto 4, 3) := by decide +kernel
theorem d_Mo_isClass_22 : decode c_Mo_isClass 22 = .ok (.iconst 0, 1) := by decide +kernel
theorem d_Mo_isClass_23 : decode c_Mo_isClass 23 = .ok (.ireturn, 1) := by decide +kernel
theorem d_Mo_kth_0 : decode c_Mo_kth 0 = .ok (.aload_n 0, 1) := by decide +kernel
theorem d_Mo_kth_1 : decode c_Mo_kth 1 = .ok (.invokevirtual 182, 3) := by decide +kernel
theorem d_Mo_kth_4 : decode c_Mo_kth 4 = .ok (.ifCond .eq 8, 3) := by decide +kernel
theorem d_Mo_kth_7 : decode c_Mo_kth 7 = .ok (.aload_n 0, 1) := by decide +kernel
theorem d_Mo_kth_8 : decode c_Mo_kth 8 = .ok (.invokevirtual 182, 3) := by decide +kernel
theorem d_Mo_kth_11 : decode c_Mo_kth 11 = .ok (.ireturn, 1) := by decide +kernel
theorem d_Mo_kth_12 : decode c_Mo_kth 12 = .ok (.aload_n 0, 1) := by decide +kernel
theorem d_Mo_kth_13 : decode c_Mo_kth 13 = .ok (.iload_n 1, 1) := by decide +kernel
theorem d_Mo_kth_14 : decode c_Mo_kth 14 = .ok (.invokevirtual 188, 3) := by decide +kernel
theorem d_Mo_kth_17 : decode c_Mo_kth 17 = .ok (.ifCond .ne 5, 3) := by decide +kernel
theorem d_Mo_kth_20 : decode c_Mo_kth 20 = .ok (.iconst (-1), 1) := by decide +kernel
theorem d_Mo_kth_21 : decode c_Mo_kth 21 = .ok (.ireturn, 1) := by decide +kernel
theorem d_Mo_kth_22 : decode c_Mo_kth 22 = .ok (.iconst 0, 1) := by decide +kernel
theorem d_Mo_kth_23 : decode c_Mo_kth 23 = .ok (.istore_n 2, 1) := by decide +kernel
theorem d_Mo_kth_24 : decode c_Mo_kth 24 = .ok (.iload_n 2, 1) := by decide +kernel
theorem d_Mo_kth_25 : decode c_Mo_kth 25 = .ok (.aload_n 0, 1) := by decide +kernel
theorem d_Mo_kth_26 : decode c_Mo_kth 26 = .ok (.getfield 34, 3) := by decide +kernel
theorem d_Mo_kth_29 : decode c_Mo_kth 29 = .ok (.if_icmp .ge 54, 3) := by decide +kernel
theorem d_Mo_kth_32 : decode c_Mo_kth 32 = .ok (.iconst 0, 1) := by decide +kernel
theorem d_Mo_kth_33 : decode c_Mo_kth 33 = .ok (.istore_n 3, 1) := by decide +kernel
theorem d_Mo_kth_34 : decode c_Mo_kth 34 = .ok (.iload_n 3, 1) := by decide +kernel
theorem d_Mo_kth_35 : decode c_Mo_kth 35 = .ok (.aload_n 0, 1) := by decide +kernel
theorem d_Mo_kth_36 : decode c_Mo_kth 36 = .ok (.getfield 91, 3) := by decide +kernel
theorem d_Mo_kth_39 : decode c_Mo_kth 39 = .ok (.if_icmp .ge 38, 3) := by decide +kernel
theorem d_Mo_kth_42 : decode c_Mo_kth 42 = .ok (.aload_n 0, 1) := by decide +kernel
theorem d_Mo_kth_43 : decode c_Mo_kth 43 = .ok (.getfield 51, 3) := by decide +kernel
theorem d_Mo_kth_46 : decode c_Mo_kth 46 = .ok (.iload_n 3, 1) := by decide +kernel
theorem d_Mo_kth_47 : decode c_Mo_kth 47 = .ok (.aload_n 0, 1) := by decide +kernel
theorem d_Mo_kth_48 : decode c_Mo_kth 48 = .ok (.getfield 84, 3) := by decide +kernel
theorem d_Mo_kth_51 : decode c_Mo_kth 51 = .ok (.iload_n 2, 1) := by decide +kernel
theorem d_Mo_kth_52 : decode c_Mo_kth 52 = .ok (.iaload, 1) := by decide +kernel
theorem d_Mo_kth_53 : decode c_Mo_kth 53 = .ok (.iload_n 3, 1) := by decide +kernel
theorem d_Mo_kth_54 : decode c_Mo_kth 54 = .ok (.invokestatic 98, 3) := by decide +kernel
theorem d_Mo_kth_57 : decode c_Mo_kth 57 = .ok (.ifCond .eq 7, 3) := by decide +kernel
theorem d_Mo_kth_60 : decode c_Mo_kth 60 = .ok (.iload_n 2, 1) := by decide +kernel
theorem d_Mo_kth_61 : decode c_Mo_kth 61 = .ok (.goto 9, 3) := by decide +kernel
theorem d_Mo_kth_64 : decode c_Mo_kth 64 = .ok (.aload_n 0, 1) := by decide +kernel
theorem d_Mo_kth_65 : decode c_Mo_kth 65 = .ok (.getfield 51, 3) := by decide +kernel
theorem d_Mo_kth_68 : decode c_Mo_kth 68 = .ok (.iload_n 3, 1) := by decide +kernel
theorem d_Mo_kth_69 : decode c_Mo_kth 69 = .ok (.iaload, 1) := by decide +kernel
theorem d_Mo_kth_70 : decode c_Mo_kth 70 = .ok (.iastore, 1) := by decide +kernel
theorem d_Mo_kth_71 : decode c_Mo_kth 71 = .ok (.iinc 3 1, 3) := by decide +kernel
theorem d_Mo_kth_74 : decode c_Mo_kth 74 = .ok (.goto (-40), 3) := by decide +kernel
theorem d_Mo_kth_77 : decode c_Mo_kth 77 = .ok (.iinc 2 1, 3) := by decide +kernel
theorem d_Mo_kth_80 : decode c_Mo_kth 80 = .ok (.goto (-56), 3) := by decide +kernel
theorem d_Mo_kth_83 : decode c_Mo_kth 83 = .ok (.iconst 1, 1) := by decide +kernel
theorem d_Mo_kth_84 : decode c_Mo_kth 84 = .ok (.ireturn, 1) := by decide +kernel
theorem d_Mo_which_0 : decode c_Mo_which 0 = .ok (.aload_n 0, 1) := by decide +kernel
theorem d_Mo_which_1 : decode c_Mo_which 1 = .ok (.invokevirtual 182, 3) := by decide +kernel
theorem d_Mo_which_4 : decode c_Mo_which 4 = .ok (.ifCond .eq 8, 3) := by decide +kernel
theorem d_Mo_which_7 : decode c_Mo_which 7 = .ok (.aload_n 0, 1) := by decide +kernel
theorem d_Mo_which_8 : decode c_Mo_which 8 = .ok (.invokevirtual 182, 3) := by decide +kernel
theorem d_Mo_which_11 : decode c_Mo_which 11 = .ok (.ireturn, 1) := by decide +kernel
theorem d_Mo_which_12 : decode c_Mo_which 12 = .ok (.aload_n 0, 1) := by decide +kernel
theorem d_Mo_which_13 : decode c_Mo_which 13 = .ok (.iconst (-1), 1) := by decide +kernel
theorem d_Mo_which_14 : decode c_Mo_which 14 = .ok (.iconst (-1), 1) := by decide +kernel
theorem d_Mo_which_15 : decode c_Mo_which 15 = .ok (.invokevirtual 185, 3) := by decide +kernel
theorem d_Mo_which_18 : decode c_Mo_which 18 = .ok (.aload_n 0, 1) := by decide +kernel
theorem d_Mo_which_19 : decode c_Mo_which 19 = .ok (.getfield 167, 3) := by decide +kernel
theorem d_Mo_which_22 : decode c_Mo_which 22 = .ok (.ireturn, 1) := by decide +kernel
theorem d_Mo_same_0 : decode c_Mo_same 0 = .ok (.aload_n 0, 1) := by decide +kernel
theorem d_Mo_same_1 : decode c_Mo_same 1 = .ok (.invokevirtual 182, 3) := by decide +kernel
theorem d_Mo_same_4 : decode c_Mo_same 4 = .ok (.ifCond .eq 8, 3) := by decide +kernel
theorem d_Mo_same_7 : decode c_Mo_same 7 = .ok (.aload_n 0, 1) := by decide +kernel
theorem d_Mo_same_8 : decode c_Mo_same 8 = .ok (.invokevirtual 182, 3) := by decide +kernel
theorem d_Mo_same_11 : decode c_Mo_same 11 = .ok (.ireturn, 1) := by decide +kernel
theorem d_Mo_same_12 : decode c_Mo_same 12 = .ok (.aload_n 0, 1) := by decide +kernel
theorem d_Mo_same_13 : decode c_Mo_same 13 = .ok (.iload_n 1, 1) := by decide +kernel
theorem d_Mo_same_14 : decode c_Mo_same 14 = .ok (.invokevirtual 188, 3) := by decide +kernel
theorem d_Mo_same_17 : decode c_Mo_same 17 = .ok (.ifCond .ne 5, 3) := by decide +kernel
theorem d_Mo_same_20 : decode c_Mo_same 20 = .ok (.iconst (-1), 1) := by decide +kernel
theorem d_Mo_same_21 : decode c_Mo_same 21 = .ok (.ireturn, 1) := by decide +kernel
theorem d_Mo_same_22 : decode c_Mo_same 22 = .ok (.aload_n 0, 1) := by decide +kernel
theorem d_Mo_same_23 : decode c_Mo_same 23 = .ok (.getfield 167, 3) := by decide +kernel
theorem d_Mo_same_26 : decode c_Mo_same 26 = .ok (.iload_n 1, 1) := by decide +kernel
theorem d_Mo_same_27 : decode c_Mo_same 27 = .ok (.if_icmp .ne 7, 3) := by decide +kernel
theorem d_Mo_same_30 : decode c_Mo_same 30 = .ok (.iconst 1, 1) := by decide +kernel
theorem d_Mo_same_31 : decode c_Mo_same 31 = .ok (.goto 4, 3) := by decide +kernel
theorem d_Mo_same_34 : decode c_Mo_same 34 = .ok (.iconst 0, 1) := by decide +kernel
theorem d_Mo_same_35 : decode c_Mo_same 35 = .ok (.ireturn, 1) := by decide +kernel
theorem d_Mo_least_0 : decode c_Mo_least 0 = .ok (.iload_n 1, 1) := by decide +kernel
theorem d_Mo_least_1 : decode c_Mo_least 1 = .ok (.iconst 0, 1) := by decide +kernel
theorem d_Mo_least_2 : decode c_Mo_least 2 = .ok (.bipush 6, 2) := by decide +kernel
theorem d_Mo_least_4 : decode c_Mo_least 4 = .ok (.invokestatic 87, 3) := by decide +kernel
theorem d_Mo_least_7 : decode c_Mo_least 7 = .ok (.ifCond .ne 5, 3) := by decide +kernel
theorem d_Mo_least_10 : decode c_Mo_least 10 = .ok (.iconst (-1), 1) := by decide +kernel
theorem d_Mo_least_11 : decode c_Mo_least 11 = .ok (.ireturn, 1) := by decide +kernel
theorem d_Mo_least_12 : decode c_Mo_least 12 = .ok (.aload_n 0, 1) := by decide +kernel
theorem d_Mo_least_13 : decode c_Mo_least 13 = .ok (.invokevirtual 182, 3) := by decide +kernel
theorem d_Mo_least_16 : decode c_Mo_least 16 = .ok (.ifCond .eq 8, 3) := by decide +kernel
theorem d_Mo_least_19 : decode c_Mo_least 19 = .ok (.aload_n 0, 1) := by decide +kernel
theorem d_Mo_least_20 : decode c_Mo_least 20 = .ok (.invokevirtual 182, 3) := by decide +kernel
theorem d_Mo_least_23 : decode c_Mo_least 23 = .ok (.ireturn, 1) := by decide +kernel
theorem d_Mo_least_24 : decode c_Mo_least 24 = .ok (.aload_n 0, 1) := by decide +kernel
theorem d_Mo_least_25 : decode c_Mo_least 25 = .ok (.iconst (-1), 1) := by decide +kernel
theorem d_Mo_least_26 : decode c_Mo_least 26 = .ok (.iload_n 1, 1) := by decide +kernel
theorem d_Mo_least_27 : decode c_Mo_least 27 = .ok (.invokevirtual 185, 3) := by decide +kernel
theorem d_Mo_least_30 : decode c_Mo_least 30 = .ok (.aload_n 0, 1) := by decide +kernel
theorem d_Mo_least_31 : decode c_Mo_least 31 = .ok (.getfield 164, 3) := by decide +kernel
theorem d_Mo_least_34 : decode c_Mo_least 34 = .ok (.sipush 20000, 3) := by decide +kernel
theorem d_Mo_least_37 : decode c_Mo_least 37 = .ok (.if_icmp .le 8, 3) := by decide +kernel
theorem d_Mo_least_40 : decode c_Mo_least 40 = .ok (.bipush (-4), 2) := by decide +kernel
theorem d_Mo_least_42 : decode c_Mo_least 42 = .ok (.goto 19, 3) := by decide +kernel
theorem d_Mo_least_45 : decode c_Mo_least 45 = .ok (.aload_n 0, 1) := by decide +kernel
theorem d_Mo_least_46 : decode c_Mo_least 46 = .ok (.getfield 164, 3) := by decide +kernel
theorem d_Mo_least_49 : decode c_Mo_least 49 = .ok (.ifCond .ne 8, 3) := by decide +kernel
theorem d_Mo_least_52 : decode c_Mo_least 52 = .ok (.ldc 191, 2) := by decide +kernel
theorem d_Mo_least_54 : decode c_Mo_least 54 = .ok (.goto 7, 3) := by decide +kernel
theorem d_Mo_least_57 : decode c_Mo_least 57 = .ok (.aload_n 0, 1) := by decide +kernel
theorem d_Mo_least_58 : decode c_Mo_least 58 = .ok (.getfield 176, 3) := by decide +kernel
theorem d_Mo_least_61 : decode c_Mo_least 61 = .ok (.ireturn, 1) := by decide +kernel
theorem d_Mo_among_0 : decode c_Mo_among 0 = .ok (.iload_n 1, 1) := by decide +kernel
theorem d_Mo_among_1 : decode c_Mo_among 1 = .ok (.iconst 0, 1) := by decide +kernel
theorem d_Mo_among_2 : decode c_Mo_among 2 = .ok (.bipush 6, 2) := by decide +kernel
theorem d_Mo_among_4 : decode c_Mo_among 4 = .ok (.invokestatic 87, 3) := by decide +kernel
theorem d_Mo_among_7 : decode c_Mo_among 7 = .ok (.ifCond .eq 12, 3) := by decide +kernel
theorem d_Mo_among_10 : decode c_Mo_among 10 = .ok (.iload_n 2, 1) := by decide +kernel
theorem d_Mo_among_11 : decode c_Mo_among 11 = .ok (.iconst 0, 1) := by decide +kernel
theorem d_Mo_among_12 : decode c_Mo_among 12 = .ok (.iconst 2, 1) := by decide +kernel
theorem d_Mo_among_13 : decode c_Mo_among 13 = .ok (.invokestatic 87, 3) := by decide +kernel
theorem d_Mo_among_16 : decode c_Mo_among 16 = .ok (.ifCond .ne 5, 3) := by decide +kernel
theorem d_Mo_among_19 : decode c_Mo_among 19 = .ok (.iconst (-1), 1) := by decide +kernel
theorem d_Mo_among_20 : decode c_Mo_among 20 = .ok (.ireturn, 1) := by decide +kernel
theorem d_Mo_among_21 : decode c_Mo_among 21 = .ok (.aload_n 0, 1) := by decide +kernel
theorem d_Mo_among_22 : decode c_Mo_among 22 = .ok (.invokevirtual 182, 3) := by decide +kernel
theorem d_Mo_among_25 : decode c_Mo_among 25 = .ok (.ifCond .eq 8, 3) := by decide +kernel
theorem d_Mo_among_28 : decode c_Mo_among 28 = .ok (.aload_n 0, 1) := by decide +kernel
theorem d_Mo_among_29 : decode c_Mo_among 29 = .ok (.invokevirtual 182, 3) := by decide +kernel
theorem d_Mo_among_32 : decode c_Mo_among 32 = .ok (.ireturn, 1) := by decide +kernel
theorem d_Mo_among_33 : decode c_Mo_among 33 = .ok (.aload_n 0, 1) := by decide +kernel
theorem d_Mo_among_34 : decode c_Mo_among 34 = .ok (.iconst (-1), 1) := by decide +kernel
theorem d_Mo_among_35 : decode c_Mo_among 35 = .ok (.iload_n 1, 1) := by decide +kernel
theorem d_Mo_among_36 : decode c_Mo_among 36 = .ok (.invokevirtual 185, 3) := by decide +kernel
theorem d_Mo_among_39 : decode c_Mo_among 39 = .ok (.aload_n 0, 1) := by decide +kernel
theorem d_Mo_among_40 : decode c_Mo_among 40 = .ok (.getfield 164, 3) := by decide +kernel
theorem d_Mo_among_43 : decode c_Mo_among 43 = .ok (.sipush 20000, 3) := by decide +kernel
theorem d_Mo_among_46 : decode c_Mo_among 46 = .ok (.if_icmp .le 8, 3) := by decide +kernel
theorem d_Mo_among_49 : decode c_Mo_among 49 = .ok (.bipush (-4), 2) := by decide +kernel
theorem d_Mo_among_51 : decode c_Mo_among 51 = .ok (.goto 9, 3) := by decide +kernel
theorem d_Mo_among_54 : decode c_Mo_among 54 = .ok (.aload_n 0, 1) := by decide +kernel
theorem d_Mo_among_55 : decode c_Mo_among 55 = .ok (.getfield 81, 3) := by decide +kernel
theorem d_Mo_among_58 : decode c_Mo_among 58 = .ok (.iload_n 2, 1) := by decide +kernel
theorem d_Mo_among_59 : decode c_Mo_among 59 = .ok (.iaload, 1) := by decide +kernel
theorem d_Mo_among_60 : decode c_Mo_among 60 = .ok (.ireturn, 1) := by decide +kernel
theorem d_Mo_draw_0 : decode c_Mo_draw 0 = .ok (.aload_n 0, 1) := by decide +kernel
theorem d_Mo_draw_1 : decode c_Mo_draw 1 = .ok (.aload_n 0, 1) := by decide +kernel
theorem d_Mo_draw_2 : decode c_Mo_draw 2 = .ok (.getfield 192, 3) := by decide +kernel
theorem d_Mo_draw_5 : decode c_Mo_draw 5 = .ok (.ldc 195, 2) := by decide +kernel
theorem d_Mo_draw_7 : decode c_Mo_draw 7 = .ok (.imul, 1) := by decide +kernel
theorem d_Mo_draw_8 : decode c_Mo_draw 8 = .ok (.sipush 12345, 3) := by decide +kernel
theorem d_Mo_draw_11 : decode c_Mo_draw 11 = .ok (.iadd, 1) := by decide +kernel
theorem d_Mo_draw_12 : decode c_Mo_draw 12 = .ok (.putfield 192, 3) := by decide +kernel
theorem d_Mo_draw_15 : decode c_Mo_draw 15 = .ok (.aload_n 0, 1) := by decide +kernel
theorem d_Mo_draw_16 : decode c_Mo_draw 16 = .ok (.getfield 192, 3) := by decide +kernel
theorem d_Mo_draw_19 : decode c_Mo_draw 19 = .ok (.bipush 16, 2) := by decide +kernel
theorem d_Mo_draw_21 : decode c_Mo_draw 21 = .ok (.iushr, 1) := by decide +kernel
theorem d_Mo_draw_22 : decode c_Mo_draw 22 = .ok (.ireturn, 1) := by decide +kernel
theorem d_Mo_between_0 : decode c_Mo_between 0 = .ok (.iconst 0, 1) := by decide +kernel
theorem d_Mo_between_1 : decode c_Mo_between 1 = .ok (.istore_n 2, 1) := by decide +kernel
theorem d_Mo_between_2 : decode c_Mo_between 2 = .ok (.iconst 0, 1) := by decide +kernel
theorem d_Mo_between_3 : decode c_Mo_between 3 = .ok (.istore_n 3, 1) := by decide +kernel
theorem d_Mo_between_4 : decode c_Mo_between 4 = .ok (.iload_n 3, 1) := by decide +kernel
theorem d_Mo_between_5 : decode c_Mo_between 5 = .ok (.aload_n 0, 1) := by decide +kernel
theorem d_Mo_between_6 : decode c_Mo_between 6 = .ok (.getfield 102, 3) := by decide +kernel
theorem d_Mo_between_9 : decode c_Mo_between 9 = .ok (.if_icmp .ge 44, 3) := by decide +kernel
theorem d_Mo_between_12 : decode c_Mo_between 12 = .ok (.aload_n 0, 1) := by decide +kernel
theorem d_Mo_between_13 : decode c_Mo_between 13 = .ok (.getfield 51, 3) := by decide +kernel
theorem d_Mo_between_16 : decode c_Mo_between 16 = .ok (.aload_n 0, 1) := by decide +kernel
theorem d_Mo_between_17 : decode c_Mo_between 17 = .ok (.getfield 22, 3) := by decide +kernel
theorem d_Mo_between_20 : decode c_Mo_between 20 = .ok (.iload_n 3, 1) := by decide +kernel
theorem d_Mo_between_21 : decode c_Mo_between 21 = .ok (.iaload, 1) := by decide +kernel
theorem d_Mo_between_22 : decode c_Mo_between 22 = .ok (.iaload, 1) := by decide +kernel
theorem d_Mo_between_23 : decode c_Mo_between 23 = .ok (.aload_n 0, 1) := by decide +kernel
theorem d_Mo_between_24 : decode c_Mo_between 24 = .ok (.getfield 51, 3) := by decide +kernel
theorem d_Mo_between_27 : decode c_Mo_between 27 = .ok (.aload_n 0, 1) := by decide +kernel
theorem d_Mo_between_28 : decode c_Mo_between 28 = .ok (.getfield 25, 3) := by decide +kernel
theorem d_Mo_between_31 : decode c_Mo_between 31 = .ok (.iload_n 3, 1) := by decide +kernel
theorem d_Mo_between_32 : decode c_Mo_between 32 = .ok (.iaload, 1) := by decide +kernel
theorem d_Mo_between_33 : decode c_Mo_between 33 = .ok (.iaload, 1) := by decide +kernel
theorem d_Mo_between_34 : decode c_Mo_between 34 = .ok (.if_icmp .eq 13, 3) := by decide +kernel
theorem d_Mo_between_37 : decode c_Mo_between 37 = .ok (.iload_n 2, 1) := by decide +kernel
theorem d_Mo_between_38 : decode c_Mo_between 38 = .ok (.iload_n 1, 1) := by decide +kernel
theorem d_Mo_between_39 : decode c_Mo_between 39 = .ok (.if_icmp .ne 5, 3) := by decide +kernel
theorem d_Mo_between_42 : decode c_Mo_between 42 = .ok (.iload_n 3, 1) := by decide +kernel
theorem d_Mo_between_43 : decode c_Mo_between 43 = .ok (.ireturn, 1) := by decide +kernel
theorem d_Mo_between_44 : decode c_Mo_between 44 = .ok (.iinc 2 1, 3) := by decide +kernel
theorem d_Mo_between_47 : decode c_Mo_between 47 = .ok (.iinc 3 1, 3) := by decide +kernel
theorem d_Mo_between_50 : decode c_Mo_between 50 = .ok (.goto (-46), 3) := by decide +kernel
theorem d_Mo_between_53 : decode c_Mo_between 53 = .ok (.aload_n 0, 1) := by decide +kernel
theorem d_Mo_between_54 : decode c_Mo_between 54 = .ok (.iload_n 2, 1) := by decide +kernel
theorem d_Mo_between_55 : decode c_Mo_between 55 = .ok (.putfield 164, 3) := by decide +kernel
theorem d_Mo_between_58 : decode c_Mo_between 58 = .ok (.iconst (-1), 1) := by decide +kernel
theorem d_Mo_between_59 : decode c_Mo_between 59 = .ok (.ireturn, 1) := by decide +kernel
theorem d_Mo_sideOf_0 : decode c_Mo_sideOf 0 = .ok (.iconst 1, 1) := by decide +kernel
theorem d_Mo_sideOf_1 : decode c_Mo_sideOf 1 = .ok (.iload_n 3, 1) := by decide +kernel
theorem d_Mo_sideOf_2 : decode c_Mo_sideOf 2 = .ok (.ishl, 1) := by decide +kernel
theorem d_Mo_sideOf_3 : decode c_Mo_sideOf 3 = .ok (.istore 4, 2) := by decide +kernel
theorem d_Mo_sideOf_5 : decode c_Mo_sideOf 5 = .ok (.iconst 1, 1) := by decide +kernel
theorem d_Mo_sideOf_6 : decode c_Mo_sideOf 6 = .ok (.istore 5, 2) := by decide +kernel
theorem d_Mo_sideOf_8 : decode c_Mo_sideOf 8 = .ok (.iload 5, 2) := by decide +kernel
theorem d_Mo_sideOf_10 : decode c_Mo_sideOf 10 = .ok (.ifCond .eq 93, 3) := by decide +kernel
theorem d_Mo_sideOf_13 : decode c_Mo_sideOf 13 = .ok (.iconst 0, 1) := by decide +kernel
theorem d_Mo_sideOf_14 : decode c_Mo_sideOf 14 = .ok (.istore 5, 2) := by decide +kernel
theorem d_Mo_sideOf_16 : decode c_Mo_sideOf 16 = .ok (.iconst 0, 1) := by decide +kernel
theorem d_Mo_sideOf_17 : decode c_Mo_sideOf 17 = .ok (.istore 6, 2) := by decide +kernel
theorem d_Mo_sideOf_19 : decode c_Mo_sideOf 19 = .ok (.iload 6, 2) := by decide +kernel
theorem d_Mo_sideOf_21 : decode c_Mo_sideOf 21 = .ok (.iload_n 1, 1) := by decide +kernel
theorem d_Mo_sideOf_22 : decode c_Mo_sideOf 22 = .ok (.if_icmp .ge 78, 3) := by decide +kernel
theorem d_Mo_sideOf_25 : decode c_Mo_sideOf 25 = .ok (.aload_n 0, 1) := by decide +kernel
theorem d_Mo_sideOf_26 : decode c_Mo_sideOf 26 = .ok (.getfield 57, 3) := by decide +kernel
theorem d_Mo_sideOf_29 : decode c_Mo_sideOf 29 = .ok (.iload 6, 2) := by decide +kernel
theorem d_Mo_sideOf_31 : decode c_Mo_sideOf 31 = .ok (.iaload, 1) := by decide +kernel
theorem d_Mo_sideOf_32 : decode c_Mo_sideOf 32 = .ok (.istore 7, 2) := by decide +kernel
theorem d_Mo_sideOf_34 : decode c_Mo_sideOf 34 = .ok (.iload 6, 2) := by decide +kernel
theorem d_Mo_sideOf_36 : decode c_Mo_sideOf 36 = .ok (.iload_n 2, 1) := by decide +kernel
theorem d_Mo_sideOf_37 : decode c_Mo_sideOf 37 = .ok (.if_icmp .eq 57, 3) := by decide +kernel
theorem d_Mo_sideOf_40 : decode c_Mo_sideOf 40 = .ok (.iload 4, 2) := by decide +kernel
theorem d_Mo_sideOf_42 : decode c_Mo_sideOf 42 = .ok (.aload_n 0, 1) := by decide +kernel
theorem d_Mo_sideOf_43 : decode c_Mo_sideOf 43 = .ok (.getfield 22, 3) := by decide +kernel
theorem d_Mo_sideOf_46 : decode c_Mo_sideOf 46 = .ok (.iload 7, 2) := by decide +kernel
theorem d_Mo_sideOf_48 : decode c_Mo_sideOf 48 = .ok (.iaload, 1) := by decide +kernel
theorem d_Mo_sideOf_49 : decode c_Mo_sideOf 49 = .ok (.invokestatic 98, 3) := by decide +kernel
theorem d_Mo_sideOf_52 : decode c_Mo_sideOf 52 = .ok (.iload 4, 2) := by decide +kernel
theorem d_Mo_sideOf_54 : decode c_Mo_sideOf 54 = .ok (.aload_n 0, 1) := by decide +kernel
theorem d_Mo_sideOf_55 : decode c_Mo_sideOf 55 = .ok (.getfield 25, 3) := by decide +kernel
theorem d_Mo_sideOf_58 : decode c_Mo_sideOf 58 = .ok (.iload 7, 2) := by decide +kernel
theorem d_Mo_sideOf_60 : decode c_Mo_sideOf 60 = .ok (.iaload, 1) := by decide +kernel
theorem d_Mo_sideOf_61 : decode c_Mo_sideOf 61 = .ok (.invokestatic 98, 3) := by decide +kernel
theorem d_Mo_sideOf_64 : decode c_Mo_sideOf 64 = .ok (.if_icmp .eq 30, 3) := by decide +kernel
theorem d_Mo_sideOf_67 : decode c_Mo_sideOf 67 = .ok (.iload 4, 2) := by decide +kernel
theorem d_Mo_sideOf_69 : decode c_Mo_sideOf 69 = .ok (.iconst 1, 1) := by decide +kernel
theorem d_Mo_sideOf_70 : decode c_Mo_sideOf 70 = .ok (.aload_n 0, 1) := by decide +kernel
theorem d_Mo_sideOf_71 : decode c_Mo_sideOf 71 = .ok (.getfield 22, 3) := by decide +kernel
theorem d_Mo_sideOf_74 : decode c_Mo_sideOf 74 = .ok (.iload 7, 2) := by decide +kernel
theorem d_Mo_sideOf_76 : decode c_Mo_sideOf 76 = .ok (.iaload, 1) := by decide +kernel
theorem d_Mo_sideOf_77 : decode c_Mo_sideOf 77 = .ok (.ishl, 1) := by decide +kernel
theorem d_Mo_sideOf_78 : decode c_Mo_sideOf 78 = .ok (.iconst 1, 1) := by decide +kernel
theorem d_Mo_sideOf_79 : decode c_Mo_sideOf 79 = .ok (.aload_n 0, 1) := by decide +kernel
theorem d_Mo_sideOf_80 : decode c_Mo_sideOf 80 = .ok (.getfield 25, 3) := by decide +kernel
theorem d_Mo_sideOf_83 : decode c_Mo_sideOf 83 = .ok (.iload 7, 2) := by decide +kernel
theorem d_Mo_sideOf_85 : decode c_Mo_sideOf 85 = .ok (.iaload, 1) := by decide +kernel
theorem d_Mo_sideOf_86 : decode c_Mo_sideOf 86 = .ok (.ishl, 1) := by decide +kernel
theorem d_Mo_sideOf_87 : decode c_Mo_sideOf 87 = .ok (.ior, 1) := by decide +kernel
theorem d_Mo_sideOf_88 : decode c_Mo_sideOf 88 = .ok (.ior, 1) := by decide +kernel
theorem d_Mo_sideOf_89 : decode c_Mo_sideOf 89 = .ok (.istore 4, 2) := by decide +kernel
theorem d_Mo_sideOf_91 : decode c_Mo_sideOf 91 = .ok (.iconst 1, 1) := by decide +kernel
theorem d_Mo_sideOf_92 : decode c_Mo_sideOf 92 = .ok (.istore 5, 2) := by decide +kernel
theorem d_Mo_sideOf_94 : decode c_Mo_sideOf 94 = .ok (.iinc 6 1, 3) := by decide +kernel
theorem d_Mo_sideOf_97 : decode c_Mo_sideOf 97 = .ok (.goto (-78), 3) := by decide +kernel
theorem d_Mo_sideOf_100 : decode c_Mo_sideOf 100 = .ok (.goto (-92), 3) := by decide +kernel
theorem d_Mo_sideOf_103 : decode c_Mo_sideOf 103 = .ok (.iload 4, 2) := by decide +kernel
theorem d_Mo_sideOf_105 : decode c_Mo_sideOf 105 = .ok (.ireturn, 1) := by decide +kernel
theorem d_Mo_plant_0 : decode c_Mo_plant 0 = .ok (.iconst 0, 1) := by decide +kernel
theorem d_Mo_plant_1 : decode c_Mo_plant 1 = .ok (.istore_n 2, 1) := by decide +kernel
theorem d_Mo_plant_2 : decode c_Mo_plant 2 = .ok (.iload_n 2, 1) := by decide +kernel
theorem d_Mo_plant_3 : decode c_Mo_plant 3 = .ok (.aload_n 0, 1) := by decide +kernel
theorem d_Mo_plant_4 : decode c_Mo_plant 4 = .ok (.getfield 102, 3) := by decide +kernel
theorem d_Mo_plant_7 : decode c_Mo_plant 7 = .ok (.if_icmp .ge 59, 3) := by decide +kernel
theorem d_Mo_plant_10 : decode c_Mo_plant 10 = .ok (.iload_n 1, 1) := by decide +kernel
theorem d_Mo_plant_11 : decode c_Mo_plant 11 = .ok (.aload_n 0, 1) := by decide +kernel
theorem d_Mo_plant_12 : decode c_Mo_plant 12 = .ok (.getfield 22, 3) := by decide +kernel
theorem d_Mo_plant_15 : decode c_Mo_plant 15 = .ok (.iload_n 2, 1) := by decide +kernel
theorem d_Mo_plant_16 : decode c_Mo_plant 16 = .ok (.iaload, 1) := by decide +kernel
theorem d_Mo_plant_17 : decode c_Mo_plant 17 = .ok (.invokestatic 98, 3) := by decide +kernel
theorem d_Mo_plant_20 : decode c_Mo_plant 20 = .ok (.ifCond .eq 20, 3) := by decide +kernel
theorem d_Mo_plant_23 : decode c_Mo_plant 23 = .ok (.iload_n 1, 1) := by decide +kernel
theorem d_Mo_plant_24 : decode c_Mo_plant 24 = .ok (.aload_n 0, 1) := by decide +kernel
theorem d_Mo_plant_25 : decode c_Mo_plant 25 = .ok (.getfield 25, 3) := by decide +kernel
theorem d_Mo_plant_28 : decode c_Mo_plant 28 = .ok (.iload_n 2, 1) := by decide +kernel
theorem d_Mo_plant_29 : decode c_Mo_plant 29 = .ok (.iaload, 1) := by decide +kernel
theorem d_Mo_plant_30 : decode c_Mo_plant 30 = .ok (.invokestatic 98, 3) := by decide +kernel
theorem d_Mo_plant_33 : decode c_Mo_plant 33 = .ok (.ifCond .eq 7, 3) := by decide +kernel
theorem d_Mo_plant_36 : decode c_Mo_plant 36 = .ok (.iconst 1, 1) := by decide +kernel
theorem d_Mo_plant_37 : decode c_Mo_plant 37 = .ok (.goto 4, 3) := by decide +kernel
theorem d_Mo_plant_40 : decode c_Mo_plant 40 = .ok (.iconst 0, 1) := by decide +kernel
theorem d_Mo_plant_41 : decode c_Mo_plant 41 = .ok (.istore_n 3, 1) := by decide +kernel
theorem d_Mo_plant_42 : decode c_Mo_plant 42 = .ok (.aload_n 0, 1) := by decide +kernel
theorem d_Mo_plant_43 : decode c_Mo_plant 43 = .ok (.getfield 54, 3) := by decide +kernel
theorem d_Mo_plant_46 : decode c_Mo_plant 46 = .ok (.iload_n 2, 1) := by decide +kernel
theorem d_Mo_plant_47 : decode c_Mo_plant 47 = .ok (.iload_n 3, 1) := by decide +kernel
theorem d_Mo_plant_48 : decode c_Mo_plant 48 = .ok (.ifCond .eq 10, 3) := by decide +kernel
theorem d_Mo_plant_51 : decode c_Mo_plant 51 = .ok (.aload_n 0, 1) := by decide +kernel
theorem d_Mo_plant_52 : decode c_Mo_plant 52 = .ok (.invokevirtual 196, 3) := by decide +kernel
theorem d_Mo_plant_55 : decode c_Mo_plant 55 = .ok (.goto 4, 3) := by decide +kernel
theorem d_Mo_plant_58 : decode c_Mo_plant 58 = .ok (.iconst (-1), 1) := by decide +kernel
theorem d_Mo_plant_59 : decode c_Mo_plant 59 = .ok (.iastore, 1) := by decide +kernel
theorem d_Mo_plant_60 : decode c_Mo_plant 60 = .ok (.iinc 2 1, 3) := by decide +kernel
theorem d_Mo_plant_63 : decode c_Mo_plant 63 = .ok (.goto (-61), 3) := by decide +kernel
theorem d_Mo_plant_66 : decode c_Mo_plant 66 = .ok (.iconst 0, 1) := by decide +kernel
theorem d_Mo_plant_67 : decode c_Mo_plant 67 = .ok (.istore_n 2, 1) := by decide +kernel
theorem d_Mo_plant_68 : decode c_Mo_plant 68 = .ok (.iload_n 2, 1) := by decide +kernel
theorem d_Mo_plant_69 : decode c_Mo_plant 69 = .ok (.aload_n 0, 1) := by decide +kernel
theorem d_Mo_plant_70 : decode c_Mo_plant 70 = .ok (.getfield 91, 3) := by decide +kernel
theorem d_Mo_plant_73 : decode c_Mo_plant 73 = .ok (.if_icmp .ge 16, 3) := by decide +kernel
theorem d_Mo_plant_76 : decode c_Mo_plant 76 = .ok (.aload_n 0, 1) := by decide +kernel
theorem d_Mo_plant_77 : decode c_Mo_plant 77 = .ok (.getfield 60, 3) := by decide +kernel
theorem d_Mo_plant_80 : decode c_Mo_plant 80 = .ok (.iload_n 2, 1) := by decide +kernel
theorem d_Mo_plant_81 : decode c_Mo_plant 81 = .ok (.iload_n 2, 1) := by decide +kernel
theorem d_Mo_plant_82 : decode c_Mo_plant 82 = .ok (.iastore, 1) := by decide +kernel
theorem d_Mo_plant_83 : decode c_Mo_plant 83 = .ok (.iinc 2 1, 3) := by decide +kernel
theorem d_Mo_plant_86 : decode c_Mo_plant 86 = .ok (.goto (-18), 3) := by decide +kernel
theorem d_Mo_plant_89 : decode c_Mo_plant 89 = .ok (.iconst 0, 1) := by decide +kernel
theorem d_Mo_plant_90 : decode c_Mo_plant 90 = .ok (.istore_n 2, 1) := by decide +kernel
theorem d_Mo_plant_91 : decode c_Mo_plant 91 = .ok (.iconst 1, 1) := by decide +kernel
theorem d_Mo_plant_92 : decode c_Mo_plant 92 = .ok (.istore_n 3, 1) := by decide +kernel
theorem d_Mo_plant_93 : decode c_Mo_plant 93 = .ok (.iload_n 3, 1) := by decide +kernel
theorem d_Mo_plant_94 : decode c_Mo_plant 94 = .ok (.ifCond .eq 231, 3) := by decide +kernel
theorem d_Mo_plant_97 : decode c_Mo_plant 97 = .ok (.iconst (-1), 1) := by decide +kernel
theorem d_Mo_plant_98 : decode c_Mo_plant 98 = .ok (.istore 4, 2) := by decide +kernel
theorem d_Mo_plant_100 : decode c_Mo_plant 100 = .ok (.iconst 0, 1) := by decide +kernel
theorem d_Mo_plant_101 : decode c_Mo_plant 101 = .ok (.istore 5, 2) := by decide +kernel
theorem d_Mo_plant_103 : decode c_Mo_plant 103 = .ok (.iload 5, 2) := by decide +kernel
theorem d_Mo_plant_105 : decode c_Mo_plant 105 = .ok (.aload_n 0, 1) := by decide +kernel
theorem d_Mo_plant_106 : decode c_Mo_plant 106 = .ok (.getfield 102, 3) := by decide +kernel
theorem d_Mo_plant_109 : decode c_Mo_plant 109 = .ok (.if_icmp .ge 50, 3) := by decide +kernel
theorem d_Mo_plant_112 : decode c_Mo_plant 112 = .ok (.aload_n 0, 1) := by decide +kernel
theorem d_Mo_plant_113 : decode c_Mo_plant 113 = .ok (.getfield 54, 3) := by decide +kernel
theorem d_Mo_plant_116 : decode c_Mo_plant 116 = .ok (.iload 5, 2) := by decide +kernel
theorem d_Mo_plant_118 : decode c_Mo_plant 118 = .ok (.iaload, 1) := by decide +kernel
theorem d_Mo_plant_119 : decode c_Mo_plant 119 = .ok (.ifCond .lt 30, 3) := by decide +kernel
theorem d_Mo_plant_122 : decode c_Mo_plant 122 = .ok (.iload 4, 2) := by decide +kernel
theorem d_Mo_plant_124 : decode c_Mo_plant 124 = .ok (.ifCond .lt 20, 3) := by decide +kernel
theorem d_Mo_plant_127 : decode c_Mo_plant 127 = .ok (.aload_n 0, 1) := by decide +kernel
theorem d_Mo_plant_128 : decode c_Mo_plant 128 = .ok (.getfield 54, 3) := by decide +kernel
theorem d_Mo_plant_131 : decode c_Mo_plant 131 = .ok (.iload 5, 2) := by decide +kernel
theorem d_Mo_plant_133 : decode c_Mo_plant 133 = .ok (.iaload, 1) := by decide +kernel
theorem d_Mo_plant_134 : decode c_Mo_plant 134 = .ok (.aload_n 0, 1) := by decide +kernel
theorem d_Mo_plant_135 : decode c_Mo_plant 135 = .ok (.getfield 54, 3) := by decide +kernel
theorem d_Mo_plant_138 : decode c_Mo_plant 138 = .ok (.iload 4, 2) := by decide +kernel
theorem d_Mo_plant_140 : decode c_Mo_plant 140 = .ok (.iaload, 1) := by decide +kernel
theorem d_Mo_plant_141 : decode c_Mo_plant 141 = .ok (.if_icmp .ge 8, 3) := by decide +kernel
theorem d_Mo_plant_144 : decode c_Mo_plant 144 = .ok (.iload 5, 2) := by decide +kernel
theorem d_Mo_plant_146 : decode c_Mo_plant 146 = .ok (.goto 5, 3) := by decide +kernel
theorem d_Mo_plant_149 : decode c_Mo_plant 149 = .ok (.iload 4, 2) := by decide +kernel
theorem d_Mo_plant_151 : decode c_Mo_plant 151 = .ok (.istore 4, 2) := by decide +kernel
theorem d_Mo_plant_153 : decode c_Mo_plant 153 = .ok (.iinc 5 1, 3) := by decide +kernel
theorem d_Mo_plant_156 : decode c_Mo_plant 156 = .ok (.goto (-53), 3) := by decide +kernel
theorem d_Mo_plant_159 : decode c_Mo_plant 159 = .ok (.iload 4, 2) := by decide +kernel
theorem d_Mo_plant_161 : decode c_Mo_plant 161 = .ok (.ifCond .lt 7, 3) := by decide +kernel
theorem d_Mo_plant_164 : decode c_Mo_plant 164 = .ok (.iconst 1, 1) := by decide +kernel
theorem d_Mo_plant_165 : decode c_Mo_plant 165 = .ok (.goto 4, 3) := by decide +kernel
theorem d_Mo_plant_168 : decode c_Mo_plant 168 = .ok (.iconst 0, 1) := by decide +kernel
theorem d_Mo_plant_169 : decode c_Mo_plant 169 = .ok (.istore_n 3, 1) := by decide +kernel
theorem d_Mo_plant_170 : decode c_Mo_plant 170 = .ok (.iload_n 3, 1) := by decide +kernel
theorem d_Mo_plant_171 : decode c_Mo_plant 171 = .ok (.ifCond .eq 151, 3) := by decide +kernel
theorem d_Mo_plant_174 : decode c_Mo_plant 174 = .ok (.aload_n 0, 1) := by decide +kernel
theorem d_Mo_plant_175 : decode c_Mo_plant 175 = .ok (.getfield 54, 3) := by decide +kernel
theorem d_Mo_plant_178 : decode c_Mo_plant 178 = .ok (.iload 4, 2) := by decide +kernel
theorem d_Mo_plant_180 : decode c_Mo_plant 180 = .ok (.iconst (-1), 1) := by decide +kernel
theorem d_Mo_plant_181 : decode c_Mo_plant 181 = .ok (.iastore, 1) := by decide +kernel
theorem d_Mo_plant_182 : decode c_Mo_plant 182 = .ok (.aload_n 0, 1) := by decide +kernel
theorem d_Mo_plant_183 : decode c_Mo_plant 183 = .ok (.getfield 60, 3) := by decide +kernel
theorem d_Mo_plant_186 : decode c_Mo_plant 186 = .ok (.aload_n 0, 1) := by decide +kernel
theorem d_Mo_plant_187 : decode c_Mo_plant 187 = .ok (.getfield 22, 3) := by decide +kernel
theorem d_Mo_plant_190 : decode c_Mo_plant 190 = .ok (.iload 4, 2) := by decide +kernel
theorem d_Mo_plant_192 : decode c_Mo_plant 192 = .ok (.iaload, 1) := by decide +kernel
theorem d_Mo_plant_193 : decode c_Mo_plant 193 = .ok (.iaload, 1) := by decide +kernel
theorem d_Mo_plant_194 : decode c_Mo_plant 194 = .ok (.istore 5, 2) := by decide +kernel
theorem d_Mo_plant_196 : decode c_Mo_plant 196 = .ok (.aload_n 0, 1) := by decide +kernel
theorem d_Mo_plant_197 : decode c_Mo_plant 197 = .ok (.getfield 60, 3) := by decide +kernel
theorem d_Mo_plant_200 : decode c_Mo_plant 200 = .ok (.aload_n 0, 1) := by decide +kernel
theorem d_Mo_plant_201 : decode c_Mo_plant 201 = .ok (.getfield 25, 3) := by decide +kernel
theorem d_Mo_plant_204 : decode c_Mo_plant 204 = .ok (.iload 4, 2) := by decide +kernel
theorem d_Mo_plant_206 : decode c_Mo_plant 206 = .ok (.iaload, 1) := by decide +kernel
theorem d_Mo_plant_207 : decode c_Mo_plant 207 = .ok (.iaload, 1) := by decide +kernel
theorem d_Mo_plant_208 : decode c_Mo_plant 208 = .ok (.istore 6, 2) := by decide +kernel
theorem d_Mo_plant_210 : decode c_Mo_plant 210 = .ok (.iload 5, 2) := by decide +kernel
theorem d_Mo_plant_212 : decode c_Mo_plant 212 = .ok (.iload 6, 2) := by decide +kernel
theorem d_Mo_plant_214 : decode c_Mo_plant 214 = .ok (.if_icmp .eq 108, 3) := by decide +kernel
theorem d_Mo_plant_217 : decode c_Mo_plant 217 = .ok (.iconst 0, 1) := by decide +kernel
theorem d_Mo_plant_218 : decode c_Mo_plant 218 = .ok (.istore 7, 2) := by decide +kernel
theorem d_Mo_plant_220 : decode c_Mo_plant 220 = .ok (.iload 7, 2) := by decide +kernel
theorem d_Mo_plant_222 : decode c_Mo_plant 222 = .ok (.aload_n 0, 1) := by decide +kernel
theorem d_Mo_plant_223 : decode c_Mo_plant 223 = .ok (.getfield 91, 3) := by decide +kernel
theorem d_Mo_plant_226 : decode c_Mo_plant 226 = .ok (.if_icmp .ge 40, 3) := by decide +kernel
theorem d_Mo_plant_229 : decode c_Mo_plant 229 = .ok (.aload_n 0, 1) := by decide +kernel
theorem d_Mo_plant_230 : decode c_Mo_plant 230 = .ok (.getfield 60, 3) := by decide +kernel
theorem d_Mo_plant_233 : decode c_Mo_plant 233 = .ok (.iload 7, 2) := by decide +kernel
theorem d_Mo_plant_235 : decode c_Mo_plant 235 = .ok (.aload_n 0, 1) := by decide +kernel
theorem d_Mo_plant_236 : decode c_Mo_plant 236 = .ok (.getfield 60, 3) := by decide +kernel
theorem d_Mo_plant_239 : decode c_Mo_plant 239 = .ok (.iload 7, 2) := by decide +kernel
theorem d_Mo_plant_241 : decode c_Mo_plant 241 = .ok (.iaload, 1) := by decide +kernel
theorem d_Mo_plant_242 : decode c_Mo_plant 242 = .ok (.iload 6, 2) := by decide +kernel
theorem d_Mo_plant_244 : decode c_Mo_plant 244 = .ok (.if_icmp .ne 8, 3) := by decide +kernel
theorem d_Mo_plant_247 : decode c_Mo_plant 247 = .ok (.iload 5, 2) := by decide +kernel
theorem d_Mo_plant_249 : decode c_Mo_plant 249 = .ok (.goto 10, 3) := by decide +kernel
theorem d_Mo_plant_252 : decode c_Mo_plant 252 = .ok (.aload_n 0, 1) := by decide +kernel
theorem d_Mo_plant_253 : decode c_Mo_plant 253 = .ok (.getfield 60, 3) := by decide +kernel
theorem d_Mo_plant_256 : decode c_Mo_plant 256 = .ok (.iload 7, 2) := by decide +kernel
theorem d_Mo_plant_258 : decode c_Mo_plant 258 = .ok (.iaload, 1) := by decide +kernel
theorem d_Mo_plant_259 : decode c_Mo_plant 259 = .ok (.iastore, 1) := by decide +kernel
theorem d_Mo_plant_260 : decode c_Mo_plant 260 = .ok (.iinc 7 1, 3) := by decide +kernel
theorem d_Mo_plant_263 : decode c_Mo_plant 263 = .ok (.goto (-43), 3) := by decide +kernel
theorem d_Mo_plant_266 : decode c_Mo_plant 266 = .ok (.iload_n 2, 1) := by decide +kernel
theorem d_Mo_plant_267 : decode c_Mo_plant 267 = .ok (.istore 7, 2) := by decide +kernel
theorem d_Mo_plant_269 : decode c_Mo_plant 269 = .ok (.iload 7, 2) := by decide +kernel
theorem d_Mo_plant_271 : decode c_Mo_plant 271 = .ok (.ifCond .le 39, 3) := by decide +kernel
theorem d_Mo_plant_274 : decode c_Mo_plant 274 = .ok (.aload_n 0, 1) := by decide +kernel
theorem d_Mo_plant_275 : decode c_Mo_plant 275 = .ok (.getfield 57, 3) := by decide +kernel
theorem d_Mo_plant_278 : decode c_Mo_plant 278 = .ok (.iload 7, 2) := by decide +kernel
theorem d_Mo_plant_280 : decode c_Mo_plant 280 = .ok (.iconst 1, 1) := by decide +kernel
theorem d_Mo_plant_281 : decode c_Mo_plant 281 = .ok (.isub, 1) := by decide +kernel
theorem d_Mo_plant_282 : decode c_Mo_plant 282 = .ok (.iaload, 1) := by decide +kernel
theorem d_Mo_plant_283 : decode c_Mo_plant 283 = .ok (.iload 4, 2) := by decide +kernel
theorem d_Mo_plant_285 : decode c_Mo_plant 285 = .ok (.if_icmp .le 25, 3) := by decide +kernel
theorem d_Mo_plant_288 : decode c_Mo_plant 288 = .ok (.aload_n 0, 1) := by decide +kernel
theorem d_Mo_plant_289 : decode c_Mo_plant 289 = .ok (.getfield 57, 3) := by decide +kernel
theorem d_Mo_plant_292 : decode c_Mo_plant 292 = .ok (.iload 7, 2) := by decide +kernel
theorem d_Mo_plant_294 : decode c_Mo_plant 294 = .ok (.aload_n 0, 1) := by decide +kernel
theorem d_Mo_plant_295 : decode c_Mo_plant 295 = .ok (.getfield 57, 3) := by decide +kernel
theorem d_Mo_plant_298 : decode c_Mo_plant 298 = .ok (.iload 7, 2) := by decide +kernel
theorem d_Mo_plant_300 : decode c_Mo_plant 300 = .ok (.iconst 1, 1) := by decide +kernel
theorem d_Mo_plant_301 : decode c_Mo_plant 301 = .ok (.isub, 1) := by decide +kernel
theorem d_Mo_plant_302 : decode c_Mo_plant 302 = .ok (.iaload, 1) := by decide +kernel
theorem d_Mo_plant_303 : decode c_Mo_plant 303 = .ok (.iastore, 1) := by decide +kernel
theorem d_Mo_plant_304 : decode c_Mo_plant 304 = .ok (.iinc 7 (-1), 3) := by decide +kernel
theorem d_Mo_plant_307 : decode c_Mo_plant 307 = .ok (.goto (-38), 3) := by decide +kernel
theorem d_Mo_plant_310 : decode c_Mo_plant 310 = .ok (.aload_n 0, 1) := by decide +kernel
theorem d_Mo_plant_311 : decode c_Mo_plant 311 = .ok (.getfield 57, 3) := by decide +kernel
theorem d_Mo_plant_314 : decode c_Mo_plant 314 = .ok (.iload 7, 2) := by decide +kernel
theorem d_Mo_plant_316 : decode c_Mo_plant 316 = .ok (.iload 4, 2) := by decide +kernel
theorem d_Mo_plant_318 : decode c_Mo_plant 318 = .ok (.iastore, 1) := by decide +kernel
theorem d_Mo_plant_319 : decode c_Mo_plant 319 = .ok (.iinc 2 1, 3) := by decide +kernel
theorem d_Mo_plant_322 : decode c_Mo_plant 322 = .ok (.goto (-229), 3) := by decide +kernel
theorem d_Mo_plant_325 : decode c_Mo_plant 325 = .ok (.iload_n 2, 1) := by decide +kernel
theorem d_Mo_plant_326 : decode c_Mo_plant 326 = .ok (.ireturn, 1) := by decide +kernel
theorem d_Mo_stepOn_0 : decode c_Mo_stepOn 0 = .ok (.aload_n 0, 1) := by decide +kernel
theorem d_Mo_stepOn_1 : decode c_Mo_stepOn 1 = .ok (.iconst (-1), 1) := by decide +kernel
theorem d_Mo_stepOn_2 : decode c_Mo_stepOn 2 = .ok (.invokevirtual 199, 3) := by decide +kernel
theorem d_Mo_stepOn_5 : decode c_Mo_stepOn 5 = .ok (.istore_n 1, 1) := by decide +kernel
theorem d_Mo_stepOn_6 : decode c_Mo_stepOn 6 = .ok (.aload_n 0, 1) := by decide +kernel
theorem d_Mo_stepOn_7 : decode c_Mo_stepOn 7 = .ok (.getfield 164, 3) := by decide +kernel
theorem d_Mo_stepOn_10 : decode c_Mo_stepOn 10 = .ok (.ifCond .ne 5, 3) := by decide +kernel
theorem d_Mo_stepOn_13 : decode c_Mo_stepOn 13 = .ok (.iconst 0, 1) := by decide +kernel
theorem d_Mo_stepOn_14 : decode c_Mo_stepOn 14 = .ok (.ireturn, 1) := by decide +kernel
theorem d_Mo_stepOn_15 : decode c_Mo_stepOn 15 = .ok (.aload_n 0, 1) := by decide +kernel
theorem d_Mo_stepOn_16 : decode c_Mo_stepOn 16 = .ok (.aload_n 0, 1) := by decide +kernel
theorem d_Mo_stepOn_17 : decode c_Mo_stepOn 17 = .ok (.invokevirtual 196, 3) := by decide +kernel
theorem d_Mo_stepOn_20 : decode c_Mo_stepOn 20 = .ok (.aload_n 0, 1) := by decide +kernel
theorem d_Mo_stepOn_21 : decode c_Mo_stepOn 21 = .ok (.getfield 164, 3) := by decide +kernel
theorem d_Mo_stepOn_24 : decode c_Mo_stepOn 24 = .ok (.irem, 1) := by decide +kernel
theorem d_Mo_stepOn_25 : decode c_Mo_stepOn 25 = .ok (.invokevirtual 199, 3) := by decide +kernel
theorem d_Mo_stepOn_28 : decode c_Mo_stepOn 28 = .ok (.istore_n 2, 1) := by decide +kernel
theorem d_Mo_stepOn_29 : decode c_Mo_stepOn 29 = .ok (.aload_n 0, 1) := by decide +kernel
theorem d_Mo_stepOn_30 : decode c_Mo_stepOn 30 = .ok (.getfield 51, 3) := by decide +kernel
theorem d_Mo_stepOn_33 : decode c_Mo_stepOn 33 = .ok (.aload_n 0, 1) := by decide +kernel
theorem d_Mo_stepOn_34 : decode c_Mo_stepOn 34 = .ok (.getfield 22, 3) := by decide +kernel
theorem d_Mo_stepOn_37 : decode c_Mo_stepOn 37 = .ok (.iload_n 2, 1) := by decide +kernel
theorem d_Mo_stepOn_38 : decode c_Mo_stepOn 38 = .ok (.iaload, 1) := by decide +kernel
theorem d_Mo_stepOn_39 : decode c_Mo_stepOn 39 = .ok (.iaload, 1) := by decide +kernel
theorem d_Mo_stepOn_40 : decode c_Mo_stepOn 40 = .ok (.aload_n 0, 1) := by decide +kernel
theorem d_Mo_stepOn_41 : decode c_Mo_stepOn 41 = .ok (.getfield 51, 3) := by decide +kernel
theorem d_Mo_stepOn_44 : decode c_Mo_stepOn 44 = .ok (.aload_n 0, 1) := by decide +kernel
theorem d_Mo_stepOn_45 : decode c_Mo_stepOn 45 = .ok (.getfield 25, 3) := by decide +kernel
theorem d_Mo_stepOn_48 : decode c_Mo_stepOn 48 = .ok (.iload_n 2, 1) := by decide +kernel
theorem d_Mo_stepOn_49 : decode c_Mo_stepOn 49 = .ok (.iaload, 1) := by decide +kernel
theorem d_Mo_stepOn_50 : decode c_Mo_stepOn 50 = .ok (.iaload, 1) := by decide +kernel
theorem d_Mo_stepOn_51 : decode c_Mo_stepOn 51 = .ok (.if_icmp .ge 17, 3) := by decide +kernel
theorem d_Mo_stepOn_54 : decode c_Mo_stepOn 54 = .ok (.aload_n 0, 1) := by decide +kernel
theorem d_Mo_stepOn_55 : decode c_Mo_stepOn 55 = .ok (.getfield 51, 3) := by decide +kernel
theorem d_Mo_stepOn_58 : decode c_Mo_stepOn 58 = .ok (.aload_n 0, 1) := by decide +kernel
theorem d_Mo_stepOn_59 : decode c_Mo_stepOn 59 = .ok (.getfield 22, 3) := by decide +kernel
theorem d_Mo_stepOn_62 : decode c_Mo_stepOn 62 = .ok (.iload_n 2, 1) := by decide +kernel
theorem d_Mo_stepOn_63 : decode c_Mo_stepOn 63 = .ok (.iaload, 1) := by decide +kernel
theorem d_Mo_stepOn_64 : decode c_Mo_stepOn 64 = .ok (.iaload, 1) := by decide +kernel
theorem d_Mo_stepOn_65 : decode c_Mo_stepOn 65 = .ok (.goto 14, 3) := by decide +kernel
theorem d_Mo_stepOn_68 : decode c_Mo_stepOn 68 = .ok (.aload_n 0, 1) := by decide +kernel
theorem d_Mo_stepOn_69 : decode c_Mo_stepOn 69 = .ok (.getfield 51, 3) := by decide +kernel
theorem d_Mo_stepOn_72 : decode c_Mo_stepOn 72 = .ok (.aload_n 0, 1) := by decide +kernel
theorem d_Mo_stepOn_73 : decode c_Mo_stepOn 73 = .ok (.getfield 25, 3) := by decide +kernel
theorem d_Mo_stepOn_76 : decode c_Mo_stepOn 76 = .ok (.iload_n 2, 1) := by decide +kernel
theorem d_Mo_stepOn_77 : decode c_Mo_stepOn 77 = .ok (.iaload, 1) := by decide +kernel
theorem d_Mo_stepOn_78 : decode c_Mo_stepOn 78 = .ok (.iaload, 1) := by decide +kernel
theorem d_Mo_stepOn_79 : decode c_Mo_stepOn 79 = .ok (.istore_n 3, 1) := by decide +kernel
theorem d_Mo_stepOn_80 : decode c_Mo_stepOn 80 = .ok (.aload_n 0, 1) := by decide +kernel
theorem d_Mo_stepOn_81 : decode c_Mo_stepOn 81 = .ok (.getfield 51, 3) := by decide +kernel
theorem d_Mo_stepOn_84 : decode c_Mo_stepOn 84 = .ok (.aload_n 0, 1) := by decide +kernel
theorem d_Mo_stepOn_85 : decode c_Mo_stepOn 85 = .ok (.getfield 22, 3) := by decide +kernel
theorem d_Mo_stepOn_88 : decode c_Mo_stepOn 88 = .ok (.iload_n 2, 1) := by decide +kernel
theorem d_Mo_stepOn_89 : decode c_Mo_stepOn 89 = .ok (.iaload, 1) := by decide +kernel
theorem d_Mo_stepOn_90 : decode c_Mo_stepOn 90 = .ok (.iaload, 1) := by decide +kernel
theorem d_Mo_stepOn_91 : decode c_Mo_stepOn 91 = .ok (.aload_n 0, 1) := by decide +kernel
theorem d_Mo_stepOn_92 : decode c_Mo_stepOn 92 = .ok (.getfield 51, 3) := by decide +kernel
theorem d_Mo_stepOn_95 : decode c_Mo_stepOn 95 = .ok (.aload_n 0, 1) := by decide +kernel
theorem d_Mo_stepOn_96 : decode c_Mo_stepOn 96 = .ok (.getfield 25, 3) := by decide +kernel
theorem d_Mo_stepOn_99 : decode c_Mo_stepOn 99 = .ok (.iload_n 2, 1) := by decide +kernel
theorem d_Mo_stepOn_100 : decode c_Mo_stepOn 100 = .ok (.iaload, 1) := by decide +kernel
theorem d_Mo_stepOn_101 : decode c_Mo_stepOn 101 = .ok (.iaload, 1) := by decide +kernel
theorem d_Mo_stepOn_102 : decode c_Mo_stepOn 102 = .ok (.iadd, 1) := by decide +kernel
theorem d_Mo_stepOn_103 : decode c_Mo_stepOn 103 = .ok (.iload_n 3, 1) := by decide +kernel
theorem d_Mo_stepOn_104 : decode c_Mo_stepOn 104 = .ok (.isub, 1) := by decide +kernel
theorem d_Mo_stepOn_105 : decode c_Mo_stepOn 105 = .ok (.istore 4, 2) := by decide +kernel
theorem d_Mo_stepOn_107 : decode c_Mo_stepOn 107 = .ok (.aload_n 0, 1) := by decide +kernel
theorem d_Mo_stepOn_108 : decode c_Mo_stepOn 108 = .ok (.iload_n 3, 1) := by decide +kernel
theorem d_Mo_stepOn_109 : decode c_Mo_stepOn 109 = .ok (.invokevirtual 121, 3) := by decide +kernel
theorem d_Mo_stepOn_112 : decode c_Mo_stepOn 112 = .ok (.aload_n 0, 1) := by decide +kernel
theorem d_Mo_stepOn_113 : decode c_Mo_stepOn 113 = .ok (.iload 4, 2) := by decide +kernel
theorem d_Mo_stepOn_115 : decode c_Mo_stepOn 115 = .ok (.invokevirtual 121, 3) := by decide +kernel
theorem d_Mo_stepOn_118 : decode c_Mo_stepOn 118 = .ok (.ior, 1) := by decide +kernel
theorem d_Mo_stepOn_119 : decode c_Mo_stepOn 119 = .ok (.istore 5, 2) := by decide +kernel
theorem d_Mo_stepOn_121 : decode c_Mo_stepOn 121 = .ok (.aload_n 0, 1) := by decide +kernel
theorem d_Mo_stepOn_122 : decode c_Mo_stepOn 122 = .ok (.iload 5, 2) := by decide +kernel
theorem d_Mo_stepOn_124 : decode c_Mo_stepOn 124 = .ok (.invokevirtual 202, 3) := by decide +kernel
theorem d_Mo_stepOn_127 : decode c_Mo_stepOn 127 = .ok (.istore 6, 2) := by decide +kernel
theorem d_Mo_stepOn_129 : decode c_Mo_stepOn 129 = .ok (.iload 5, 2) := by decide +kernel
theorem d_Mo_stepOn_131 : decode c_Mo_stepOn 131 = .ok (.invokestatic 109, 3) := by decide +kernel
theorem d_Mo_stepOn_134 : decode c_Mo_stepOn 134 = .ok (.istore 7, 2) := by decide +kernel
theorem d_Mo_stepOn_136 : decode c_Mo_stepOn 136 = .ok (.iconst 0, 1) := by decide +kernel
theorem d_Mo_stepOn_137 : decode c_Mo_stepOn 137 = .ok (.istore 8, 2) := by decide +kernel
theorem d_Mo_stepOn_139 : decode c_Mo_stepOn 139 = .ok (.iconst 0, 1) := by decide +kernel
theorem d_Mo_stepOn_140 : decode c_Mo_stepOn 140 = .ok (.istore 9, 2) := by decide +kernel
theorem d_Mo_stepOn_142 : decode c_Mo_stepOn 142 = .ok (.iload 9, 2) := by decide +kernel
theorem d_Mo_stepOn_144 : decode c_Mo_stepOn 144 = .ok (.iload 6, 2) := by decide +kernel
theorem d_Mo_stepOn_146 : decode c_Mo_stepOn 146 = .ok (.if_icmp .ge 56, 3) := by decide +kernel
theorem d_Mo_stepOn_149 : decode c_Mo_stepOn 149 = .ok (.aload_n 0, 1) := by decide +kernel
theorem d_Mo_stepOn_150 : decode c_Mo_stepOn 150 = .ok (.iload 6, 2) := by decide +kernel
theorem d_Mo_stepOn_152 : decode c_Mo_stepOn 152 = .ok (.iload 9, 2) := by decide +kernel
theorem d_Mo_stepOn_154 : decode c_Mo_stepOn 154 = .ok (.iload 7, 2) := by decide +kernel
theorem d_Mo_stepOn_156 : decode c_Mo_stepOn 156 = .ok (.invokevirtual 205, 3) := by decide +kernel
theorem d_Mo_stepOn_159 : decode c_Mo_stepOn 159 = .ok (.istore 10, 2) := by decide +kernel
theorem d_Mo_stepOn_161 : decode c_Mo_stepOn 161 = .ok (.aload_n 0, 1) := by decide +kernel
theorem d_Mo_stepOn_162 : decode c_Mo_stepOn 162 = .ok (.iload 10, 2) := by decide +kernel
theorem d_Mo_stepOn_164 : decode c_Mo_stepOn 164 = .ok (.invokevirtual 133, 3) := by decide +kernel
theorem d_Mo_stepOn_167 : decode c_Mo_stepOn 167 = .ok (.ifCond .eq 29, 3) := by decide +kernel
theorem d_Mo_stepOn_170 : decode c_Mo_stepOn 170 = .ok (.aload_n 0, 1) := by decide +kernel
theorem d_Mo_stepOn_171 : decode c_Mo_stepOn 171 = .ok (.iload 5, 2) := by decide +kernel
theorem d_Mo_stepOn_173 : decode c_Mo_stepOn 173 = .ok (.iload 10, 2) := by decide +kernel
theorem d_Mo_stepOn_175 : decode c_Mo_stepOn 175 = .ok (.iconst (-1), 1) := by decide +kernel
theorem d_Mo_stepOn_176 : decode c_Mo_stepOn 176 = .ok (.ixor, 1) := by decide +kernel
theorem d_Mo_stepOn_177 : decode c_Mo_stepOn 177 = .ok (.iand, 1) := by decide +kernel
theorem d_Mo_stepOn_178 : decode c_Mo_stepOn 178 = .ok (.invokevirtual 133, 3) := by decide +kernel
theorem d_Mo_stepOn_181 : decode c_Mo_stepOn 181 = .ok (.ifCond .eq 15, 3) := by decide +kernel
theorem d_Mo_stepOn_184 : decode c_Mo_stepOn 184 = .ok (.aload_n 0, 1) := by decide +kernel
theorem d_Mo_stepOn_185 : decode c_Mo_stepOn 185 = .ok (.getfield 63, 3) := by decide +kernel
theorem d_Mo_stepOn_188 : decode c_Mo_stepOn 188 = .ok (.iload 8, 2) := by decide +kernel
theorem d_Mo_stepOn_190 : decode c_Mo_stepOn 190 = .ok (.iload 9, 2) := by decide +kernel
theorem d_Mo_stepOn_192 : decode c_Mo_stepOn 192 = .ok (.iastore, 1) := by decide +kernel
theorem d_Mo_stepOn_193 : decode c_Mo_stepOn 193 = .ok (.iinc 8 1, 3) := by decide +kernel
theorem d_Mo_stepOn_196 : decode c_Mo_stepOn 196 = .ok (.iinc 9 1, 3) := by decide +kernel
theorem d_Mo_stepOn_199 : decode c_Mo_stepOn 199 = .ok (.goto (-57), 3) := by decide +kernel
theorem d_Mo_stepOn_202 : decode c_Mo_stepOn 202 = .ok (.iload 8, 2) := by decide +kernel
theorem d_Mo_stepOn_204 : decode c_Mo_stepOn 204 = .ok (.ifCond .ne 5, 3) := by decide +kernel
theorem d_Mo_stepOn_207 : decode c_Mo_stepOn 207 = .ok (.iconst 0, 1) := by decide +kernel
theorem d_Mo_stepOn_208 : decode c_Mo_stepOn 208 = .ok (.ireturn, 1) := by decide +kernel
theorem d_Mo_stepOn_209 : decode c_Mo_stepOn 209 = .ok (.aload_n 0, 1) := by decide +kernel
theorem d_Mo_stepOn_210 : decode c_Mo_stepOn 210 = .ok (.iload 6, 2) := by decide +kernel
theorem d_Mo_stepOn_212 : decode c_Mo_stepOn 212 = .ok (.aload_n 0, 1) := by decide +kernel
theorem d_Mo_stepOn_213 : decode c_Mo_stepOn 213 = .ok (.getfield 63, 3) := by decide +kernel
theorem d_Mo_stepOn_216 : decode c_Mo_stepOn 216 = .ok (.aload_n 0, 1) := by decide +kernel
theorem d_Mo_stepOn_217 : decode c_Mo_stepOn 217 = .ok (.invokevirtual 196, 3) := by decide +kernel
theorem d_Mo_stepOn_220 : decode c_Mo_stepOn 220 = .ok (.iload 8, 2) := by decide +kernel
theorem d_Mo_stepOn_222 : decode c_Mo_stepOn 222 = .ok (.irem, 1) := by decide +kernel
theorem d_Mo_stepOn_223 : decode c_Mo_stepOn 223 = .ok (.iaload, 1) := by decide +kernel
theorem d_Mo_stepOn_224 : decode c_Mo_stepOn 224 = .ok (.iload 7, 2) := by decide +kernel
theorem d_Mo_stepOn_226 : decode c_Mo_stepOn 226 = .ok (.invokevirtual 205, 3) := by decide +kernel
theorem d_Mo_stepOn_229 : decode c_Mo_stepOn 229 = .ok (.istore 9, 2) := by decide +kernel
theorem d_Mo_stepOn_231 : decode c_Mo_stepOn 231 = .ok (.iconst 0, 1) := by decide +kernel
theorem d_Mo_stepOn_232 : decode c_Mo_stepOn 232 = .ok (.istore 10, 2) := by decide +kernel
theorem d_Mo_stepOn_234 : decode c_Mo_stepOn 234 = .ok (.iload 10, 2) := by decide +kernel
theorem d_Mo_stepOn_236 : decode c_Mo_stepOn 236 = .ok (.aload_n 0, 1) := by decide +kernel
theorem d_Mo_stepOn_237 : decode c_Mo_stepOn 237 = .ok (.getfield 91, 3) := by decide +kernel
theorem d_Mo_stepOn_240 : decode c_Mo_stepOn 240 = .ok (.if_icmp .ge 66, 3) := by decide +kernel
theorem d_Mo_stepOn_243 : decode c_Mo_stepOn 243 = .ok (.aload_n 0, 1) := by decide +kernel
theorem d_Mo_stepOn_244 : decode c_Mo_stepOn 244 = .ok (.getfield 66, 3) := by decide +kernel
theorem d_Mo_stepOn_247 : decode c_Mo_stepOn 247 = .ok (.iload 10, 2) := by decide +kernel
theorem d_Mo_stepOn_249 : decode c_Mo_stepOn 249 = .ok (.aload_n 0, 1) := by decide +kernel
theorem d_Mo_stepOn_250 : decode c_Mo_stepOn 250 = .ok (.getfield 51, 3) := by decide +kernel
theorem d_Mo_stepOn_253 : decode c_Mo_stepOn 253 = .ok (.iload 10, 2) := by decide +kernel
theorem d_Mo_stepOn_255 : decode c_Mo_stepOn 255 = .ok (.iaload, 1) := by decide +kernel
theorem d_Mo_stepOn_256 : decode c_Mo_stepOn 256 = .ok (.iastore, 1) := by decide +kernel
theorem d_Mo_stepOn_257 : decode c_Mo_stepOn 257 = .ok (.aload_n 0, 1) := by decide +kernel
theorem d_Mo_stepOn_258 : decode c_Mo_stepOn 258 = .ok (.getfield 51, 3) := by decide +kernel
theorem d_Mo_stepOn_261 : decode c_Mo_stepOn 261 = .ok (.iload 10, 2) := by decide +kernel
theorem d_Mo_stepOn_263 : decode c_Mo_stepOn 263 = .ok (.iload 9, 2) := by decide +kernel
theorem d_Mo_stepOn_265 : decode c_Mo_stepOn 265 = .ok (.iload 10, 2) := by decide +kernel
theorem d_Mo_stepOn_267 : decode c_Mo_stepOn 267 = .ok (.invokestatic 98, 3) := by decide +kernel
theorem d_Mo_stepOn_270 : decode c_Mo_stepOn 270 = .ok (.ifCond .eq 7, 3) := by decide +kernel
theorem d_Mo_stepOn_273 : decode c_Mo_stepOn 273 = .ok (.iload_n 3, 1) := by decide +kernel
theorem d_Mo_stepOn_274 : decode c_Mo_stepOn 274 = .ok (.goto 25, 3) := by decide +kernel
theorem d_Mo_stepOn_277 : decode c_Mo_stepOn 277 = .ok (.iload 5, 2) := by decide +kernel
theorem d_Mo_stepOn_279 : decode c_Mo_stepOn 279 = .ok (.iload 10, 2) := by decide +kernel
theorem d_Mo_stepOn_281 : decode c_Mo_stepOn 281 = .ok (.invokestatic 98, 3) := by decide +kernel
theorem d_Mo_stepOn_284 : decode c_Mo_stepOn 284 = .ok (.ifCond .eq 8, 3) := by decide +kernel
theorem d_Mo_stepOn_287 : decode c_Mo_stepOn 287 = .ok (.iload 4, 2) := by decide +kernel
theorem d_Mo_stepOn_289 : decode c_Mo_stepOn 289 = .ok (.goto 10, 3) := by decide +kernel
theorem d_Mo_stepOn_292 : decode c_Mo_stepOn 292 = .ok (.aload_n 0, 1) := by decide +kernel
theorem d_Mo_stepOn_293 : decode c_Mo_stepOn 293 = .ok (.getfield 51, 3) := by decide +kernel
theorem d_Mo_stepOn_296 : decode c_Mo_stepOn 296 = .ok (.iload 10, 2) := by decide +kernel
theorem d_Mo_stepOn_298 : decode c_Mo_stepOn 298 = .ok (.iaload, 1) := by decide +kernel
theorem d_Mo_stepOn_299 : decode c_Mo_stepOn 299 = .ok (.iastore, 1) := by decide +kernel
theorem d_Mo_stepOn_300 : decode c_Mo_stepOn 300 = .ok (.iinc 10 1, 3) := by decide +kernel
theorem d_Mo_stepOn_303 : decode c_Mo_stepOn 303 = .ok (.goto (-69), 3) := by decide +kernel
theorem d_Mo_stepOn_306 : decode c_Mo_stepOn 306 = .ok (.aload_n 0, 1) := by decide +kernel
theorem d_Mo_stepOn_307 : decode c_Mo_stepOn 307 = .ok (.iconst 0, 1) := by decide +kernel
theorem d_Mo_stepOn_308 : decode c_Mo_stepOn 308 = .ok (.invokevirtual 139, 3) := by decide +kernel
theorem d_Mo_stepOn_311 : decode c_Mo_stepOn 311 = .ok (.ifCond .eq 7, 3) := by decide +kernel
theorem d_Mo_stepOn_314 : decode c_Mo_stepOn 314 = .ok (.iconst 1, 1) := by decide +kernel
theorem d_Mo_stepOn_315 : decode c_Mo_stepOn 315 = .ok (.goto 4, 3) := by decide +kernel
theorem d_Mo_stepOn_318 : decode c_Mo_stepOn 318 = .ok (.iconst 0, 1) := by decide +kernel
theorem d_Mo_stepOn_319 : decode c_Mo_stepOn 319 = .ok (.istore 10, 2) := by decide +kernel
theorem d_Mo_stepOn_321 : decode c_Mo_stepOn 321 = .ok (.iconst 0, 1) := by decide +kernel
theorem d_Mo_stepOn_322 : decode c_Mo_stepOn 322 = .ok (.istore 11, 2) := by decide +kernel
theorem d_Mo_stepOn_324 : decode c_Mo_stepOn 324 = .ok (.iconst 0, 1) := by decide +kernel
theorem d_Mo_stepOn_325 : decode c_Mo_stepOn 325 = .ok (.istore 12, 2) := by decide +kernel
theorem d_Mo_stepOn_327 : decode c_Mo_stepOn 327 = .ok (.iload 12, 2) := by decide +kernel
theorem d_Mo_stepOn_329 : decode c_Mo_stepOn 329 = .ok (.aload_n 0, 1) := by decide +kernel
theorem d_Mo_stepOn_330 : decode c_Mo_stepOn 330 = .ok (.getfield 91, 3) := by decide +kernel
theorem d_Mo_stepOn_333 : decode c_Mo_stepOn 333 = .ok (.if_icmp .ge 67, 3) := by decide +kernel
theorem d_Mo_stepOn_336 : decode c_Mo_stepOn 336 = .ok (.aload_n 0, 1) := by decide +kernel
theorem d_Mo_stepOn_337 : decode c_Mo_stepOn 337 = .ok (.getfield 51, 3) := by decide +kernel
theorem d_Mo_stepOn_340 : decode c_Mo_stepOn 340 = .ok (.iload 12, 2) := by decide +kernel
theorem d_Mo_stepOn_342 : decode c_Mo_stepOn 342 = .ok (.iload 10, 2) := by decide +kernel
theorem d_Mo_stepOn_344 : decode c_Mo_stepOn 344 = .ok (.ifCond .eq 13, 3) := by decide +kernel
theorem d_Mo_stepOn_347 : decode c_Mo_stepOn 347 = .ok (.aload_n 0, 1) := by decide +kernel
theorem d_Mo_stepOn_348 : decode c_Mo_stepOn 348 = .ok (.getfield 66, 3) := by decide +kernel
theorem d_Mo_stepOn_351 : decode c_Mo_stepOn 351 = .ok (.iload 12, 2) := by decide +kernel
theorem d_Mo_stepOn_353 : decode c_Mo_stepOn 353 = .ok (.iaload, 1) := by decide +kernel
theorem d_Mo_stepOn_354 : decode c_Mo_stepOn 354 = .ok (.goto 10, 3) := by decide +kernel
theorem d_Mo_stepOn_357 : decode c_Mo_stepOn 357 = .ok (.aload_n 0, 1) := by decide +kernel
theorem d_Mo_stepOn_358 : decode c_Mo_stepOn 358 = .ok (.getfield 51, 3) := by decide +kernel
theorem d_Mo_stepOn_361 : decode c_Mo_stepOn 361 = .ok (.iload 12, 2) := by decide +kernel
theorem d_Mo_stepOn_363 : decode c_Mo_stepOn 363 = .ok (.iaload, 1) := by decide +kernel
theorem d_Mo_stepOn_364 : decode c_Mo_stepOn 364 = .ok (.iastore, 1) := by decide +kernel
theorem d_Mo_stepOn_365 : decode c_Mo_stepOn 365 = .ok (.iload 11, 2) := by decide +kernel
theorem d_Mo_stepOn_367 : decode c_Mo_stepOn 367 = .ok (.ifCond .ne 20, 3) := by decide +kernel
theorem d_Mo_stepOn_370 : decode c_Mo_stepOn 370 = .ok (.aload_n 0, 1) := by decide +kernel
theorem d_Mo_stepOn_371 : decode c_Mo_stepOn 371 = .ok (.getfield 51, 3) := by decide +kernel
theorem d_Mo_stepOn_374 : decode c_Mo_stepOn 374 = .ok (.iload 12, 2) := by decide +kernel
theorem d_Mo_stepOn_376 : decode c_Mo_stepOn 376 = .ok (.iaload, 1) := by decide +kernel
theorem d_Mo_stepOn_377 : decode c_Mo_stepOn 377 = .ok (.aload_n 0, 1) := by decide +kernel
theorem d_Mo_stepOn_378 : decode c_Mo_stepOn 378 = .ok (.getfield 66, 3) := by decide +kernel
theorem d_Mo_stepOn_381 : decode c_Mo_stepOn 381 = .ok (.iload 12, 2) := by decide +kernel
theorem d_Mo_stepOn_383 : decode c_Mo_stepOn 383 = .ok (.iaload, 1) := by decide +kernel
theorem d_Mo_stepOn_384 : decode c_Mo_stepOn 384 = .ok (.if_icmp .eq 7, 3) := by decide +kernel
theorem d_Mo_stepOn_387 : decode c_Mo_stepOn 387 = .ok (.iconst 1, 1) := by decide +kernel
theorem d_Mo_stepOn_388 : decode c_Mo_stepOn 388 = .ok (.goto 4, 3) := by decide +kernel
theorem d_Mo_stepOn_391 : decode c_Mo_stepOn 391 = .ok (.iconst 0, 1) := by decide +kernel
theorem d_Mo_stepOn_392 : decode c_Mo_stepOn 392 = .ok (.istore 11, 2) := by decide +kernel
theorem d_Mo_stepOn_394 : decode c_Mo_stepOn 394 = .ok (.iinc 12 1, 3) := by decide +kernel
theorem d_Mo_stepOn_397 : decode c_Mo_stepOn 397 = .ok (.goto (-70), 3) := by decide +kernel
theorem d_Mo_stepOn_400 : decode c_Mo_stepOn 400 = .ok (.iload 11, 2) := by decide +kernel
theorem d_Mo_stepOn_402 : decode c_Mo_stepOn 402 = .ok (.ireturn, 1) := by decide +kernel
theorem d_Mo_step_0 : decode c_Mo_step 0 = .ok (.aload_n 0, 1) := by decide +kernel
theorem d_Mo_step_1 : decode c_Mo_step 1 = .ok (.getfield 91, 3) := by decide +kernel
theorem d_Mo_step_4 : decode c_Mo_step 4 = .ok (.ifCond .ne 6, 3) := by decide +kernel
theorem d_Mo_step_7 : decode c_Mo_step 7 = .ok (.bipush (-5), 2) := by decide +kernel
theorem d_Mo_step_9 : decode c_Mo_step 9 = .ok (.ireturn, 1) := by decide +kernel
theorem d_Mo_step_10 : decode c_Mo_step 10 = .ok (.aload_n 0, 1) := by decide +kernel
theorem d_Mo_step_11 : decode c_Mo_step 11 = .ok (.iconst 0, 1) := by decide +kernel
theorem d_Mo_step_12 : decode c_Mo_step 12 = .ok (.invokevirtual 139, 3) := by decide +kernel
theorem d_Mo_step_15 : decode c_Mo_step 15 = .ok (.ifCond .eq 6, 3) := by decide +kernel
theorem d_Mo_step_18 : decode c_Mo_step 18 = .ok (.bipush (-3), 2) := by decide +kernel
theorem d_Mo_step_20 : decode c_Mo_step 20 = .ok (.ireturn, 1) := by decide +kernel
theorem d_Mo_step_21 : decode c_Mo_step 21 = .ok (.aload_n 0, 1) := by decide +kernel
theorem d_Mo_step_22 : decode c_Mo_step 22 = .ok (.iload_n 1, 1) := by decide +kernel
theorem d_Mo_step_23 : decode c_Mo_step 23 = .ok (.putfield 192, 3) := by decide +kernel
theorem d_Mo_step_26 : decode c_Mo_step 26 = .ok (.aload_n 0, 1) := by decide +kernel
theorem d_Mo_step_27 : decode c_Mo_step 27 = .ok (.invokevirtual 209, 3) := by decide +kernel
theorem d_Mo_step_30 : decode c_Mo_step 30 = .ok (.ifCond .eq 7, 3) := by decide +kernel
theorem d_Mo_step_33 : decode c_Mo_step 33 = .ok (.iconst 1, 1) := by decide +kernel
theorem d_Mo_step_34 : decode c_Mo_step 34 = .ok (.goto 4, 3) := by decide +kernel
theorem d_Mo_step_37 : decode c_Mo_step 37 = .ok (.iconst 0, 1) := by decide +kernel
theorem d_Mo_step_38 : decode c_Mo_step 38 = .ok (.ireturn, 1) := by decide +kernel
theorem d_Mo_walk_0 : decode c_Mo_walk 0 = .ok (.iload_n 1, 1) := by decide +kernel
theorem d_Mo_walk_1 : decode c_Mo_walk 1 = .ok (.iconst 1, 1) := by decide +kernel
theorem d_Mo_walk_2 : decode c_Mo_walk 2 = .ok (.sipush 200, 3) := by decide +kernel
theorem d_Mo_walk_5 : decode c_Mo_walk 5 = .ok (.invokestatic 87, 3) := by decide +kernel
theorem d_Mo_walk_8 : decode c_Mo_walk 8 = .ok (.ifCond .eq 13, 3) := by decide +kernel
theorem d_Mo_walk_11 : decode c_Mo_walk 11 = .ok (.iload_n 3, 1) := by decide +kernel
theorem d_Mo_walk_12 : decode c_Mo_walk 12 = .ok (.iconst 0, 1) := by decide +kernel
theorem d_Mo_walk_13 : decode c_Mo_walk 13 = .ok (.bipush 6, 2) := by decide +kernel
theorem d_Mo_walk_15 : decode c_Mo_walk 15 = .ok (.invokestatic 87, 3) := by decide +kernel
theorem d_Mo_walk_18 : decode c_Mo_walk 18 = .ok (.ifCond .ne 5, 3) := by decide +kernel
theorem d_Mo_walk_21 : decode c_Mo_walk 21 = .ok (.iconst (-1), 1) := by decide +kernel
theorem d_Mo_walk_22 : decode c_Mo_walk 22 = .ok (.ireturn, 1) := by decide +kernel
theorem d_Mo_walk_23 : decode c_Mo_walk 23 = .ok (.aload_n 0, 1) := by decide +kernel
theorem d_Mo_walk_24 : decode c_Mo_walk 24 = .ok (.getfield 91, 3) := by decide +kernel
theorem d_Mo_walk_27 : decode c_Mo_walk 27 = .ok (.ifCond .ne 6, 3) := by decide +kernel
theorem d_Mo_walk_30 : decode c_Mo_walk 30 = .ok (.bipush (-5), 2) := by decide +kernel
theorem d_Mo_walk_32 : decode c_Mo_walk 32 = .ok (.ireturn, 1) := by decide +kernel
theorem d_Mo_walk_33 : decode c_Mo_walk 33 = .ok (.aload_n 0, 1) := by decide +kernel
theorem d_Mo_walk_34 : decode c_Mo_walk 34 = .ok (.iconst 0, 1) := by decide +kernel
theorem d_Mo_walk_35 : decode c_Mo_walk 35 = .ok (.invokevirtual 139, 3) := by decide +kernel
theorem d_Mo_walk_38 : decode c_Mo_walk 38 = .ok (.ifCond .eq 6, 3) := by decide +kernel
theorem d_Mo_walk_41 : decode c_Mo_walk 41 = .ok (.bipush (-3), 2) := by decide +kernel
theorem d_Mo_walk_43 : decode c_Mo_walk 43 = .ok (.ireturn, 1) := by decide +kernel
theorem d_Mo_walk_44 : decode c_Mo_walk 44 = .ok (.aload_n 0, 1) := by decide +kernel
theorem d_Mo_walk_45 : decode c_Mo_walk 45 = .ok (.iload_n 2, 1) := by decide +kernel
theorem d_Mo_walk_46 : decode c_Mo_walk 46 = .ok (.putfield 192, 3) := by decide +kernel
theorem d_Mo_walk_49 : decode c_Mo_walk 49 = .ok (.aload_n 0, 1) := by decide +kernel
theorem d_Mo_walk_50 : decode c_Mo_walk 50 = .ok (.iload_n 3, 1) := by decide +kernel
theorem d_Mo_walk_51 : decode c_Mo_walk 51 = .ok (.invokevirtual 150, 3) := by decide +kernel
theorem d_Mo_walk_54 : decode c_Mo_walk 54 = .ok (.istore 4, 2) := by decide +kernel
theorem d_Mo_walk_56 : decode c_Mo_walk 56 = .ok (.iconst 0, 1) := by decide +kernel
theorem d_Mo_walk_57 : decode c_Mo_walk 57 = .ok (.istore 5, 2) := by decide +kernel
theorem d_Mo_walk_59 : decode c_Mo_walk 59 = .ok (.iload 5, 2) := by decide +kernel
theorem d_Mo_walk_61 : decode c_Mo_walk 61 = .ok (.aload_n 0, 1) := by decide +kernel
theorem d_Mo_walk_62 : decode c_Mo_walk 62 = .ok (.getfield 91, 3) := by decide +kernel
theorem d_Mo_walk_65 : decode c_Mo_walk 65 = .ok (.if_icmp .ge 23, 3) := by decide +kernel
theorem d_Mo_walk_68 : decode c_Mo_walk 68 = .ok (.aload_n 0, 1) := by decide +kernel
theorem d_Mo_walk_69 : decode c_Mo_walk 69 = .ok (.getfield 69, 3) := by decide +kernel
theorem d_Mo_walk_72 : decode c_Mo_walk 72 = .ok (.iload 5, 2) := by decide +kernel
theorem d_Mo_walk_74 : decode c_Mo_walk 74 = .ok (.aload_n 0, 1) := by decide +kernel
theorem d_Mo_walk_75 : decode c_Mo_walk 75 = .ok (.getfield 51, 3) := by decide +kernel
theorem d_Mo_walk_78 : decode c_Mo_walk 78 = .ok (.iload 5, 2) := by decide +kernel
theorem d_Mo_walk_80 : decode c_Mo_walk 80 = .ok (.iaload, 1) := by decide +kernel
theorem d_Mo_walk_81 : decode c_Mo_walk 81 = .ok (.iastore, 1) := by decide +kernel
theorem d_Mo_walk_82 : decode c_Mo_walk 82 = .ok (.iinc 5 1, 3) := by decide +kernel
theorem d_Mo_walk_85 : decode c_Mo_walk 85 = .ok (.goto (-26), 3) := by decide +kernel
theorem d_Mo_walk_88 : decode c_Mo_walk 88 = .ok (.iconst 0, 1) := by decide +kernel
theorem d_Mo_walk_89 : decode c_Mo_walk 89 = .ok (.istore 5, 2) := by decide +kernel
theorem d_Mo_walk_91 : decode c_Mo_walk 91 = .ok (.iload 5, 2) := by decide +kernel
theorem d_Mo_walk_93 : decode c_Mo_walk 93 = .ok (.bipush 6, 2) := by decide +kernel
theorem d_Mo_walk_95 : decode c_Mo_walk 95 = .ok (.if_icmp .ge 17, 3) := by decide +kernel
theorem d_Mo_walk_98 : decode c_Mo_walk 98 = .ok (.aload_n 0, 1) := by decide +kernel
theorem d_Mo_walk_99 : decode c_Mo_walk 99 = .ok (.getfield 72, 3) := by decide +kernel
theorem d_Mo_walk_102 : decode c_Mo_walk 102 = .ok (.iload 5, 2) := by decide +kernel
theorem d_Mo_walk_104 : decode c_Mo_walk 104 = .ok (.iconst 0, 1) := by decide +kernel
theorem d_Mo_walk_105 : decode c_Mo_walk 105 = .ok (.iastore, 1) := by decide +kernel
theorem d_Mo_walk_106 : decode c_Mo_walk 106 = .ok (.iinc 5 1, 3) := by decide +kernel
theorem d_Mo_walk_109 : decode c_Mo_walk 109 = .ok (.goto (-18), 3) := by decide +kernel
theorem d_Mo_walk_112 : decode c_Mo_walk 112 = .ok (.iconst 0, 1) := by decide +kernel
theorem d_Mo_walk_113 : decode c_Mo_walk 113 = .ok (.istore 5, 2) := by decide +kernel
theorem d_Mo_walk_115 : decode c_Mo_walk 115 = .ok (.iload 5, 2) := by decide +kernel
theorem d_Mo_walk_117 : decode c_Mo_walk 117 = .ok (.iload_n 1, 1) := by decide +kernel
theorem d_Mo_walk_118 : decode c_Mo_walk 118 = .ok (.if_icmp .ge 135, 3) := by decide +kernel
theorem d_Mo_walk_121 : decode c_Mo_walk 121 = .ok (.aload_n 0, 1) := by decide +kernel
theorem d_Mo_walk_122 : decode c_Mo_walk 122 = .ok (.getfield 72, 3) := by decide +kernel
theorem d_Mo_walk_125 : decode c_Mo_walk 125 = .ok (.iconst 5, 1) := by decide +kernel
theorem d_Mo_walk_126 : decode c_Mo_walk 126 = .ok (.dup2, 1) := by decide +kernel
theorem d_Mo_walk_127 : decode c_Mo_walk 127 = .ok (.iaload, 1) := by decide +kernel
theorem d_Mo_walk_128 : decode c_Mo_walk 128 = .ok (.aload_n 0, 1) := by decide +kernel
theorem d_Mo_walk_129 : decode c_Mo_walk 129 = .ok (.invokevirtual 209, 3) := by decide +kernel
theorem d_Mo_walk_132 : decode c_Mo_walk 132 = .ok (.ifCond .eq 7, 3) := by decide +kernel
theorem d_Mo_walk_135 : decode c_Mo_walk 135 = .ok (.iconst 1, 1) := by decide +kernel
theorem d_Mo_walk_136 : decode c_Mo_walk 136 = .ok (.goto 4, 3) := by decide +kernel
theorem d_Mo_walk_139 : decode c_Mo_walk 139 = .ok (.iconst 0, 1) := by decide +kernel
theorem d_Mo_walk_140 : decode c_Mo_walk 140 = .ok (.iadd, 1) := by decide +kernel
theorem d_Mo_walk_141 : decode c_Mo_walk 141 = .ok (.iastore, 1) := by decide +kernel
theorem d_Mo_walk_142 : decode c_Mo_walk 142 = .ok (.aload_n 0, 1) := by decide +kernel
theorem d_Mo_walk_143 : decode c_Mo_walk 143 = .ok (.iload_n 3, 1) := by decide +kernel
theorem d_Mo_walk_144 : decode c_Mo_walk 144 = .ok (.invokevirtual 150, 3) := by decide +kernel
theorem d_Mo_walk_147 : decode c_Mo_walk 147 = .ok (.istore 6, 2) := by decide +kernel
theorem d_Mo_walk_149 : decode c_Mo_walk 149 = .ok (.aload_n 0, 1) := by decide +kernel
theorem d_Mo_walk_150 : decode c_Mo_walk 150 = .ok (.getfield 72, 3) := by decide +kernel
theorem d_Mo_walk_153 : decode c_Mo_walk 153 = .ok (.iload 6, 2) := by decide +kernel
theorem d_Mo_walk_155 : decode c_Mo_walk 155 = .ok (.iload 4, 2) := by decide +kernel
theorem d_Mo_walk_157 : decode c_Mo_walk 157 = .ok (.if_icmp .ge 7, 3) := by decide +kernel
theorem d_Mo_walk_160 : decode c_Mo_walk 160 = .ok (.iconst 0, 1) := by decide +kernel
theorem d_Mo_walk_161 : decode c_Mo_walk 161 = .ok (.goto 15, 3) := by decide +kernel
theorem d_Mo_walk_164 : decode c_Mo_walk 164 = .ok (.iload 6, 2) := by decide +kernel
theorem d_Mo_walk_166 : decode c_Mo_walk 166 = .ok (.iload 4, 2) := by decide +kernel
theorem d_Mo_walk_168 : decode c_Mo_walk 168 = .ok (.if_icmp .ne 7, 3) := by decide +kernel
theorem d_Mo_walk_171 : decode c_Mo_walk 171 = .ok (.iconst 1, 1) := by decide +kernel
theorem d_Mo_walk_172 : decode c_Mo_walk 172 = .ok (.goto 4, 3) := by decide +kernel
theorem d_Mo_walk_175 : decode c_Mo_walk 175 = .ok (.iconst 2, 1) := by decide +kernel
theorem d_Mo_walk_176 : decode c_Mo_walk 176 = .ok (.dup2, 1) := by decide +kernel
theorem d_Mo_walk_177 : decode c_Mo_walk 177 = .ok (.iaload, 1) := by decide +kernel
theorem d_Mo_walk_178 : decode c_Mo_walk 178 = .ok (.iconst 1, 1) := by decide +kernel
theorem d_Mo_walk_179 : decode c_Mo_walk 179 = .ok (.iadd, 1) := by decide +kernel
theorem d_Mo_walk_180 : decode c_Mo_walk 180 = .ok (.iastore, 1) := by decide +kernel
theorem d_Mo_walk_181 : decode c_Mo_walk 181 = .ok (.aload_n 0, 1) := by decide +kernel
theorem d_Mo_walk_182 : decode c_Mo_walk 182 = .ok (.getfield 72, 3) := by decide +kernel
theorem d_Mo_walk_185 : decode c_Mo_walk 185 = .ok (.iconst 3, 1) := by decide +kernel
theorem d_Mo_walk_186 : decode c_Mo_walk 186 = .ok (.iload 5, 2) := by decide +kernel
theorem d_Mo_walk_188 : decode c_Mo_walk 188 = .ok (.ifCond .eq 14, 3) := by decide +kernel
theorem d_Mo_walk_191 : decode c_Mo_walk 191 = .ok (.iload 6, 2) := by decide +kernel
theorem d_Mo_walk_193 : decode c_Mo_walk 193 = .ok (.aload_n 0, 1) := by decide +kernel
theorem d_Mo_walk_194 : decode c_Mo_walk 194 = .ok (.getfield 72, 3) := by decide +kernel
theorem d_Mo_walk_197 : decode c_Mo_walk 197 = .ok (.iconst 3, 1) := by decide +kernel
theorem d_Mo_walk_198 : decode c_Mo_walk 198 = .ok (.iaload, 1) := by decide +kernel
theorem d_Mo_walk_199 : decode c_Mo_walk 199 = .ok (.if_icmp .ge 8, 3) := by decide +kernel
theorem d_Mo_walk_202 : decode c_Mo_walk 202 = .ok (.iload 6, 2) := by decide +kernel
theorem d_Mo_walk_204 : decode c_Mo_walk 204 = .ok (.goto 9, 3) := by decide +kernel
theorem d_Mo_walk_207 : decode c_Mo_walk 207 = .ok (.aload_n 0, 1) := by decide +kernel
theorem d_Mo_walk_208 : decode c_Mo_walk 208 = .ok (.getfield 72, 3) := by decide +kernel
theorem d_Mo_walk_211 : decode c_Mo_walk 211 = .ok (.iconst 3, 1) := by decide +kernel
theorem d_Mo_walk_212 : decode c_Mo_walk 212 = .ok (.iaload, 1) := by decide +kernel
theorem d_Mo_walk_213 : decode c_Mo_walk 213 = .ok (.iastore, 1) := by decide +kernel
theorem d_Mo_walk_214 : decode c_Mo_walk 214 = .ok (.aload_n 0, 1) := by decide +kernel
theorem d_Mo_walk_215 : decode c_Mo_walk 215 = .ok (.getfield 72, 3) := by decide +kernel
theorem d_Mo_walk_218 : decode c_Mo_walk 218 = .ok (.iconst 4, 1) := by decide +kernel
theorem d_Mo_walk_219 : decode c_Mo_walk 219 = .ok (.iload 5, 2) := by decide +kernel
theorem d_Mo_walk_221 : decode c_Mo_walk 221 = .ok (.ifCond .eq 14, 3) := by decide +kernel
theorem d_Mo_walk_224 : decode c_Mo_walk 224 = .ok (.iload 6, 2) := by decide +kernel
theorem d_Mo_walk_226 : decode c_Mo_walk 226 = .ok (.aload_n 0, 1) := by decide +kernel
theorem d_Mo_walk_227 : decode c_Mo_walk 227 = .ok (.getfield 72, 3) := by decide +kernel
theorem d_Mo_walk_230 : decode c_Mo_walk 230 = .ok (.iconst 4, 1) := by decide +kernel
theorem d_Mo_walk_231 : decode c_Mo_walk 231 = .ok (.iaload, 1) := by decide +kernel
theorem d_Mo_walk_232 : decode c_Mo_walk 232 = .ok (.if_icmp .le 8, 3) := by decide +kernel
theorem d_Mo_walk_235 : decode c_Mo_walk 235 = .ok (.iload 6, 2) := by decide +kernel
theorem d_Mo_walk_237 : decode c_Mo_walk 237 = .ok (.goto 9, 3) := by decide +kernel
theorem d_Mo_walk_240 : decode c_Mo_walk 240 = .ok (.aload_n 0, 1) := by decide +kernel
theorem d_Mo_walk_241 : decode c_Mo_walk 241 = .ok (.getfield 72, 3) := by decide +kernel
theorem d_Mo_walk_244 : decode c_Mo_walk 244 = .ok (.iconst 4, 1) := by decide +kernel
theorem d_Mo_walk_245 : decode c_Mo_walk 245 = .ok (.iaload, 1) := by decide +kernel
theorem d_Mo_walk_246 : decode c_Mo_walk 246 = .ok (.iastore, 1) := by decide +kernel
theorem d_Mo_walk_247 : decode c_Mo_walk 247 = .ok (.iinc 5 1, 3) := by decide +kernel
theorem d_Mo_walk_250 : decode c_Mo_walk 250 = .ok (.goto (-135), 3) := by decide +kernel
theorem d_Mo_walk_253 : decode c_Mo_walk 253 = .ok (.iconst 0, 1) := by decide +kernel
theorem d_Mo_walk_254 : decode c_Mo_walk 254 = .ok (.istore 5, 2) := by decide +kernel
theorem d_Mo_walk_256 : decode c_Mo_walk 256 = .ok (.iload 5, 2) := by decide +kernel
theorem d_Mo_walk_258 : decode c_Mo_walk 258 = .ok (.aload_n 0, 1) := by decide +kernel
theorem d_Mo_walk_259 : decode c_Mo_walk 259 = .ok (.getfield 91, 3) := by decide +kernel
theorem d_Mo_walk_262 : decode c_Mo_walk 262 = .ok (.if_icmp .ge 23, 3) := by decide +kernel
theorem d_Mo_walk_265 : decode c_Mo_walk 265 = .ok (.aload_n 0, 1) := by decide +kernel
theorem d_Mo_walk_266 : decode c_Mo_walk 266 = .ok (.getfield 51, 3) := by decide +kernel
theorem d_Mo_walk_269 : decode c_Mo_walk 269 = .ok (.iload 5, 2) := by decide +kernel
theorem d_Mo_walk_271 : decode c_Mo_walk 271 = .ok (.aload_n 0, 1) := by decide +kernel
theorem d_Mo_walk_272 : decode c_Mo_walk 272 = .ok (.getfield 69, 3) := by decide +kernel
theorem d_Mo_walk_275 : decode c_Mo_walk 275 = .ok (.iload 5, 2) := by decide +kernel
theorem d_Mo_walk_277 : decode c_Mo_walk 277 = .ok (.iaload, 1) := by decide +kernel
theorem d_Mo_walk_278 : decode c_Mo_walk 278 = .ok (.iastore, 1) := by decide +kernel
theorem d_Mo_walk_279 : decode c_Mo_walk 279 = .ok (.iinc 5 1, 3) := by decide +kernel
theorem d_Mo_walk_282 : decode c_Mo_walk 282 = .ok (.goto (-26), 3) := by decide +kernel
theorem d_Mo_walk_285 : decode c_Mo_walk 285 = .ok (.aload_n 0, 1) := by decide +kernel
theorem d_Mo_walk_286 : decode c_Mo_walk 286 = .ok (.iconst 1, 1) := by decide +kernel
theorem d_Mo_walk_287 : decode c_Mo_walk 287 = .ok (.putfield 213, 3) := by decide +kernel
theorem d_Mo_walk_290 : decode c_Mo_walk 290 = .ok (.aload_n 0, 1) := by decide +kernel
theorem d_Mo_walk_291 : decode c_Mo_walk 291 = .ok (.getfield 72, 3) := by decide +kernel
theorem d_Mo_walk_294 : decode c_Mo_walk 294 = .ok (.iconst 0, 1) := by decide +kernel
theorem d_Mo_walk_295 : decode c_Mo_walk 295 = .ok (.iaload, 1) := by decide +kernel
theorem d_Mo_walk_296 : decode c_Mo_walk 296 = .ok (.ireturn, 1) := by decide +kernel
theorem d_Mo_seen_0 : decode c_Mo_seen 0 = .ok (.aload_n 0, 1) := by decide +kernel
theorem d_Mo_seen_1 : decode c_Mo_seen 1 = .ok (.getfield 213, 3) := by decide +kernel
theorem d_Mo_seen_4 : decode c_Mo_seen 4 = .ok (.ifCond .eq 21, 3) := by decide +kernel
theorem d_Mo_seen_7 : decode c_Mo_seen 7 = .ok (.iload_n 1, 1) := by decide +kernel
theorem d_Mo_seen_8 : decode c_Mo_seen 8 = .ok (.iconst 0, 1) := by decide +kernel
theorem d_Mo_seen_9 : decode c_Mo_seen 9 = .ok (.iconst 5, 1) := by decide +kernel
theorem d_Mo_seen_10 : decode c_Mo_seen 10 = .ok (.invokestatic 87, 3) := by decide +kernel
theorem d_Mo_seen_13 : decode c_Mo_seen 13 = .ok (.ifCond .eq 12, 3) := by decide +kernel
theorem d_Mo_seen_16 : decode c_Mo_seen 16 = .ok (.aload_n 0, 1) := by decide +kernel
theorem d_Mo_seen_17 : decode c_Mo_seen 17 = .ok (.getfield 72, 3) := by decide +kernel
theorem d_Mo_seen_20 : decode c_Mo_seen 20 = .ok (.iload_n 1, 1) := by decide +kernel
theorem d_Mo_seen_21 : decode c_Mo_seen 21 = .ok (.iaload, 1) := by decide +kernel
theorem d_Mo_seen_22 : decode c_Mo_seen 22 = .ok (.goto 4, 3) := by decide +kernel
theorem d_Mo_seen_25 : decode c_Mo_seen 25 = .ok (.iconst (-1), 1) := by decide +kernel
theorem d_Mo_seen_26 : decode c_Mo_seen 26 = .ok (.ireturn, 1) := by decide +kernel
theorem d_Mo_betters_0 : decode c_Mo_betters 0 = .ok (.aload_n 0, 1) := by decide +kernel
theorem d_Mo_betters_1 : decode c_Mo_betters 1 = .ok (.iconst 0, 1) := by decide +kernel
theorem d_Mo_betters_2 : decode c_Mo_betters 2 = .ok (.invokevirtual 150, 3) := by decide +kernel
theorem d_Mo_betters_5 : decode c_Mo_betters 5 = .ok (.istore_n 1, 1) := by decide +kernel
theorem d_Mo_betters_6 : decode c_Mo_betters 6 = .ok (.iconst 0, 1) := by decide +kernel
theorem d_Mo_betters_7 : decode c_Mo_betters 7 = .ok (.istore_n 2, 1) := by decide +kernel
theorem d_Mo_betters_8 : decode c_Mo_betters 8 = .ok (.iload_n 2, 1) := by decide +kernel
theorem d_Mo_betters_9 : decode c_Mo_betters 9 = .ok (.aload_n 0, 1) := by decide +kernel
theorem d_Mo_betters_10 : decode c_Mo_betters 10 = .ok (.getfield 91, 3) := by decide +kernel
theorem d_Mo_betters_13 : decode c_Mo_betters 13 = .ok (.if_icmp .ge 74, 3) := by decide +kernel
theorem d_Mo_betters_16 : decode c_Mo_betters 16 = .ok (.aload_n 0, 1) := by decide +kernel
theorem d_Mo_betters_17 : decode c_Mo_betters 17 = .ok (.getfield 51, 3) := by decide +kernel
theorem d_Mo_betters_20 : decode c_Mo_betters 20 = .ok (.iload_n 2, 1) := by decide +kernel
theorem d_Mo_betters_21 : decode c_Mo_betters 21 = .ok (.iaload, 1) := by decide +kernel
theorem d_Mo_betters_22 : decode c_Mo_betters 22 = .ok (.istore_n 3, 1) := by decide +kernel
theorem d_Mo_betters_23 : decode c_Mo_betters 23 = .ok (.iconst 0, 1) := by decide +kernel
theorem d_Mo_betters_24 : decode c_Mo_betters 24 = .ok (.istore 4, 2) := by decide +kernel
theorem d_Mo_betters_26 : decode c_Mo_betters 26 = .ok (.iload 4, 2) := by decide +kernel
theorem d_Mo_betters_28 : decode c_Mo_betters 28 = .ok (.aload_n 0, 1) := by decide +kernel
theorem d_Mo_betters_29 : decode c_Mo_betters 29 = .ok (.getfield 34, 3) := by decide +kernel
theorem d_Mo_betters_32 : decode c_Mo_betters 32 = .ok (.if_icmp .ge 42, 3) := by decide +kernel
theorem d_Mo_betters_35 : decode c_Mo_betters 35 = .ok (.aload_n 0, 1) := by decide +kernel
theorem d_Mo_betters_36 : decode c_Mo_betters 36 = .ok (.getfield 51, 3) := by decide +kernel
theorem d_Mo_betters_39 : decode c_Mo_betters 39 = .ok (.iload_n 2, 1) := by decide +kernel
theorem d_Mo_betters_40 : decode c_Mo_betters 40 = .ok (.iload 4, 2) := by decide +kernel
theorem d_Mo_betters_42 : decode c_Mo_betters 42 = .ok (.iastore, 1) := by decide +kernel
theorem d_Mo_betters_43 : decode c_Mo_betters 43 = .ok (.iload 4, 2) := by decide +kernel
theorem d_Mo_betters_45 : decode c_Mo_betters 45 = .ok (.iload_n 3, 1) := by decide +kernel
theorem d_Mo_betters_46 : decode c_Mo_betters 46 = .ok (.if_icmp .eq 22, 3) := by decide +kernel
theorem d_Mo_betters_49 : decode c_Mo_betters 49 = .ok (.aload_n 0, 1) := by decide +kernel
theorem d_Mo_betters_50 : decode c_Mo_betters 50 = .ok (.iconst 0, 1) := by decide +kernel
theorem d_Mo_betters_51 : decode c_Mo_betters 51 = .ok (.invokevirtual 150, 3) := by decide +kernel
theorem d_Mo_betters_54 : decode c_Mo_betters 54 = .ok (.iload_n 1, 1) := by decide +kernel
theorem d_Mo_betters_55 : decode c_Mo_betters 55 = .ok (.if_icmp .ge 13, 3) := by decide +kernel
theorem d_Mo_betters_58 : decode c_Mo_betters 58 = .ok (.aload_n 0, 1) := by decide +kernel
theorem d_Mo_betters_59 : decode c_Mo_betters 59 = .ok (.iconst 0, 1) := by decide +kernel
theorem d_Mo_betters_60 : decode c_Mo_betters 60 = .ok (.invokevirtual 139, 3) := by decide +kernel
theorem d_Mo_betters_63 : decode c_Mo_betters 63 = .ok (.ifCond .ne 5, 3) := by decide +kernel
theorem d_Mo_betters_66 : decode c_Mo_betters 66 = .ok (.iconst 1, 1) := by decide +kernel
theorem d_Mo_betters_67 : decode c_Mo_betters 67 = .ok (.ireturn, 1) := by decide +kernel
theorem d_Mo_betters_68 : decode c_Mo_betters 68 = .ok (.iinc 4 1, 3) := by decide +kernel
theorem d_Mo_betters_71 : decode c_Mo_betters 71 = .ok (.goto (-45), 3) := by decide +kernel
theorem d_Mo_betters_74 : decode c_Mo_betters 74 = .ok (.aload_n 0, 1) := by decide +kernel
theorem d_Mo_betters_75 : decode c_Mo_betters 75 = .ok (.getfield 51, 3) := by decide +kernel
theorem d_Mo_betters_78 : decode c_Mo_betters 78 = .ok (.iload_n 2, 1) := by decide +kernel
theorem d_Mo_betters_79 : decode c_Mo_betters 79 = .ok (.iload_n 3, 1) := by decide +kernel
theorem d_Mo_betters_80 : decode c_Mo_betters 80 = .ok (.iastore, 1) := by decide +kernel
theorem d_Mo_betters_81 : decode c_Mo_betters 81 = .ok (.iinc 2 1, 3) := by decide +kernel
theorem d_Mo_betters_84 : decode c_Mo_betters 84 = .ok (.goto (-76), 3) := by decide +kernel
theorem d_Mo_betters_87 : decode c_Mo_betters 87 = .ok (.iconst 0, 1) := by decide +kernel
theorem d_Mo_betters_88 : decode c_Mo_betters 88 = .ok (.ireturn, 1) := by decide +kernel
theorem d_Mo_better_0 : decode c_Mo_better 0 = .ok (.aload_n 0, 1) := by decide +kernel
theorem d_Mo_better_1 : decode c_Mo_better 1 = .ok (.getfield 91, 3) := by decide +kernel
theorem d_Mo_better_4 : decode c_Mo_better 4 = .ok (.ifCond .ne 6, 3) := by decide +kernel
theorem d_Mo_better_7 : decode c_Mo_better 7 = .ok (.bipush (-5), 2) := by decide +kernel
theorem d_Mo_better_9 : decode c_Mo_better 9 = .ok (.ireturn, 1) := by decide +kernel
theorem d_Mo_better_10 : decode c_Mo_better 10 = .ok (.aload_n 0, 1) := by decide +kernel
theorem d_Mo_better_11 : decode c_Mo_better 11 = .ok (.iconst 0, 1) := by decide +kernel
theorem d_Mo_better_12 : decode c_Mo_better 12 = .ok (.invokevirtual 139, 3) := by decide +kernel
theorem d_Mo_better_15 : decode c_Mo_better 15 = .ok (.ifCond .eq 6, 3) := by decide +kernel
theorem d_Mo_better_18 : decode c_Mo_better 18 = .ok (.bipush (-3), 2) := by decide +kernel
theorem d_Mo_better_20 : decode c_Mo_better 20 = .ok (.ireturn, 1) := by decide +kernel
theorem d_Mo_better_21 : decode c_Mo_better 21 = .ok (.iconst 0, 1) := by decide +kernel
end
section
theorem d_Mo_better_22 : decode c_Mo_better 22 = .ok (.istore_n 1, 1) := by decide +kernel
theorem d_Mo_better_23 : decode c_Mo_better 23 = .ok (.aload_n 0, 1) := by decide +kernel
theorem d_Mo_better_24 : decode c_Mo_better 24 = .ok (.invokevirtual 217, 3) := by decide +kernel
theorem d_Mo_better_27 : decode c_Mo_better 27 = .ok (.ifCond .eq 9, 3) := by decide +kernel
theorem d_Mo_better_30 : decode c_Mo_better 30 = .ok (.iinc 1 1, 3) := by decide +kernel
theorem d_Mo_better_33 : decode c_Mo_better 33 = .ok (.goto (-10), 3) := by decide +kernel
theorem d_Mo_better_36 : decode c_Mo_better 36 = .ok (.iload_n 1, 1) := by decide +kernel
theorem d_Mo_better_37 : decode c_Mo_better 37 = .ok (.ireturn, 1) := by decide +kernel
theorem d_Mo_offer_0 : decode c_Mo_offer 0 = .ok (.aload_n 0, 1) := by decide +kernel
theorem d_Mo_offer_1 : decode c_Mo_offer 1 = .ok (.iconst 0, 1) := by decide +kernel
theorem d_Mo_offer_2 : decode c_Mo_offer 2 = .ok (.invokevirtual 139, 3) := by decide +kernel
theorem d_Mo_offer_5 : decode c_Mo_offer 5 = .ok (.ifCond .eq 4, 3) := by decide +kernel
theorem d_Mo_offer_8 : decode c_Mo_offer 8 = .ok (.return_, 1) := by decide +kernel
theorem d_Mo_offer_9 : decode c_Mo_offer 9 = .ok (.aload_n 0, 1) := by decide +kernel
theorem d_Mo_offer_10 : decode c_Mo_offer 10 = .ok (.getfield 220, 3) := by decide +kernel
theorem d_Mo_offer_13 : decode c_Mo_offer 13 = .ok (.ifCond .lt 27, 3) := by decide +kernel
theorem d_Mo_offer_16 : decode c_Mo_offer 16 = .ok (.iload_n 1, 1) := by decide +kernel
theorem d_Mo_offer_17 : decode c_Mo_offer 17 = .ok (.aload_n 0, 1) := by decide +kernel
theorem d_Mo_offer_18 : decode c_Mo_offer 18 = .ok (.getfield 223, 3) := by decide +kernel
theorem d_Mo_offer_21 : decode c_Mo_offer 21 = .ok (.if_icmp .lt 19, 3) := by decide +kernel
theorem d_Mo_offer_24 : decode c_Mo_offer 24 = .ok (.iload_n 1, 1) := by decide +kernel
theorem d_Mo_offer_25 : decode c_Mo_offer 25 = .ok (.aload_n 0, 1) := by decide +kernel
theorem d_Mo_offer_26 : decode c_Mo_offer 26 = .ok (.getfield 223, 3) := by decide +kernel
theorem d_Mo_offer_29 : decode c_Mo_offer 29 = .ok (.if_icmp .ne 15, 3) := by decide +kernel
theorem d_Mo_offer_32 : decode c_Mo_offer 32 = .ok (.iload_n 2, 1) := by decide +kernel
theorem d_Mo_offer_33 : decode c_Mo_offer 33 = .ok (.aload_n 0, 1) := by decide +kernel
theorem d_Mo_offer_34 : decode c_Mo_offer 34 = .ok (.getfield 220, 3) := by decide +kernel
theorem d_Mo_offer_37 : decode c_Mo_offer 37 = .ok (.if_icmp .ge 7, 3) := by decide +kernel
theorem d_Mo_offer_40 : decode c_Mo_offer 40 = .ok (.iconst 1, 1) := by decide +kernel
theorem d_Mo_offer_41 : decode c_Mo_offer 41 = .ok (.goto 4, 3) := by decide +kernel
theorem d_Mo_offer_44 : decode c_Mo_offer 44 = .ok (.iconst 0, 1) := by decide +kernel
theorem d_Mo_offer_45 : decode c_Mo_offer 45 = .ok (.istore_n 3, 1) := by decide +kernel
theorem d_Mo_offer_46 : decode c_Mo_offer 46 = .ok (.iload_n 3, 1) := by decide +kernel
theorem d_Mo_offer_47 : decode c_Mo_offer 47 = .ok (.ifCond .ne 86, 3) := by decide +kernel
theorem d_Mo_offer_50 : decode c_Mo_offer 50 = .ok (.iload_n 1, 1) := by decide +kernel
theorem d_Mo_offer_51 : decode c_Mo_offer 51 = .ok (.aload_n 0, 1) := by decide +kernel
theorem d_Mo_offer_52 : decode c_Mo_offer 52 = .ok (.getfield 223, 3) := by decide +kernel
theorem d_Mo_offer_55 : decode c_Mo_offer 55 = .ok (.if_icmp .ne 78, 3) := by decide +kernel
theorem d_Mo_offer_58 : decode c_Mo_offer 58 = .ok (.iload_n 2, 1) := by decide +kernel
theorem d_Mo_offer_59 : decode c_Mo_offer 59 = .ok (.aload_n 0, 1) := by decide +kernel
theorem d_Mo_offer_60 : decode c_Mo_offer 60 = .ok (.getfield 220, 3) := by decide +kernel
theorem d_Mo_offer_63 : decode c_Mo_offer 63 = .ok (.if_icmp .ne 70, 3) := by decide +kernel
theorem d_Mo_offer_66 : decode c_Mo_offer 66 = .ok (.iconst 0, 1) := by decide +kernel
theorem d_Mo_offer_67 : decode c_Mo_offer 67 = .ok (.istore 4, 2) := by decide +kernel
theorem d_Mo_offer_69 : decode c_Mo_offer 69 = .ok (.iload 4, 2) := by decide +kernel
theorem d_Mo_offer_71 : decode c_Mo_offer 71 = .ok (.aload_n 0, 1) := by decide +kernel
theorem d_Mo_offer_72 : decode c_Mo_offer 72 = .ok (.getfield 91, 3) := by decide +kernel
theorem d_Mo_offer_75 : decode c_Mo_offer 75 = .ok (.if_icmp .ge 26, 3) := by decide +kernel
theorem d_Mo_offer_78 : decode c_Mo_offer 78 = .ok (.aload_n 0, 1) := by decide +kernel
theorem d_Mo_offer_79 : decode c_Mo_offer 79 = .ok (.getfield 51, 3) := by decide +kernel
theorem d_Mo_offer_82 : decode c_Mo_offer 82 = .ok (.iload 4, 2) := by decide +kernel
theorem d_Mo_offer_84 : decode c_Mo_offer 84 = .ok (.iaload, 1) := by decide +kernel
theorem d_Mo_offer_85 : decode c_Mo_offer 85 = .ok (.aload_n 0, 1) := by decide +kernel
theorem d_Mo_offer_86 : decode c_Mo_offer 86 = .ok (.getfield 69, 3) := by decide +kernel
theorem d_Mo_offer_89 : decode c_Mo_offer 89 = .ok (.iload 4, 2) := by decide +kernel
theorem d_Mo_offer_91 : decode c_Mo_offer 91 = .ok (.iaload, 1) := by decide +kernel
theorem d_Mo_offer_92 : decode c_Mo_offer 92 = .ok (.if_icmp .ne 9, 3) := by decide +kernel
theorem d_Mo_offer_95 : decode c_Mo_offer 95 = .ok (.iinc 4 1, 3) := by decide +kernel
theorem d_Mo_offer_98 : decode c_Mo_offer 98 = .ok (.goto (-29), 3) := by decide +kernel
theorem d_Mo_offer_101 : decode c_Mo_offer 101 = .ok (.iload 4, 2) := by decide +kernel
theorem d_Mo_offer_103 : decode c_Mo_offer 103 = .ok (.aload_n 0, 1) := by decide +kernel
theorem d_Mo_offer_104 : decode c_Mo_offer 104 = .ok (.getfield 91, 3) := by decide +kernel
theorem d_Mo_offer_107 : decode c_Mo_offer 107 = .ok (.if_icmp .ge 24, 3) := by decide +kernel
theorem d_Mo_offer_110 : decode c_Mo_offer 110 = .ok (.aload_n 0, 1) := by decide +kernel
theorem d_Mo_offer_111 : decode c_Mo_offer 111 = .ok (.getfield 51, 3) := by decide +kernel
theorem d_Mo_offer_114 : decode c_Mo_offer 114 = .ok (.iload 4, 2) := by decide +kernel
theorem d_Mo_offer_116 : decode c_Mo_offer 116 = .ok (.iaload, 1) := by decide +kernel
theorem d_Mo_offer_117 : decode c_Mo_offer 117 = .ok (.aload_n 0, 1) := by decide +kernel
theorem d_Mo_offer_118 : decode c_Mo_offer 118 = .ok (.getfield 69, 3) := by decide +kernel
theorem d_Mo_offer_121 : decode c_Mo_offer 121 = .ok (.iload 4, 2) := by decide +kernel
theorem d_Mo_offer_123 : decode c_Mo_offer 123 = .ok (.iaload, 1) := by decide +kernel
theorem d_Mo_offer_124 : decode c_Mo_offer 124 = .ok (.if_icmp .ge 7, 3) := by decide +kernel
theorem d_Mo_offer_127 : decode c_Mo_offer 127 = .ok (.iconst 1, 1) := by decide +kernel
theorem d_Mo_offer_128 : decode c_Mo_offer 128 = .ok (.goto 4, 3) := by decide +kernel
theorem d_Mo_offer_131 : decode c_Mo_offer 131 = .ok (.iconst 0, 1) := by decide +kernel
theorem d_Mo_offer_132 : decode c_Mo_offer 132 = .ok (.istore_n 3, 1) := by decide +kernel
theorem d_Mo_offer_133 : decode c_Mo_offer 133 = .ok (.iload_n 3, 1) := by decide +kernel
theorem d_Mo_offer_134 : decode c_Mo_offer 134 = .ok (.ifCond .eq 45, 3) := by decide +kernel
theorem d_Mo_offer_137 : decode c_Mo_offer 137 = .ok (.aload_n 0, 1) := by decide +kernel
theorem d_Mo_offer_138 : decode c_Mo_offer 138 = .ok (.iload_n 1, 1) := by decide +kernel
theorem d_Mo_offer_139 : decode c_Mo_offer 139 = .ok (.putfield 223, 3) := by decide +kernel
theorem d_Mo_offer_142 : decode c_Mo_offer 142 = .ok (.aload_n 0, 1) := by decide +kernel
theorem d_Mo_offer_143 : decode c_Mo_offer 143 = .ok (.iload_n 2, 1) := by decide +kernel
theorem d_Mo_offer_144 : decode c_Mo_offer 144 = .ok (.putfield 220, 3) := by decide +kernel
theorem d_Mo_offer_147 : decode c_Mo_offer 147 = .ok (.iconst 0, 1) := by decide +kernel
theorem d_Mo_offer_148 : decode c_Mo_offer 148 = .ok (.istore 4, 2) := by decide +kernel
theorem d_Mo_offer_150 : decode c_Mo_offer 150 = .ok (.iload 4, 2) := by decide +kernel
theorem d_Mo_offer_152 : decode c_Mo_offer 152 = .ok (.aload_n 0, 1) := by decide +kernel
theorem d_Mo_offer_153 : decode c_Mo_offer 153 = .ok (.getfield 91, 3) := by decide +kernel
theorem d_Mo_offer_156 : decode c_Mo_offer 156 = .ok (.if_icmp .ge 23, 3) := by decide +kernel
theorem d_Mo_offer_159 : decode c_Mo_offer 159 = .ok (.aload_n 0, 1) := by decide +kernel
theorem d_Mo_offer_160 : decode c_Mo_offer 160 = .ok (.getfield 69, 3) := by decide +kernel
theorem d_Mo_offer_163 : decode c_Mo_offer 163 = .ok (.iload 4, 2) := by decide +kernel
theorem d_Mo_offer_165 : decode c_Mo_offer 165 = .ok (.aload_n 0, 1) := by decide +kernel
theorem d_Mo_offer_166 : decode c_Mo_offer 166 = .ok (.getfield 51, 3) := by decide +kernel
theorem d_Mo_offer_169 : decode c_Mo_offer 169 = .ok (.iload 4, 2) := by decide +kernel
theorem d_Mo_offer_171 : decode c_Mo_offer 171 = .ok (.iaload, 1) := by decide +kernel
theorem d_Mo_offer_172 : decode c_Mo_offer 172 = .ok (.iastore, 1) := by decide +kernel
theorem d_Mo_offer_173 : decode c_Mo_offer 173 = .ok (.iinc 4 1, 3) := by decide +kernel
theorem d_Mo_offer_176 : decode c_Mo_offer 176 = .ok (.goto (-26), 3) := by decide +kernel
theorem d_Mo_offer_179 : decode c_Mo_offer 179 = .ok (.return_, 1) := by decide +kernel
theorem d_Mo_move_0 : decode c_Mo_move 0 = .ok (.aload_n 0, 1) := by decide +kernel
theorem d_Mo_move_1 : decode c_Mo_move 1 = .ok (.iload_n 3, 1) := by decide +kernel
theorem d_Mo_move_2 : decode c_Mo_move 2 = .ok (.iload 4, 2) := by decide +kernel
theorem d_Mo_move_4 : decode c_Mo_move 4 = .ok (.invokevirtual 226, 3) := by decide +kernel
theorem d_Mo_move_7 : decode c_Mo_move 7 = .ok (.iload_n 2, 1) := by decide +kernel
theorem d_Mo_move_8 : decode c_Mo_move 8 = .ok (.istore 5, 2) := by decide +kernel
theorem d_Mo_move_10 : decode c_Mo_move 10 = .ok (.iload 5, 2) := by decide +kernel
theorem d_Mo_move_12 : decode c_Mo_move 12 = .ok (.aload_n 0, 1) := by decide +kernel
theorem d_Mo_move_13 : decode c_Mo_move 13 = .ok (.getfield 91, 3) := by decide +kernel
theorem d_Mo_move_16 : decode c_Mo_move 16 = .ok (.if_icmp .ge 89, 3) := by decide +kernel
theorem d_Mo_move_19 : decode c_Mo_move 19 = .ok (.iload_n 1, 1) := by decide +kernel
theorem d_Mo_move_20 : decode c_Mo_move 20 = .ok (.ifCond .le 85, 3) := by decide +kernel
theorem d_Mo_move_23 : decode c_Mo_move 23 = .ok (.aload_n 0, 1) := by decide +kernel
theorem d_Mo_move_24 : decode c_Mo_move 24 = .ok (.getfield 51, 3) := by decide +kernel
theorem d_Mo_move_27 : decode c_Mo_move 27 = .ok (.iload 5, 2) := by decide +kernel
theorem d_Mo_move_29 : decode c_Mo_move 29 = .ok (.iaload, 1) := by decide +kernel
theorem d_Mo_move_30 : decode c_Mo_move 30 = .ok (.istore 6, 2) := by decide +kernel
theorem d_Mo_move_32 : decode c_Mo_move 32 = .ok (.iconst 0, 1) := by decide +kernel
theorem d_Mo_move_33 : decode c_Mo_move 33 = .ok (.istore 7, 2) := by decide +kernel
theorem d_Mo_move_35 : decode c_Mo_move 35 = .ok (.iload 7, 2) := by decide +kernel
theorem d_Mo_move_37 : decode c_Mo_move 37 = .ok (.aload_n 0, 1) := by decide +kernel
theorem d_Mo_move_38 : decode c_Mo_move 38 = .ok (.getfield 34, 3) := by decide +kernel
theorem d_Mo_move_41 : decode c_Mo_move 41 = .ok (.if_icmp .ge 49, 3) := by decide +kernel
theorem d_Mo_move_44 : decode c_Mo_move 44 = .ok (.iload 7, 2) := by decide +kernel
theorem d_Mo_move_46 : decode c_Mo_move 46 = .ok (.iload 6, 2) := by decide +kernel
theorem d_Mo_move_48 : decode c_Mo_move 48 = .ok (.if_icmp .eq 36, 3) := by decide +kernel
theorem d_Mo_move_51 : decode c_Mo_move 51 = .ok (.aload_n 0, 1) := by decide +kernel
theorem d_Mo_move_52 : decode c_Mo_move 52 = .ok (.getfield 51, 3) := by decide +kernel
theorem d_Mo_move_55 : decode c_Mo_move 55 = .ok (.iload 5, 2) := by decide +kernel
theorem d_Mo_move_57 : decode c_Mo_move 57 = .ok (.iload 7, 2) := by decide +kernel
theorem d_Mo_move_59 : decode c_Mo_move 59 = .ok (.iastore, 1) := by decide +kernel
theorem d_Mo_move_60 : decode c_Mo_move 60 = .ok (.aload_n 0, 1) := by decide +kernel
theorem d_Mo_move_61 : decode c_Mo_move 61 = .ok (.iload_n 1, 1) := by decide +kernel
theorem d_Mo_move_62 : decode c_Mo_move 62 = .ok (.iconst 1, 1) := by decide +kernel
theorem d_Mo_move_63 : decode c_Mo_move 63 = .ok (.isub, 1) := by decide +kernel
theorem d_Mo_move_64 : decode c_Mo_move 64 = .ok (.iload 5, 2) := by decide +kernel
theorem d_Mo_move_66 : decode c_Mo_move 66 = .ok (.iconst 1, 1) := by decide +kernel
theorem d_Mo_move_67 : decode c_Mo_move 67 = .ok (.iadd, 1) := by decide +kernel
theorem d_Mo_move_68 : decode c_Mo_move 68 = .ok (.iload_n 3, 1) := by decide +kernel
theorem d_Mo_move_69 : decode c_Mo_move 69 = .ok (.aload_n 0, 1) := by decide +kernel
theorem d_Mo_move_70 : decode c_Mo_move 70 = .ok (.getfield 9, 3) := by decide +kernel
theorem d_Mo_move_73 : decode c_Mo_move 73 = .ok (.iload 5, 2) := by decide +kernel
theorem d_Mo_move_75 : decode c_Mo_move 75 = .ok (.iaload, 1) := by decide +kernel
theorem d_Mo_move_76 : decode c_Mo_move 76 = .ok (.iadd, 1) := by decide +kernel
theorem d_Mo_move_77 : decode c_Mo_move 77 = .ok (.iload 4, 2) := by decide +kernel
theorem d_Mo_move_79 : decode c_Mo_move 79 = .ok (.iconst 1, 1) := by decide +kernel
theorem d_Mo_move_80 : decode c_Mo_move 80 = .ok (.iadd, 1) := by decide +kernel
theorem d_Mo_move_81 : decode c_Mo_move 81 = .ok (.invokevirtual 229, 3) := by decide +kernel
theorem d_Mo_move_84 : decode c_Mo_move 84 = .ok (.iinc 7 1, 3) := by decide +kernel
theorem d_Mo_move_87 : decode c_Mo_move 87 = .ok (.goto (-52), 3) := by decide +kernel
theorem d_Mo_move_90 : decode c_Mo_move 90 = .ok (.aload_n 0, 1) := by decide +kernel
theorem d_Mo_move_91 : decode c_Mo_move 91 = .ok (.getfield 51, 3) := by decide +kernel
theorem d_Mo_move_94 : decode c_Mo_move 94 = .ok (.iload 5, 2) := by decide +kernel
theorem d_Mo_move_96 : decode c_Mo_move 96 = .ok (.iload 6, 2) := by decide +kernel
theorem d_Mo_move_98 : decode c_Mo_move 98 = .ok (.iastore, 1) := by decide +kernel
theorem d_Mo_move_99 : decode c_Mo_move 99 = .ok (.iinc 5 1, 3) := by decide +kernel
theorem d_Mo_move_102 : decode c_Mo_move 102 = .ok (.goto (-92), 3) := by decide +kernel
theorem d_Mo_move_105 : decode c_Mo_move 105 = .ok (.return_, 1) := by decide +kernel
theorem d_Mo_mend_0 : decode c_Mo_mend 0 = .ok (.iload_n 1, 1) := by decide +kernel
theorem d_Mo_mend_1 : decode c_Mo_mend 1 = .ok (.iconst 0, 1) := by decide +kernel
theorem d_Mo_mend_2 : decode c_Mo_mend 2 = .ok (.iconst 2, 1) := by decide +kernel
theorem d_Mo_mend_3 : decode c_Mo_mend 3 = .ok (.invokestatic 87, 3) := by decide +kernel
theorem d_Mo_mend_6 : decode c_Mo_mend 6 = .ok (.ifCond .ne 5, 3) := by decide +kernel
theorem d_Mo_mend_9 : decode c_Mo_mend 9 = .ok (.iconst (-1), 1) := by decide +kernel
theorem d_Mo_mend_10 : decode c_Mo_mend 10 = .ok (.ireturn, 1) := by decide +kernel
theorem d_Mo_mend_11 : decode c_Mo_mend 11 = .ok (.aload_n 0, 1) := by decide +kernel
theorem d_Mo_mend_12 : decode c_Mo_mend 12 = .ok (.getfield 91, 3) := by decide +kernel
theorem d_Mo_mend_15 : decode c_Mo_mend 15 = .ok (.ifCond .ne 6, 3) := by decide +kernel
theorem d_Mo_mend_18 : decode c_Mo_mend 18 = .ok (.bipush (-5), 2) := by decide +kernel
theorem d_Mo_mend_20 : decode c_Mo_mend 20 = .ok (.ireturn, 1) := by decide +kernel
theorem d_Mo_mend_21 : decode c_Mo_mend 21 = .ok (.aload_n 0, 1) := by decide +kernel
theorem d_Mo_mend_22 : decode c_Mo_mend 22 = .ok (.iconst (-1), 1) := by decide +kernel
theorem d_Mo_mend_23 : decode c_Mo_mend 23 = .ok (.putfield 220, 3) := by decide +kernel
theorem d_Mo_mend_26 : decode c_Mo_mend 26 = .ok (.aload_n 0, 1) := by decide +kernel
theorem d_Mo_mend_27 : decode c_Mo_mend 27 = .ok (.iload_n 1, 1) := by decide +kernel
theorem d_Mo_mend_28 : decode c_Mo_mend 28 = .ok (.iconst 0, 1) := by decide +kernel
theorem d_Mo_mend_29 : decode c_Mo_mend 29 = .ok (.iconst 0, 1) := by decide +kernel
theorem d_Mo_mend_30 : decode c_Mo_mend 30 = .ok (.iconst 0, 1) := by decide +kernel
theorem d_Mo_mend_31 : decode c_Mo_mend 31 = .ok (.invokevirtual 229, 3) := by decide +kernel
theorem d_Mo_mend_34 : decode c_Mo_mend 34 = .ok (.aload_n 0, 1) := by decide +kernel
theorem d_Mo_mend_35 : decode c_Mo_mend 35 = .ok (.getfield 220, 3) := by decide +kernel
theorem d_Mo_mend_38 : decode c_Mo_mend 38 = .ok (.ifCond .ge 6, 3) := by decide +kernel
theorem d_Mo_mend_41 : decode c_Mo_mend 41 = .ok (.bipush (-6), 2) := by decide +kernel
theorem d_Mo_mend_43 : decode c_Mo_mend 43 = .ok (.ireturn, 1) := by decide +kernel
theorem d_Mo_mend_44 : decode c_Mo_mend 44 = .ok (.iconst 0, 1) := by decide +kernel
theorem d_Mo_mend_45 : decode c_Mo_mend 45 = .ok (.istore_n 2, 1) := by decide +kernel
theorem d_Mo_mend_46 : decode c_Mo_mend 46 = .ok (.iload_n 2, 1) := by decide +kernel
theorem d_Mo_mend_47 : decode c_Mo_mend 47 = .ok (.aload_n 0, 1) := by decide +kernel
theorem d_Mo_mend_48 : decode c_Mo_mend 48 = .ok (.getfield 91, 3) := by decide +kernel
theorem d_Mo_mend_51 : decode c_Mo_mend 51 = .ok (.if_icmp .ge 21, 3) := by decide +kernel
theorem d_Mo_mend_54 : decode c_Mo_mend 54 = .ok (.aload_n 0, 1) := by decide +kernel
theorem d_Mo_mend_55 : decode c_Mo_mend 55 = .ok (.getfield 51, 3) := by decide +kernel
theorem d_Mo_mend_58 : decode c_Mo_mend 58 = .ok (.iload_n 2, 1) := by decide +kernel
theorem d_Mo_mend_59 : decode c_Mo_mend 59 = .ok (.aload_n 0, 1) := by decide +kernel
theorem d_Mo_mend_60 : decode c_Mo_mend 60 = .ok (.getfield 69, 3) := by decide +kernel
theorem d_Mo_mend_63 : decode c_Mo_mend 63 = .ok (.iload_n 2, 1) := by decide +kernel
theorem d_Mo_mend_64 : decode c_Mo_mend 64 = .ok (.iaload, 1) := by decide +kernel
theorem d_Mo_mend_65 : decode c_Mo_mend 65 = .ok (.iastore, 1) := by decide +kernel
theorem d_Mo_mend_66 : decode c_Mo_mend 66 = .ok (.iinc 2 1, 3) := by decide +kernel
theorem d_Mo_mend_69 : decode c_Mo_mend 69 = .ok (.goto (-23), 3) := by decide +kernel
theorem d_Mo_mend_72 : decode c_Mo_mend 72 = .ok (.aload_n 0, 1) := by decide +kernel
theorem d_Mo_mend_73 : decode c_Mo_mend 73 = .ok (.getfield 223, 3) := by decide +kernel
theorem d_Mo_mend_76 : decode c_Mo_mend 76 = .ok (.ireturn, 1) := by decide +kernel
theorem d_Integer_compare_7cf53_0 : decode c_Integer_compare_7cf53 0 = .ok (.iload_n 0, 1) := by decide +kernel
theorem d_Integer_compare_7cf53_1 : decode c_Integer_compare_7cf53 1 = .ok (.iload_n 1, 1) := by decide +kernel
theorem d_Integer_compare_7cf53_2 : decode c_Integer_compare_7cf53 2 = .ok (.if_icmp .ge 7, 3) := by decide +kernel
theorem d_Integer_compare_7cf53_5 : decode c_Integer_compare_7cf53 5 = .ok (.iconst (-1), 1) := by decide +kernel
theorem d_Integer_compare_7cf53_6 : decode c_Integer_compare_7cf53 6 = .ok (.goto 13, 3) := by decide +kernel
theorem d_Integer_compare_7cf53_9 : decode c_Integer_compare_7cf53 9 = .ok (.iload_n 0, 1) := by decide +kernel
theorem d_Integer_compare_7cf53_10 : decode c_Integer_compare_7cf53 10 = .ok (.iload_n 1, 1) := by decide +kernel
theorem d_Integer_compare_7cf53_11 : decode c_Integer_compare_7cf53 11 = .ok (.if_icmp .ne 7, 3) := by decide +kernel
theorem d_Integer_compare_7cf53_14 : decode c_Integer_compare_7cf53 14 = .ok (.iconst 0, 1) := by decide +kernel
theorem d_Integer_compare_7cf53_15 : decode c_Integer_compare_7cf53 15 = .ok (.goto 4, 3) := by decide +kernel
theorem d_Integer_compare_7cf53_18 : decode c_Integer_compare_7cf53 18 = .ok (.iconst 1, 1) := by decide +kernel
theorem d_Integer_compare_7cf53_19 : decode c_Integer_compare_7cf53 19 = .ok (.ireturn, 1) := by decide +kernel
theorem d_Integer_bitCount_0f7a4_0 : decode c_Integer_bitCount_0f7a4 0 = .ok (.iload_n 0, 1) := by decide +kernel
theorem d_Integer_bitCount_0f7a4_1 : decode c_Integer_bitCount_0f7a4 1 = .ok (.iload_n 0, 1) := by decide +kernel
theorem d_Integer_bitCount_0f7a4_2 : decode c_Integer_bitCount_0f7a4 2 = .ok (.iconst 1, 1) := by decide +kernel
theorem d_Integer_bitCount_0f7a4_3 : decode c_Integer_bitCount_0f7a4 3 = .ok (.iushr, 1) := by decide +kernel
theorem d_Integer_bitCount_0f7a4_4 : decode c_Integer_bitCount_0f7a4 4 = .ok (.ldc_w 265, 3) := by decide +kernel
theorem d_Integer_bitCount_0f7a4_7 : decode c_Integer_bitCount_0f7a4 7 = .ok (.iand, 1) := by decide +kernel
theorem d_Integer_bitCount_0f7a4_8 : decode c_Integer_bitCount_0f7a4 8 = .ok (.isub, 1) := by decide +kernel
theorem d_Integer_bitCount_0f7a4_9 : decode c_Integer_bitCount_0f7a4 9 = .ok (.istore_n 0, 1) := by decide +kernel
theorem d_Integer_bitCount_0f7a4_10 : decode c_Integer_bitCount_0f7a4 10 = .ok (.iload_n 0, 1) := by decide +kernel
theorem d_Integer_bitCount_0f7a4_11 : decode c_Integer_bitCount_0f7a4 11 = .ok (.ldc_w 266, 3) := by decide +kernel
theorem d_Integer_bitCount_0f7a4_14 : decode c_Integer_bitCount_0f7a4 14 = .ok (.iand, 1) := by decide +kernel
theorem d_Integer_bitCount_0f7a4_15 : decode c_Integer_bitCount_0f7a4 15 = .ok (.iload_n 0, 1) := by decide +kernel
theorem d_Integer_bitCount_0f7a4_16 : decode c_Integer_bitCount_0f7a4 16 = .ok (.iconst 2, 1) := by decide +kernel
theorem d_Integer_bitCount_0f7a4_17 : decode c_Integer_bitCount_0f7a4 17 = .ok (.iushr, 1) := by decide +kernel
theorem d_Integer_bitCount_0f7a4_18 : decode c_Integer_bitCount_0f7a4 18 = .ok (.ldc_w 266, 3) := by decide +kernel
theorem d_Integer_bitCount_0f7a4_21 : decode c_Integer_bitCount_0f7a4 21 = .ok (.iand, 1) := by decide +kernel
theorem d_Integer_bitCount_0f7a4_22 : decode c_Integer_bitCount_0f7a4 22 = .ok (.iadd, 1) := by decide +kernel
theorem d_Integer_bitCount_0f7a4_23 : decode c_Integer_bitCount_0f7a4 23 = .ok (.istore_n 0, 1) := by decide +kernel
theorem d_Integer_bitCount_0f7a4_24 : decode c_Integer_bitCount_0f7a4 24 = .ok (.iload_n 0, 1) := by decide +kernel
theorem d_Integer_bitCount_0f7a4_25 : decode c_Integer_bitCount_0f7a4 25 = .ok (.iload_n 0, 1) := by decide +kernel
theorem d_Integer_bitCount_0f7a4_26 : decode c_Integer_bitCount_0f7a4 26 = .ok (.iconst 4, 1) := by decide +kernel
theorem d_Integer_bitCount_0f7a4_27 : decode c_Integer_bitCount_0f7a4 27 = .ok (.iushr, 1) := by decide +kernel
theorem d_Integer_bitCount_0f7a4_28 : decode c_Integer_bitCount_0f7a4 28 = .ok (.iadd, 1) := by decide +kernel
theorem d_Integer_bitCount_0f7a4_29 : decode c_Integer_bitCount_0f7a4 29 = .ok (.ldc_w 267, 3) := by decide +kernel
theorem d_Integer_bitCount_0f7a4_32 : decode c_Integer_bitCount_0f7a4 32 = .ok (.iand, 1) := by decide +kernel
theorem d_Integer_bitCount_0f7a4_33 : decode c_Integer_bitCount_0f7a4 33 = .ok (.istore_n 0, 1) := by decide +kernel
theorem d_Integer_bitCount_0f7a4_34 : decode c_Integer_bitCount_0f7a4 34 = .ok (.iload_n 0, 1) := by decide +kernel
theorem d_Integer_bitCount_0f7a4_35 : decode c_Integer_bitCount_0f7a4 35 = .ok (.iload_n 0, 1) := by decide +kernel
theorem d_Integer_bitCount_0f7a4_36 : decode c_Integer_bitCount_0f7a4 36 = .ok (.bipush 8, 2) := by decide +kernel
theorem d_Integer_bitCount_0f7a4_38 : decode c_Integer_bitCount_0f7a4 38 = .ok (.iushr, 1) := by decide +kernel
theorem d_Integer_bitCount_0f7a4_39 : decode c_Integer_bitCount_0f7a4 39 = .ok (.iadd, 1) := by decide +kernel
theorem d_Integer_bitCount_0f7a4_40 : decode c_Integer_bitCount_0f7a4 40 = .ok (.istore_n 0, 1) := by decide +kernel
theorem d_Integer_bitCount_0f7a4_41 : decode c_Integer_bitCount_0f7a4 41 = .ok (.iload_n 0, 1) := by decide +kernel
theorem d_Integer_bitCount_0f7a4_42 : decode c_Integer_bitCount_0f7a4 42 = .ok (.iload_n 0, 1) := by decide +kernel
theorem d_Integer_bitCount_0f7a4_43 : decode c_Integer_bitCount_0f7a4 43 = .ok (.bipush 16, 2) := by decide +kernel
theorem d_Integer_bitCount_0f7a4_45 : decode c_Integer_bitCount_0f7a4 45 = .ok (.iushr, 1) := by decide +kernel
theorem d_Integer_bitCount_0f7a4_46 : decode c_Integer_bitCount_0f7a4 46 = .ok (.iadd, 1) := by decide +kernel
theorem d_Integer_bitCount_0f7a4_47 : decode c_Integer_bitCount_0f7a4 47 = .ok (.istore_n 0, 1) := by decide +kernel
theorem d_Integer_bitCount_0f7a4_48 : decode c_Integer_bitCount_0f7a4 48 = .ok (.iload_n 0, 1) := by decide +kernel
theorem d_Integer_bitCount_0f7a4_49 : decode c_Integer_bitCount_0f7a4 49 = .ok (.bipush 63, 2) := by decide +kernel
theorem d_Integer_bitCount_0f7a4_51 : decode c_Integer_bitCount_0f7a4 51 = .ok (.iand, 1) := by decide +kernel
theorem d_Integer_bitCount_0f7a4_52 : decode c_Integer_bitCount_0f7a4 52 = .ok (.ireturn, 1) := by decide +kernel
theorem d_Math_abs_0f7a4_0 : decode c_Math_abs_0f7a4 0 = .ok (.iload_n 0, 1) := by decide +kernel
theorem d_Math_abs_0f7a4_1 : decode c_Math_abs_0f7a4 1 = .ok (.ifCond .ge 8, 3) := by decide +kernel
theorem d_Math_abs_0f7a4_4 : decode c_Math_abs_0f7a4 4 = .ok (.iload_n 0, 1) := by decide +kernel
theorem d_Math_abs_0f7a4_5 : decode c_Math_abs_0f7a4 5 = .ok (.ineg, 1) := by decide +kernel
theorem d_Math_abs_0f7a4_6 : decode c_Math_abs_0f7a4 6 = .ok (.goto 4, 3) := by decide +kernel
theorem d_Math_abs_0f7a4_9 : decode c_Math_abs_0f7a4 9 = .ok (.iload_n 0, 1) := by decide +kernel
theorem d_Math_abs_0f7a4_10 : decode c_Math_abs_0f7a4 10 = .ok (.ireturn, 1) := by decide +kernel
theorem d_Math_max_7cf53_0 : decode c_Math_max_7cf53 0 = .ok (.iload_n 0, 1) := by decide +kernel
theorem d_Math_max_7cf53_1 : decode c_Math_max_7cf53 1 = .ok (.iload_n 1, 1) := by decide +kernel
theorem d_Math_max_7cf53_2 : decode c_Math_max_7cf53 2 = .ok (.if_icmp .lt 7, 3) := by decide +kernel
theorem d_Math_max_7cf53_5 : decode c_Math_max_7cf53 5 = .ok (.iload_n 0, 1) := by decide +kernel
theorem d_Math_max_7cf53_6 : decode c_Math_max_7cf53 6 = .ok (.goto 4, 3) := by decide +kernel
theorem d_Math_max_7cf53_9 : decode c_Math_max_7cf53 9 = .ok (.iload_n 1, 1) := by decide +kernel
theorem d_Math_max_7cf53_10 : decode c_Math_max_7cf53 10 = .ok (.ireturn, 1) := by decide +kernel
theorem d_Math_min_7cf53_0 : decode c_Math_min_7cf53 0 = .ok (.iload_n 0, 1) := by decide +kernel
theorem d_Math_min_7cf53_1 : decode c_Math_min_7cf53 1 = .ok (.iload_n 1, 1) := by decide +kernel
theorem d_Math_min_7cf53_2 : decode c_Math_min_7cf53 2 = .ok (.if_icmp .gt 7, 3) := by decide +kernel
theorem d_Math_min_7cf53_5 : decode c_Math_min_7cf53 5 = .ok (.iload_n 0, 1) := by decide +kernel
theorem d_Math_min_7cf53_6 : decode c_Math_min_7cf53 6 = .ok (.goto 4, 3) := by decide +kernel
theorem d_Math_min_7cf53_9 : decode c_Math_min_7cf53 9 = .ok (.iload_n 1, 1) := by decide +kernel
theorem d_Math_min_7cf53_10 : decode c_Math_min_7cf53 10 = .ok (.ireturn, 1) := by decide +kernel
theorem d_Arrays_fill_53178_0 : decode c_Arrays_fill_53178 0 = .ok (.iconst 0, 1) := by decide +kernel
theorem d_Arrays_fill_53178_1 : decode c_Arrays_fill_53178 1 = .ok (.istore_n 2, 1) := by decide +kernel
theorem d_Arrays_fill_53178_2 : decode c_Arrays_fill_53178 2 = .ok (.aload_n 0, 1) := by decide +kernel
theorem d_Arrays_fill_53178_3 : decode c_Arrays_fill_53178 3 = .ok (.arraylength, 1) := by decide +kernel
theorem d_Arrays_fill_53178_4 : decode c_Arrays_fill_53178 4 = .ok (.istore_n 3, 1) := by decide +kernel
theorem d_Arrays_fill_53178_5 : decode c_Arrays_fill_53178 5 = .ok (.iload_n 2, 1) := by decide +kernel
theorem d_Arrays_fill_53178_6 : decode c_Arrays_fill_53178 6 = .ok (.iload_n 3, 1) := by decide +kernel
theorem d_Arrays_fill_53178_7 : decode c_Arrays_fill_53178 7 = .ok (.if_icmp .ge 13, 3) := by decide +kernel
theorem d_Arrays_fill_53178_10 : decode c_Arrays_fill_53178 10 = .ok (.aload_n 0, 1) := by decide +kernel
theorem d_Arrays_fill_53178_11 : decode c_Arrays_fill_53178 11 = .ok (.iload_n 2, 1) := by decide +kernel
theorem d_Arrays_fill_53178_12 : decode c_Arrays_fill_53178 12 = .ok (.iload_n 1, 1) := by decide +kernel
theorem d_Arrays_fill_53178_13 : decode c_Arrays_fill_53178 13 = .ok (.iastore, 1) := by decide +kernel
theorem d_Arrays_fill_53178_14 : decode c_Arrays_fill_53178 14 = .ok (.iinc 2 1, 3) := by decide +kernel
theorem d_Arrays_fill_53178_17 : decode c_Arrays_fill_53178 17 = .ok (.goto (-12), 3) := by decide +kernel
theorem d_Arrays_fill_53178_20 : decode c_Arrays_fill_53178 20 = .ok (.return_, 1) := by decide +kernel
theorem d_L_law_0 : decode c_L_law 0 = .ok (.new 7, 3) := by decide +kernel
theorem d_L_law_3 : decode c_L_law 3 = .ok (.dup, 1) := by decide +kernel
theorem d_L_law_4 : decode c_L_law 4 = .ok (.invokespecial 9, 3) := by decide +kernel
theorem d_L_law_7 : decode c_L_law 7 = .ok (.astore_n 1, 1) := by decide +kernel
theorem d_L_law_8 : decode c_L_law 8 = .ok (.new 10, 3) := by decide +kernel
theorem d_L_law_11 : decode c_L_law 11 = .ok (.dup, 1) := by decide +kernel
theorem d_L_law_12 : decode c_L_law 12 = .ok (.invokespecial 12, 3) := by decide +kernel
theorem d_L_law_15 : decode c_L_law 15 = .ok (.astore_n 2, 1) := by decide +kernel
theorem d_L_law_16 : decode c_L_law 16 = .ok (.iconst 0, 1) := by decide +kernel
theorem d_L_law_17 : decode c_L_law 17 = .ok (.istore_n 3, 1) := by decide +kernel
theorem d_L_law_18 : decode c_L_law 18 = .ok (.iload_n 3, 1) := by decide +kernel
theorem d_L_law_19 : decode c_L_law 19 = .ok (.aload_n 0, 1) := by decide +kernel
theorem d_L_law_20 : decode c_L_law 20 = .ok (.arraylength, 1) := by decide +kernel
theorem d_L_law_21 : decode c_L_law 21 = .ok (.bipush 6, 2) := by decide +kernel
theorem d_L_law_23 : decode c_L_law 23 = .ok (.isub, 1) := by decide +kernel
theorem d_L_law_24 : decode c_L_law 24 = .ok (.if_icmp .gt 815, 3) := by decide +kernel
theorem d_L_law_27 : decode c_L_law 27 = .ok (.aload_n 0, 1) := by decide +kernel
theorem d_L_law_28 : decode c_L_law 28 = .ok (.iload_n 3, 1) := by decide +kernel
theorem d_L_law_29 : decode c_L_law 29 = .ok (.iaload, 1) := by decide +kernel
theorem d_L_law_30 : decode c_L_law 30 = .ok (.bipush 31, 2) := by decide +kernel
theorem d_L_law_32 : decode c_L_law 32 = .ok (.iand, 1) := by decide +kernel
theorem d_L_law_33 : decode c_L_law 33 = .ok (.tableswitch 800 0 24 #[115, 178, 221, 254, 287, 310, 343, 376, 409, 432, 445, 468, 491, 524, 547, 560, 583, 596, 619, 642, 675, 698, 741, 764, 777], 115) := by decide +kernel
theorem d_L_law_148 : decode c_L_law 148 = .ok (.aload_n 1, 1) := by decide +kernel
theorem d_L_law_149 : decode c_L_law 149 = .ok (.aload_n 0, 1) := by decide +kernel
theorem d_L_law_150 : decode c_L_law 150 = .ok (.iload_n 3, 1) := by decide +kernel
theorem d_L_law_151 : decode c_L_law 151 = .ok (.iconst 1, 1) := by decide +kernel
theorem d_L_law_152 : decode c_L_law 152 = .ok (.iadd, 1) := by decide +kernel
theorem d_L_law_153 : decode c_L_law 153 = .ok (.iaload, 1) := by decide +kernel
theorem d_L_law_154 : decode c_L_law 154 = .ok (.aload_n 0, 1) := by decide +kernel
theorem d_L_law_155 : decode c_L_law 155 = .ok (.iload_n 3, 1) := by decide +kernel
theorem d_L_law_156 : decode c_L_law 156 = .ok (.iconst 2, 1) := by decide +kernel
theorem d_L_law_157 : decode c_L_law 157 = .ok (.iadd, 1) := by decide +kernel
theorem d_L_law_158 : decode c_L_law 158 = .ok (.iaload, 1) := by decide +kernel
theorem d_L_law_159 : decode c_L_law 159 = .ok (.aload_n 0, 1) := by decide +kernel
theorem d_L_law_160 : decode c_L_law 160 = .ok (.iload_n 3, 1) := by decide +kernel
theorem d_L_law_161 : decode c_L_law 161 = .ok (.iconst 3, 1) := by decide +kernel
theorem d_L_law_162 : decode c_L_law 162 = .ok (.iadd, 1) := by decide +kernel
theorem d_L_law_163 : decode c_L_law 163 = .ok (.iaload, 1) := by decide +kernel
theorem d_L_law_164 : decode c_L_law 164 = .ok (.aload_n 0, 1) := by decide +kernel
theorem d_L_law_165 : decode c_L_law 165 = .ok (.iload_n 3, 1) := by decide +kernel
theorem d_L_law_166 : decode c_L_law 166 = .ok (.iconst 4, 1) := by decide +kernel
theorem d_L_law_167 : decode c_L_law 167 = .ok (.iadd, 1) := by decide +kernel
theorem d_L_law_168 : decode c_L_law 168 = .ok (.iaload, 1) := by decide +kernel
theorem d_L_law_169 : decode c_L_law 169 = .ok (.aload_n 0, 1) := by decide +kernel
theorem d_L_law_170 : decode c_L_law 170 = .ok (.iload_n 3, 1) := by decide +kernel
theorem d_L_law_171 : decode c_L_law 171 = .ok (.iconst 5, 1) := by decide +kernel
theorem d_L_law_172 : decode c_L_law 172 = .ok (.iadd, 1) := by decide +kernel
theorem d_L_law_173 : decode c_L_law 173 = .ok (.iaload, 1) := by decide +kernel
theorem d_L_law_174 : decode c_L_law 174 = .ok (.invokevirtual 13, 3) := by decide +kernel
theorem d_L_law_177 : decode c_L_law 177 = .ok (.aload_n 2, 1) := by decide +kernel
theorem d_L_law_178 : decode c_L_law 178 = .ok (.aload_n 0, 1) := by decide +kernel
theorem d_L_law_179 : decode c_L_law 179 = .ok (.iload_n 3, 1) := by decide +kernel
theorem d_L_law_180 : decode c_L_law 180 = .ok (.iconst 1, 1) := by decide +kernel
theorem d_L_law_181 : decode c_L_law 181 = .ok (.iadd, 1) := by decide +kernel
theorem d_L_law_182 : decode c_L_law 182 = .ok (.iaload, 1) := by decide +kernel
theorem d_L_law_183 : decode c_L_law 183 = .ok (.aload_n 0, 1) := by decide +kernel
theorem d_L_law_184 : decode c_L_law 184 = .ok (.iload_n 3, 1) := by decide +kernel
theorem d_L_law_185 : decode c_L_law 185 = .ok (.iconst 2, 1) := by decide +kernel
theorem d_L_law_186 : decode c_L_law 186 = .ok (.iadd, 1) := by decide +kernel
theorem d_L_law_187 : decode c_L_law 187 = .ok (.iaload, 1) := by decide +kernel
theorem d_L_law_188 : decode c_L_law 188 = .ok (.aload_n 0, 1) := by decide +kernel
theorem d_L_law_189 : decode c_L_law 189 = .ok (.iload_n 3, 1) := by decide +kernel
theorem d_L_law_190 : decode c_L_law 190 = .ok (.iconst 3, 1) := by decide +kernel
theorem d_L_law_191 : decode c_L_law 191 = .ok (.iadd, 1) := by decide +kernel
theorem d_L_law_192 : decode c_L_law 192 = .ok (.iaload, 1) := by decide +kernel
theorem d_L_law_193 : decode c_L_law 193 = .ok (.aload_n 0, 1) := by decide +kernel
theorem d_L_law_194 : decode c_L_law 194 = .ok (.iload_n 3, 1) := by decide +kernel
theorem d_L_law_195 : decode c_L_law 195 = .ok (.iconst 4, 1) := by decide +kernel
theorem d_L_law_196 : decode c_L_law 196 = .ok (.iadd, 1) := by decide +kernel
theorem d_L_law_197 : decode c_L_law 197 = .ok (.iaload, 1) := by decide +kernel
theorem d_L_law_198 : decode c_L_law 198 = .ok (.aload_n 0, 1) := by decide +kernel
theorem d_L_law_199 : decode c_L_law 199 = .ok (.iload_n 3, 1) := by decide +kernel
theorem d_L_law_200 : decode c_L_law 200 = .ok (.iconst 5, 1) := by decide +kernel
theorem d_L_law_201 : decode c_L_law 201 = .ok (.iadd, 1) := by decide +kernel
theorem d_L_law_202 : decode c_L_law 202 = .ok (.iaload, 1) := by decide +kernel
theorem d_L_law_203 : decode c_L_law 203 = .ok (.invokevirtual 17, 3) := by decide +kernel
theorem d_L_law_206 : decode c_L_law 206 = .ok (.if_icmp .eq 627, 3) := by decide +kernel
theorem d_L_law_209 : decode c_L_law 209 = .ok (.iconst 0, 1) := by decide +kernel
theorem d_L_law_210 : decode c_L_law 210 = .ok (.ireturn, 1) := by decide +kernel
theorem d_L_law_211 : decode c_L_law 211 = .ok (.aload_n 1, 1) := by decide +kernel
theorem d_L_law_212 : decode c_L_law 212 = .ok (.aload_n 0, 1) := by decide +kernel
theorem d_L_law_213 : decode c_L_law 213 = .ok (.iload_n 3, 1) := by decide +kernel
theorem d_L_law_214 : decode c_L_law 214 = .ok (.iconst 1, 1) := by decide +kernel
theorem d_L_law_215 : decode c_L_law 215 = .ok (.iadd, 1) := by decide +kernel
theorem d_L_law_216 : decode c_L_law 216 = .ok (.iaload, 1) := by decide +kernel
theorem d_L_law_217 : decode c_L_law 217 = .ok (.aload_n 0, 1) := by decide +kernel
theorem d_L_law_218 : decode c_L_law 218 = .ok (.iload_n 3, 1) := by decide +kernel
theorem d_L_law_219 : decode c_L_law 219 = .ok (.iconst 2, 1) := by decide +kernel
theorem d_L_law_220 : decode c_L_law 220 = .ok (.iadd, 1) := by decide +kernel
theorem d_L_law_221 : decode c_L_law 221 = .ok (.iaload, 1) := by decide +kernel
theorem d_L_law_222 : decode c_L_law 222 = .ok (.aload_n 0, 1) := by decide +kernel
theorem d_L_law_223 : decode c_L_law 223 = .ok (.iload_n 3, 1) := by decide +kernel
theorem d_L_law_224 : decode c_L_law 224 = .ok (.iconst 3, 1) := by decide +kernel
theorem d_L_law_225 : decode c_L_law 225 = .ok (.iadd, 1) := by decide +kernel
theorem d_L_law_226 : decode c_L_law 226 = .ok (.iaload, 1) := by decide +kernel
theorem d_L_law_227 : decode c_L_law 227 = .ok (.invokevirtual 18, 3) := by decide +kernel
theorem d_L_law_230 : decode c_L_law 230 = .ok (.aload_n 2, 1) := by decide +kernel
theorem d_L_law_231 : decode c_L_law 231 = .ok (.aload_n 0, 1) := by decide +kernel
theorem d_L_law_232 : decode c_L_law 232 = .ok (.iload_n 3, 1) := by decide +kernel
theorem d_L_law_233 : decode c_L_law 233 = .ok (.iconst 1, 1) := by decide +kernel
theorem d_L_law_234 : decode c_L_law 234 = .ok (.iadd, 1) := by decide +kernel
theorem d_L_law_235 : decode c_L_law 235 = .ok (.iaload, 1) := by decide +kernel
theorem d_L_law_236 : decode c_L_law 236 = .ok (.aload_n 0, 1) := by decide +kernel
theorem d_L_law_237 : decode c_L_law 237 = .ok (.iload_n 3, 1) := by decide +kernel
theorem d_L_law_238 : decode c_L_law 238 = .ok (.iconst 2, 1) := by decide +kernel
theorem d_L_law_239 : decode c_L_law 239 = .ok (.iadd, 1) := by decide +kernel
theorem d_L_law_240 : decode c_L_law 240 = .ok (.iaload, 1) := by decide +kernel
theorem d_L_law_241 : decode c_L_law 241 = .ok (.aload_n 0, 1) := by decide +kernel
theorem d_L_law_242 : decode c_L_law 242 = .ok (.iload_n 3, 1) := by decide +kernel
theorem d_L_law_243 : decode c_L_law 243 = .ok (.iconst 3, 1) := by decide +kernel
theorem d_L_law_244 : decode c_L_law 244 = .ok (.iadd, 1) := by decide +kernel
theorem d_L_law_245 : decode c_L_law 245 = .ok (.iaload, 1) := by decide +kernel
theorem d_L_law_246 : decode c_L_law 246 = .ok (.invokevirtual 22, 3) := by decide +kernel
theorem d_L_law_249 : decode c_L_law 249 = .ok (.if_icmp .eq 584, 3) := by decide +kernel
theorem d_L_law_252 : decode c_L_law 252 = .ok (.iconst 0, 1) := by decide +kernel
theorem d_L_law_253 : decode c_L_law 253 = .ok (.ireturn, 1) := by decide +kernel
theorem d_L_law_254 : decode c_L_law 254 = .ok (.aload_n 1, 1) := by decide +kernel
theorem d_L_law_255 : decode c_L_law 255 = .ok (.aload_n 0, 1) := by decide +kernel
theorem d_L_law_256 : decode c_L_law 256 = .ok (.iload_n 3, 1) := by decide +kernel
theorem d_L_law_257 : decode c_L_law 257 = .ok (.iconst 1, 1) := by decide +kernel
theorem d_L_law_258 : decode c_L_law 258 = .ok (.iadd, 1) := by decide +kernel
theorem d_L_law_259 : decode c_L_law 259 = .ok (.iaload, 1) := by decide +kernel
theorem d_L_law_260 : decode c_L_law 260 = .ok (.aload_n 0, 1) := by decide +kernel
theorem d_L_law_261 : decode c_L_law 261 = .ok (.iload_n 3, 1) := by decide +kernel
theorem d_L_law_262 : decode c_L_law 262 = .ok (.iconst 2, 1) := by decide +kernel
theorem d_L_law_263 : decode c_L_law 263 = .ok (.iadd, 1) := by decide +kernel
theorem d_L_law_264 : decode c_L_law 264 = .ok (.iaload, 1) := by decide +kernel
theorem d_L_law_265 : decode c_L_law 265 = .ok (.invokevirtual 23, 3) := by decide +kernel
theorem d_L_law_268 : decode c_L_law 268 = .ok (.aload_n 2, 1) := by decide +kernel
theorem d_L_law_269 : decode c_L_law 269 = .ok (.aload_n 0, 1) := by decide +kernel
theorem d_L_law_270 : decode c_L_law 270 = .ok (.iload_n 3, 1) := by decide +kernel
theorem d_L_law_271 : decode c_L_law 271 = .ok (.iconst 1, 1) := by decide +kernel
theorem d_L_law_272 : decode c_L_law 272 = .ok (.iadd, 1) := by decide +kernel
theorem d_L_law_273 : decode c_L_law 273 = .ok (.iaload, 1) := by decide +kernel
theorem d_L_law_274 : decode c_L_law 274 = .ok (.aload_n 0, 1) := by decide +kernel
theorem d_L_law_275 : decode c_L_law 275 = .ok (.iload_n 3, 1) := by decide +kernel
theorem d_L_law_276 : decode c_L_law 276 = .ok (.iconst 2, 1) := by decide +kernel
theorem d_L_law_277 : decode c_L_law 277 = .ok (.iadd, 1) := by decide +kernel
theorem d_L_law_278 : decode c_L_law 278 = .ok (.iaload, 1) := by decide +kernel
theorem d_L_law_279 : decode c_L_law 279 = .ok (.invokevirtual 27, 3) := by decide +kernel
theorem d_L_law_282 : decode c_L_law 282 = .ok (.if_icmp .eq 551, 3) := by decide +kernel
theorem d_L_law_285 : decode c_L_law 285 = .ok (.iconst 0, 1) := by decide +kernel
theorem d_L_law_286 : decode c_L_law 286 = .ok (.ireturn, 1) := by decide +kernel
theorem d_L_law_287 : decode c_L_law 287 = .ok (.aload_n 1, 1) := by decide +kernel
theorem d_L_law_288 : decode c_L_law 288 = .ok (.aload_n 0, 1) := by decide +kernel
theorem d_L_law_289 : decode c_L_law 289 = .ok (.iload_n 3, 1) := by decide +kernel
theorem d_L_law_290 : decode c_L_law 290 = .ok (.iconst 1, 1) := by decide +kernel
theorem d_L_law_291 : decode c_L_law 291 = .ok (.iadd, 1) := by decide +kernel
theorem d_L_law_292 : decode c_L_law 292 = .ok (.iaload, 1) := by decide +kernel
theorem d_L_law_293 : decode c_L_law 293 = .ok (.aload_n 0, 1) := by decide +kernel
theorem d_L_law_294 : decode c_L_law 294 = .ok (.iload_n 3, 1) := by decide +kernel
theorem d_L_law_295 : decode c_L_law 295 = .ok (.iconst 2, 1) := by decide +kernel
theorem d_L_law_296 : decode c_L_law 296 = .ok (.iadd, 1) := by decide +kernel
theorem d_L_law_297 : decode c_L_law 297 = .ok (.iaload, 1) := by decide +kernel
theorem d_L_law_298 : decode c_L_law 298 = .ok (.invokevirtual 28, 3) := by decide +kernel
theorem d_L_law_301 : decode c_L_law 301 = .ok (.aload_n 2, 1) := by decide +kernel
theorem d_L_law_302 : decode c_L_law 302 = .ok (.aload_n 0, 1) := by decide +kernel
theorem d_L_law_303 : decode c_L_law 303 = .ok (.iload_n 3, 1) := by decide +kernel
theorem d_L_law_304 : decode c_L_law 304 = .ok (.iconst 1, 1) := by decide +kernel
theorem d_L_law_305 : decode c_L_law 305 = .ok (.iadd, 1) := by decide +kernel
theorem d_L_law_306 : decode c_L_law 306 = .ok (.iaload, 1) := by decide +kernel
theorem d_L_law_307 : decode c_L_law 307 = .ok (.aload_n 0, 1) := by decide +kernel
theorem d_L_law_308 : decode c_L_law 308 = .ok (.iload_n 3, 1) := by decide +kernel
theorem d_L_law_309 : decode c_L_law 309 = .ok (.iconst 2, 1) := by decide +kernel
theorem d_L_law_310 : decode c_L_law 310 = .ok (.iadd, 1) := by decide +kernel
theorem d_L_law_311 : decode c_L_law 311 = .ok (.iaload, 1) := by decide +kernel
theorem d_L_law_312 : decode c_L_law 312 = .ok (.invokevirtual 31, 3) := by decide +kernel
theorem d_L_law_315 : decode c_L_law 315 = .ok (.if_icmp .eq 518, 3) := by decide +kernel
theorem d_L_law_318 : decode c_L_law 318 = .ok (.iconst 0, 1) := by decide +kernel
theorem d_L_law_319 : decode c_L_law 319 = .ok (.ireturn, 1) := by decide +kernel
theorem d_L_law_320 : decode c_L_law 320 = .ok (.aload_n 1, 1) := by decide +kernel
theorem d_L_law_321 : decode c_L_law 321 = .ok (.aload_n 0, 1) := by decide +kernel
theorem d_L_law_322 : decode c_L_law 322 = .ok (.iload_n 3, 1) := by decide +kernel
theorem d_L_law_323 : decode c_L_law 323 = .ok (.iconst 1, 1) := by decide +kernel
theorem d_L_law_324 : decode c_L_law 324 = .ok (.iadd, 1) := by decide +kernel
theorem d_L_law_325 : decode c_L_law 325 = .ok (.iaload, 1) := by decide +kernel
theorem d_L_law_326 : decode c_L_law 326 = .ok (.invokevirtual 32, 3) := by decide +kernel
theorem d_L_law_329 : decode c_L_law 329 = .ok (.aload_n 2, 1) := by decide +kernel
theorem d_L_law_330 : decode c_L_law 330 = .ok (.aload_n 0, 1) := by decide +kernel
theorem d_L_law_331 : decode c_L_law 331 = .ok (.iload_n 3, 1) := by decide +kernel
theorem d_L_law_332 : decode c_L_law 332 = .ok (.iconst 1, 1) := by decide +kernel
theorem d_L_law_333 : decode c_L_law 333 = .ok (.iadd, 1) := by decide +kernel
theorem d_L_law_334 : decode c_L_law 334 = .ok (.iaload, 1) := by decide +kernel
theorem d_L_law_335 : decode c_L_law 335 = .ok (.invokevirtual 36, 3) := by decide +kernel
theorem d_L_law_338 : decode c_L_law 338 = .ok (.if_icmp .eq 495, 3) := by decide +kernel
theorem d_L_law_341 : decode c_L_law 341 = .ok (.iconst 0, 1) := by decide +kernel
theorem d_L_law_342 : decode c_L_law 342 = .ok (.ireturn, 1) := by decide +kernel
theorem d_L_law_343 : decode c_L_law 343 = .ok (.aload_n 1, 1) := by decide +kernel
theorem d_L_law_344 : decode c_L_law 344 = .ok (.aload_n 0, 1) := by decide +kernel
theorem d_L_law_345 : decode c_L_law 345 = .ok (.iload_n 3, 1) := by decide +kernel
theorem d_L_law_346 : decode c_L_law 346 = .ok (.iconst 1, 1) := by decide +kernel
theorem d_L_law_347 : decode c_L_law 347 = .ok (.iadd, 1) := by decide +kernel
theorem d_L_law_348 : decode c_L_law 348 = .ok (.iaload, 1) := by decide +kernel
theorem d_L_law_349 : decode c_L_law 349 = .ok (.aload_n 0, 1) := by decide +kernel
theorem d_L_law_350 : decode c_L_law 350 = .ok (.iload_n 3, 1) := by decide +kernel
theorem d_L_law_351 : decode c_L_law 351 = .ok (.iconst 2, 1) := by decide +kernel
theorem d_L_law_352 : decode c_L_law 352 = .ok (.iadd, 1) := by decide +kernel
theorem d_L_law_353 : decode c_L_law 353 = .ok (.iaload, 1) := by decide +kernel
theorem d_L_law_354 : decode c_L_law 354 = .ok (.invokevirtual 37, 3) := by decide +kernel
theorem d_L_law_357 : decode c_L_law 357 = .ok (.aload_n 2, 1) := by decide +kernel
theorem d_L_law_358 : decode c_L_law 358 = .ok (.aload_n 0, 1) := by decide +kernel
theorem d_L_law_359 : decode c_L_law 359 = .ok (.iload_n 3, 1) := by decide +kernel
theorem d_L_law_360 : decode c_L_law 360 = .ok (.iconst 1, 1) := by decide +kernel
theorem d_L_law_361 : decode c_L_law 361 = .ok (.iadd, 1) := by decide +kernel
theorem d_L_law_362 : decode c_L_law 362 = .ok (.iaload, 1) := by decide +kernel
theorem d_L_law_363 : decode c_L_law 363 = .ok (.aload_n 0, 1) := by decide +kernel
theorem d_L_law_364 : decode c_L_law 364 = .ok (.iload_n 3, 1) := by decide +kernel
theorem d_L_law_365 : decode c_L_law 365 = .ok (.iconst 2, 1) := by decide +kernel
theorem d_L_law_366 : decode c_L_law 366 = .ok (.iadd, 1) := by decide +kernel
theorem d_L_law_367 : decode c_L_law 367 = .ok (.iaload, 1) := by decide +kernel
theorem d_L_law_368 : decode c_L_law 368 = .ok (.invokevirtual 40, 3) := by decide +kernel
theorem d_L_law_371 : decode c_L_law 371 = .ok (.if_icmp .eq 462, 3) := by decide +kernel
theorem d_L_law_374 : decode c_L_law 374 = .ok (.iconst 0, 1) := by decide +kernel
theorem d_L_law_375 : decode c_L_law 375 = .ok (.ireturn, 1) := by decide +kernel
theorem d_L_law_376 : decode c_L_law 376 = .ok (.aload_n 1, 1) := by decide +kernel
theorem d_L_law_377 : decode c_L_law 377 = .ok (.aload_n 0, 1) := by decide +kernel
theorem d_L_law_378 : decode c_L_law 378 = .ok (.iload_n 3, 1) := by decide +kernel
theorem d_L_law_379 : decode c_L_law 379 = .ok (.iconst 1, 1) := by decide +kernel
theorem d_L_law_380 : decode c_L_law 380 = .ok (.iadd, 1) := by decide +kernel
theorem d_L_law_381 : decode c_L_law 381 = .ok (.iaload, 1) := by decide +kernel
theorem d_L_law_382 : decode c_L_law 382 = .ok (.aload_n 0, 1) := by decide +kernel
theorem d_L_law_383 : decode c_L_law 383 = .ok (.iload_n 3, 1) := by decide +kernel
theorem d_L_law_384 : decode c_L_law 384 = .ok (.iconst 2, 1) := by decide +kernel
theorem d_L_law_385 : decode c_L_law 385 = .ok (.iadd, 1) := by decide +kernel
theorem d_L_law_386 : decode c_L_law 386 = .ok (.iaload, 1) := by decide +kernel
theorem d_L_law_387 : decode c_L_law 387 = .ok (.invokevirtual 41, 3) := by decide +kernel
theorem d_L_law_390 : decode c_L_law 390 = .ok (.aload_n 2, 1) := by decide +kernel
theorem d_L_law_391 : decode c_L_law 391 = .ok (.aload_n 0, 1) := by decide +kernel
theorem d_L_law_392 : decode c_L_law 392 = .ok (.iload_n 3, 1) := by decide +kernel
theorem d_L_law_393 : decode c_L_law 393 = .ok (.iconst 1, 1) := by decide +kernel
theorem d_L_law_394 : decode c_L_law 394 = .ok (.iadd, 1) := by decide +kernel
theorem d_L_law_395 : decode c_L_law 395 = .ok (.iaload, 1) := by decide +kernel
theorem d_L_law_396 : decode c_L_law 396 = .ok (.aload_n 0, 1) := by decide +kernel
theorem d_L_law_397 : decode c_L_law 397 = .ok (.iload_n 3, 1) := by decide +kernel
theorem d_L_law_398 : decode c_L_law 398 = .ok (.iconst 2, 1) := by decide +kernel
theorem d_L_law_399 : decode c_L_law 399 = .ok (.iadd, 1) := by decide +kernel
theorem d_L_law_400 : decode c_L_law 400 = .ok (.iaload, 1) := by decide +kernel
theorem d_L_law_401 : decode c_L_law 401 = .ok (.invokevirtual 44, 3) := by decide +kernel
theorem d_L_law_404 : decode c_L_law 404 = .ok (.if_icmp .eq 429, 3) := by decide +kernel
theorem d_L_law_407 : decode c_L_law 407 = .ok (.iconst 0, 1) := by decide +kernel
theorem d_L_law_408 : decode c_L_law 408 = .ok (.ireturn, 1) := by decide +kernel
theorem d_L_law_409 : decode c_L_law 409 = .ok (.aload_n 1, 1) := by decide +kernel
theorem d_L_law_410 : decode c_L_law 410 = .ok (.aload_n 0, 1) := by decide +kernel
theorem d_L_law_411 : decode c_L_law 411 = .ok (.iload_n 3, 1) := by decide +kernel
theorem d_L_law_412 : decode c_L_law 412 = .ok (.iconst 1, 1) := by decide +kernel
theorem d_L_law_413 : decode c_L_law 413 = .ok (.iadd, 1) := by decide +kernel
theorem d_L_law_414 : decode c_L_law 414 = .ok (.iaload, 1) := by decide +kernel
theorem d_L_law_415 : decode c_L_law 415 = .ok (.aload_n 0, 1) := by decide +kernel
theorem d_L_law_416 : decode c_L_law 416 = .ok (.iload_n 3, 1) := by decide +kernel
theorem d_L_law_417 : decode c_L_law 417 = .ok (.iconst 2, 1) := by decide +kernel
theorem d_L_law_418 : decode c_L_law 418 = .ok (.iadd, 1) := by decide +kernel
theorem d_L_law_419 : decode c_L_law 419 = .ok (.iaload, 1) := by decide +kernel
theorem d_L_law_420 : decode c_L_law 420 = .ok (.invokevirtual 45, 3) := by decide +kernel
theorem d_L_law_423 : decode c_L_law 423 = .ok (.aload_n 2, 1) := by decide +kernel
theorem d_L_law_424 : decode c_L_law 424 = .ok (.aload_n 0, 1) := by decide +kernel
theorem d_L_law_425 : decode c_L_law 425 = .ok (.iload_n 3, 1) := by decide +kernel
theorem d_L_law_426 : decode c_L_law 426 = .ok (.iconst 1, 1) := by decide +kernel
theorem d_L_law_427 : decode c_L_law 427 = .ok (.iadd, 1) := by decide +kernel
theorem d_L_law_428 : decode c_L_law 428 = .ok (.iaload, 1) := by decide +kernel
theorem d_L_law_429 : decode c_L_law 429 = .ok (.aload_n 0, 1) := by decide +kernel
theorem d_L_law_430 : decode c_L_law 430 = .ok (.iload_n 3, 1) := by decide +kernel
theorem d_L_law_431 : decode c_L_law 431 = .ok (.iconst 2, 1) := by decide +kernel
theorem d_L_law_432 : decode c_L_law 432 = .ok (.iadd, 1) := by decide +kernel
theorem d_L_law_433 : decode c_L_law 433 = .ok (.iaload, 1) := by decide +kernel
theorem d_L_law_434 : decode c_L_law 434 = .ok (.invokevirtual 48, 3) := by decide +kernel
theorem d_L_law_437 : decode c_L_law 437 = .ok (.if_icmp .eq 396, 3) := by decide +kernel
theorem d_L_law_440 : decode c_L_law 440 = .ok (.iconst 0, 1) := by decide +kernel
theorem d_L_law_441 : decode c_L_law 441 = .ok (.ireturn, 1) := by decide +kernel
theorem d_L_law_442 : decode c_L_law 442 = .ok (.aload_n 1, 1) := by decide +kernel
theorem d_L_law_443 : decode c_L_law 443 = .ok (.aload_n 0, 1) := by decide +kernel
theorem d_L_law_444 : decode c_L_law 444 = .ok (.iload_n 3, 1) := by decide +kernel
theorem d_L_law_445 : decode c_L_law 445 = .ok (.iconst 1, 1) := by decide +kernel
theorem d_L_law_446 : decode c_L_law 446 = .ok (.iadd, 1) := by decide +kernel
theorem d_L_law_447 : decode c_L_law 447 = .ok (.iaload, 1) := by decide +kernel
theorem d_L_law_448 : decode c_L_law 448 = .ok (.invokevirtual 49, 3) := by decide +kernel
theorem d_L_law_451 : decode c_L_law 451 = .ok (.aload_n 2, 1) := by decide +kernel
theorem d_L_law_452 : decode c_L_law 452 = .ok (.aload_n 0, 1) := by decide +kernel
theorem d_L_law_453 : decode c_L_law 453 = .ok (.iload_n 3, 1) := by decide +kernel
theorem d_L_law_454 : decode c_L_law 454 = .ok (.iconst 1, 1) := by decide +kernel
theorem d_L_law_455 : decode c_L_law 455 = .ok (.iadd, 1) := by decide +kernel
theorem d_L_law_456 : decode c_L_law 456 = .ok (.iaload, 1) := by decide +kernel
theorem d_L_law_457 : decode c_L_law 457 = .ok (.invokevirtual 52, 3) := by decide +kernel
theorem d_L_law_460 : decode c_L_law 460 = .ok (.if_icmp .eq 373, 3) := by decide +kernel
theorem d_L_law_463 : decode c_L_law 463 = .ok (.iconst 0, 1) := by decide +kernel
theorem d_L_law_464 : decode c_L_law 464 = .ok (.ireturn, 1) := by decide +kernel
theorem d_L_law_465 : decode c_L_law 465 = .ok (.aload_n 1, 1) := by decide +kernel
theorem d_L_law_466 : decode c_L_law 466 = .ok (.invokevirtual 53, 3) := by decide +kernel
theorem d_L_law_469 : decode c_L_law 469 = .ok (.aload_n 2, 1) := by decide +kernel
theorem d_L_law_470 : decode c_L_law 470 = .ok (.invokevirtual 57, 3) := by decide +kernel
theorem d_L_law_473 : decode c_L_law 473 = .ok (.if_icmp .eq 360, 3) := by decide +kernel
theorem d_L_law_476 : decode c_L_law 476 = .ok (.iconst 0, 1) := by decide +kernel
theorem d_L_law_477 : decode c_L_law 477 = .ok (.ireturn, 1) := by decide +kernel
theorem d_L_law_478 : decode c_L_law 478 = .ok (.aload_n 1, 1) := by decide +kernel
theorem d_L_law_479 : decode c_L_law 479 = .ok (.aload_n 0, 1) := by decide +kernel
theorem d_L_law_480 : decode c_L_law 480 = .ok (.iload_n 3, 1) := by decide +kernel
theorem d_L_law_481 : decode c_L_law 481 = .ok (.iconst 1, 1) := by decide +kernel
theorem d_L_law_482 : decode c_L_law 482 = .ok (.iadd, 1) := by decide +kernel
theorem d_L_law_483 : decode c_L_law 483 = .ok (.iaload, 1) := by decide +kernel
theorem d_L_law_484 : decode c_L_law 484 = .ok (.invokevirtual 58, 3) := by decide +kernel
theorem d_L_law_487 : decode c_L_law 487 = .ok (.aload_n 2, 1) := by decide +kernel
theorem d_L_law_488 : decode c_L_law 488 = .ok (.aload_n 0, 1) := by decide +kernel
theorem d_L_law_489 : decode c_L_law 489 = .ok (.iload_n 3, 1) := by decide +kernel
theorem d_L_law_490 : decode c_L_law 490 = .ok (.iconst 1, 1) := by decide +kernel
theorem d_L_law_491 : decode c_L_law 491 = .ok (.iadd, 1) := by decide +kernel
theorem d_L_law_492 : decode c_L_law 492 = .ok (.iaload, 1) := by decide +kernel
theorem d_L_law_493 : decode c_L_law 493 = .ok (.invokevirtual 61, 3) := by decide +kernel
theorem d_L_law_496 : decode c_L_law 496 = .ok (.if_icmp .eq 337, 3) := by decide +kernel
theorem d_L_law_499 : decode c_L_law 499 = .ok (.iconst 0, 1) := by decide +kernel
theorem d_L_law_500 : decode c_L_law 500 = .ok (.ireturn, 1) := by decide +kernel
theorem d_L_law_501 : decode c_L_law 501 = .ok (.aload_n 1, 1) := by decide +kernel
theorem d_L_law_502 : decode c_L_law 502 = .ok (.aload_n 0, 1) := by decide +kernel
theorem d_L_law_503 : decode c_L_law 503 = .ok (.iload_n 3, 1) := by decide +kernel
theorem d_L_law_504 : decode c_L_law 504 = .ok (.iconst 1, 1) := by decide +kernel
theorem d_L_law_505 : decode c_L_law 505 = .ok (.iadd, 1) := by decide +kernel
theorem d_L_law_506 : decode c_L_law 506 = .ok (.iaload, 1) := by decide +kernel
theorem d_L_law_507 : decode c_L_law 507 = .ok (.invokevirtual 62, 3) := by decide +kernel
theorem d_L_law_510 : decode c_L_law 510 = .ok (.aload_n 2, 1) := by decide +kernel
theorem d_L_law_511 : decode c_L_law 511 = .ok (.aload_n 0, 1) := by decide +kernel
theorem d_L_law_512 : decode c_L_law 512 = .ok (.iload_n 3, 1) := by decide +kernel
theorem d_L_law_513 : decode c_L_law 513 = .ok (.iconst 1, 1) := by decide +kernel
theorem d_L_law_514 : decode c_L_law 514 = .ok (.iadd, 1) := by decide +kernel
theorem d_L_law_515 : decode c_L_law 515 = .ok (.iaload, 1) := by decide +kernel
theorem d_L_law_516 : decode c_L_law 516 = .ok (.invokevirtual 65, 3) := by decide +kernel
theorem d_L_law_519 : decode c_L_law 519 = .ok (.if_icmp .eq 314, 3) := by decide +kernel
theorem d_L_law_522 : decode c_L_law 522 = .ok (.iconst 0, 1) := by decide +kernel
theorem d_L_law_523 : decode c_L_law 523 = .ok (.ireturn, 1) := by decide +kernel
theorem d_L_law_524 : decode c_L_law 524 = .ok (.aload_n 1, 1) := by decide +kernel
theorem d_L_law_525 : decode c_L_law 525 = .ok (.aload_n 0, 1) := by decide +kernel
theorem d_L_law_526 : decode c_L_law 526 = .ok (.iload_n 3, 1) := by decide +kernel
theorem d_L_law_527 : decode c_L_law 527 = .ok (.iconst 1, 1) := by decide +kernel
theorem d_L_law_528 : decode c_L_law 528 = .ok (.iadd, 1) := by decide +kernel
theorem d_L_law_529 : decode c_L_law 529 = .ok (.iaload, 1) := by decide +kernel
theorem d_L_law_530 : decode c_L_law 530 = .ok (.aload_n 0, 1) := by decide +kernel
theorem d_L_law_531 : decode c_L_law 531 = .ok (.iload_n 3, 1) := by decide +kernel
theorem d_L_law_532 : decode c_L_law 532 = .ok (.iconst 2, 1) := by decide +kernel
theorem d_L_law_533 : decode c_L_law 533 = .ok (.iadd, 1) := by decide +kernel
theorem d_L_law_534 : decode c_L_law 534 = .ok (.iaload, 1) := by decide +kernel
theorem d_L_law_535 : decode c_L_law 535 = .ok (.invokevirtual 66, 3) := by decide +kernel
theorem d_L_law_538 : decode c_L_law 538 = .ok (.aload_n 2, 1) := by decide +kernel
theorem d_L_law_539 : decode c_L_law 539 = .ok (.aload_n 0, 1) := by decide +kernel
theorem d_L_law_540 : decode c_L_law 540 = .ok (.iload_n 3, 1) := by decide +kernel
theorem d_L_law_541 : decode c_L_law 541 = .ok (.iconst 1, 1) := by decide +kernel
theorem d_L_law_542 : decode c_L_law 542 = .ok (.iadd, 1) := by decide +kernel
theorem d_L_law_543 : decode c_L_law 543 = .ok (.iaload, 1) := by decide +kernel
theorem d_L_law_544 : decode c_L_law 544 = .ok (.aload_n 0, 1) := by decide +kernel
theorem d_L_law_545 : decode c_L_law 545 = .ok (.iload_n 3, 1) := by decide +kernel
theorem d_L_law_546 : decode c_L_law 546 = .ok (.iconst 2, 1) := by decide +kernel
theorem d_L_law_547 : decode c_L_law 547 = .ok (.iadd, 1) := by decide +kernel
theorem d_L_law_548 : decode c_L_law 548 = .ok (.iaload, 1) := by decide +kernel
theorem d_L_law_549 : decode c_L_law 549 = .ok (.invokevirtual 69, 3) := by decide +kernel
theorem d_L_law_552 : decode c_L_law 552 = .ok (.if_icmp .eq 281, 3) := by decide +kernel
theorem d_L_law_555 : decode c_L_law 555 = .ok (.iconst 0, 1) := by decide +kernel
theorem d_L_law_556 : decode c_L_law 556 = .ok (.ireturn, 1) := by decide +kernel
theorem d_L_law_557 : decode c_L_law 557 = .ok (.aload_n 1, 1) := by decide +kernel
theorem d_L_law_558 : decode c_L_law 558 = .ok (.aload_n 0, 1) := by decide +kernel
theorem d_L_law_559 : decode c_L_law 559 = .ok (.iload_n 3, 1) := by decide +kernel
theorem d_L_law_560 : decode c_L_law 560 = .ok (.iconst 1, 1) := by decide +kernel
theorem d_L_law_561 : decode c_L_law 561 = .ok (.iadd, 1) := by decide +kernel
theorem d_L_law_562 : decode c_L_law 562 = .ok (.iaload, 1) := by decide +kernel
theorem d_L_law_563 : decode c_L_law 563 = .ok (.invokevirtual 70, 3) := by decide +kernel
theorem d_L_law_566 : decode c_L_law 566 = .ok (.aload_n 2, 1) := by decide +kernel
theorem d_L_law_567 : decode c_L_law 567 = .ok (.aload_n 0, 1) := by decide +kernel
theorem d_L_law_568 : decode c_L_law 568 = .ok (.iload_n 3, 1) := by decide +kernel
theorem d_L_law_569 : decode c_L_law 569 = .ok (.iconst 1, 1) := by decide +kernel
theorem d_L_law_570 : decode c_L_law 570 = .ok (.iadd, 1) := by decide +kernel
theorem d_L_law_571 : decode c_L_law 571 = .ok (.iaload, 1) := by decide +kernel
theorem d_L_law_572 : decode c_L_law 572 = .ok (.invokevirtual 73, 3) := by decide +kernel
theorem d_L_law_575 : decode c_L_law 575 = .ok (.if_icmp .eq 258, 3) := by decide +kernel
theorem d_L_law_578 : decode c_L_law 578 = .ok (.iconst 0, 1) := by decide +kernel
theorem d_L_law_579 : decode c_L_law 579 = .ok (.ireturn, 1) := by decide +kernel
theorem d_L_law_580 : decode c_L_law 580 = .ok (.aload_n 1, 1) := by decide +kernel
theorem d_L_law_581 : decode c_L_law 581 = .ok (.invokevirtual 74, 3) := by decide +kernel
theorem d_L_law_584 : decode c_L_law 584 = .ok (.aload_n 2, 1) := by decide +kernel
theorem d_L_law_585 : decode c_L_law 585 = .ok (.invokevirtual 77, 3) := by decide +kernel
theorem d_L_law_588 : decode c_L_law 588 = .ok (.if_icmp .eq 245, 3) := by decide +kernel
theorem d_L_law_591 : decode c_L_law 591 = .ok (.iconst 0, 1) := by decide +kernel
theorem d_L_law_592 : decode c_L_law 592 = .ok (.ireturn, 1) := by decide +kernel
theorem d_L_law_593 : decode c_L_law 593 = .ok (.aload_n 1, 1) := by decide +kernel
theorem d_L_law_594 : decode c_L_law 594 = .ok (.aload_n 0, 1) := by decide +kernel
theorem d_L_law_595 : decode c_L_law 595 = .ok (.iload_n 3, 1) := by decide +kernel
theorem d_L_law_596 : decode c_L_law 596 = .ok (.iconst 1, 1) := by decide +kernel
theorem d_L_law_597 : decode c_L_law 597 = .ok (.iadd, 1) := by decide +kernel
theorem d_L_law_598 : decode c_L_law 598 = .ok (.iaload, 1) := by decide +kernel
theorem d_L_law_599 : decode c_L_law 599 = .ok (.invokevirtual 78, 3) := by decide +kernel
theorem d_L_law_602 : decode c_L_law 602 = .ok (.aload_n 2, 1) := by decide +kernel
theorem d_L_law_603 : decode c_L_law 603 = .ok (.aload_n 0, 1) := by decide +kernel
theorem d_L_law_604 : decode c_L_law 604 = .ok (.iload_n 3, 1) := by decide +kernel
theorem d_L_law_605 : decode c_L_law 605 = .ok (.iconst 1, 1) := by decide +kernel
theorem d_L_law_606 : decode c_L_law 606 = .ok (.iadd, 1) := by decide +kernel
theorem d_L_law_607 : decode c_L_law 607 = .ok (.iaload, 1) := by decide +kernel
theorem d_L_law_608 : decode c_L_law 608 = .ok (.invokevirtual 81, 3) := by decide +kernel
theorem d_L_law_611 : decode c_L_law 611 = .ok (.if_icmp .eq 222, 3) := by decide +kernel
theorem d_L_law_614 : decode c_L_law 614 = .ok (.iconst 0, 1) := by decide +kernel
theorem d_L_law_615 : decode c_L_law 615 = .ok (.ireturn, 1) := by decide +kernel
theorem d_L_law_616 : decode c_L_law 616 = .ok (.aload_n 1, 1) := by decide +kernel
theorem d_L_law_617 : decode c_L_law 617 = .ok (.invokevirtual 82, 3) := by decide +kernel
theorem d_L_law_620 : decode c_L_law 620 = .ok (.aload_n 2, 1) := by decide +kernel
theorem d_L_law_621 : decode c_L_law 621 = .ok (.invokevirtual 85, 3) := by decide +kernel
theorem d_L_law_624 : decode c_L_law 624 = .ok (.if_icmp .eq 209, 3) := by decide +kernel
theorem d_L_law_627 : decode c_L_law 627 = .ok (.iconst 0, 1) := by decide +kernel
theorem d_L_law_628 : decode c_L_law 628 = .ok (.ireturn, 1) := by decide +kernel
theorem d_L_law_629 : decode c_L_law 629 = .ok (.aload_n 1, 1) := by decide +kernel
theorem d_L_law_630 : decode c_L_law 630 = .ok (.aload_n 0, 1) := by decide +kernel
theorem d_L_law_631 : decode c_L_law 631 = .ok (.iload_n 3, 1) := by decide +kernel
theorem d_L_law_632 : decode c_L_law 632 = .ok (.iconst 1, 1) := by decide +kernel
theorem d_L_law_633 : decode c_L_law 633 = .ok (.iadd, 1) := by decide +kernel
theorem d_L_law_634 : decode c_L_law 634 = .ok (.iaload, 1) := by decide +kernel
theorem d_L_law_635 : decode c_L_law 635 = .ok (.invokevirtual 86, 3) := by decide +kernel
theorem d_L_law_638 : decode c_L_law 638 = .ok (.aload_n 2, 1) := by decide +kernel
theorem d_L_law_639 : decode c_L_law 639 = .ok (.aload_n 0, 1) := by decide +kernel
theorem d_L_law_640 : decode c_L_law 640 = .ok (.iload_n 3, 1) := by decide +kernel
theorem d_L_law_641 : decode c_L_law 641 = .ok (.iconst 1, 1) := by decide +kernel
theorem d_L_law_642 : decode c_L_law 642 = .ok (.iadd, 1) := by decide +kernel
theorem d_L_law_643 : decode c_L_law 643 = .ok (.iaload, 1) := by decide +kernel
theorem d_L_law_644 : decode c_L_law 644 = .ok (.invokevirtual 89, 3) := by decide +kernel
theorem d_L_law_647 : decode c_L_law 647 = .ok (.if_icmp .eq 186, 3) := by decide +kernel
theorem d_L_law_650 : decode c_L_law 650 = .ok (.iconst 0, 1) := by decide +kernel
theorem d_L_law_651 : decode c_L_law 651 = .ok (.ireturn, 1) := by decide +kernel
theorem d_L_law_652 : decode c_L_law 652 = .ok (.aload_n 1, 1) := by decide +kernel
theorem d_L_law_653 : decode c_L_law 653 = .ok (.aload_n 0, 1) := by decide +kernel
theorem d_L_law_654 : decode c_L_law 654 = .ok (.iload_n 3, 1) := by decide +kernel
theorem d_L_law_655 : decode c_L_law 655 = .ok (.iconst 1, 1) := by decide +kernel
theorem d_L_law_656 : decode c_L_law 656 = .ok (.iadd, 1) := by decide +kernel
theorem d_L_law_657 : decode c_L_law 657 = .ok (.iaload, 1) := by decide +kernel
theorem d_L_law_658 : decode c_L_law 658 = .ok (.invokevirtual 90, 3) := by decide +kernel
theorem d_L_law_661 : decode c_L_law 661 = .ok (.aload_n 2, 1) := by decide +kernel
theorem d_L_law_662 : decode c_L_law 662 = .ok (.aload_n 0, 1) := by decide +kernel
theorem d_L_law_663 : decode c_L_law 663 = .ok (.iload_n 3, 1) := by decide +kernel
theorem d_L_law_664 : decode c_L_law 664 = .ok (.iconst 1, 1) := by decide +kernel
theorem d_L_law_665 : decode c_L_law 665 = .ok (.iadd, 1) := by decide +kernel
theorem d_L_law_666 : decode c_L_law 666 = .ok (.iaload, 1) := by decide +kernel
theorem d_L_law_667 : decode c_L_law 667 = .ok (.invokevirtual 93, 3) := by decide +kernel
theorem d_L_law_670 : decode c_L_law 670 = .ok (.if_icmp .eq 163, 3) := by decide +kernel
theorem d_L_law_673 : decode c_L_law 673 = .ok (.iconst 0, 1) := by decide +kernel
theorem d_L_law_674 : decode c_L_law 674 = .ok (.ireturn, 1) := by decide +kernel
theorem d_L_law_675 : decode c_L_law 675 = .ok (.aload_n 1, 1) := by decide +kernel
theorem d_L_law_676 : decode c_L_law 676 = .ok (.aload_n 0, 1) := by decide +kernel
theorem d_L_law_677 : decode c_L_law 677 = .ok (.iload_n 3, 1) := by decide +kernel
theorem d_L_law_678 : decode c_L_law 678 = .ok (.iconst 1, 1) := by decide +kernel
theorem d_L_law_679 : decode c_L_law 679 = .ok (.iadd, 1) := by decide +kernel
theorem d_L_law_680 : decode c_L_law 680 = .ok (.iaload, 1) := by decide +kernel
theorem d_L_law_681 : decode c_L_law 681 = .ok (.aload_n 0, 1) := by decide +kernel
theorem d_L_law_682 : decode c_L_law 682 = .ok (.iload_n 3, 1) := by decide +kernel
theorem d_L_law_683 : decode c_L_law 683 = .ok (.iconst 2, 1) := by decide +kernel
theorem d_L_law_684 : decode c_L_law 684 = .ok (.iadd, 1) := by decide +kernel
theorem d_L_law_685 : decode c_L_law 685 = .ok (.iaload, 1) := by decide +kernel
theorem d_L_law_686 : decode c_L_law 686 = .ok (.invokevirtual 94, 3) := by decide +kernel
theorem d_L_law_689 : decode c_L_law 689 = .ok (.aload_n 2, 1) := by decide +kernel
theorem d_L_law_690 : decode c_L_law 690 = .ok (.aload_n 0, 1) := by decide +kernel
theorem d_L_law_691 : decode c_L_law 691 = .ok (.iload_n 3, 1) := by decide +kernel
theorem d_L_law_692 : decode c_L_law 692 = .ok (.iconst 1, 1) := by decide +kernel
theorem d_L_law_693 : decode c_L_law 693 = .ok (.iadd, 1) := by decide +kernel
theorem d_L_law_694 : decode c_L_law 694 = .ok (.iaload, 1) := by decide +kernel
theorem d_L_law_695 : decode c_L_law 695 = .ok (.aload_n 0, 1) := by decide +kernel
theorem d_L_law_696 : decode c_L_law 696 = .ok (.iload_n 3, 1) := by decide +kernel
theorem d_L_law_697 : decode c_L_law 697 = .ok (.iconst 2, 1) := by decide +kernel
theorem d_L_law_698 : decode c_L_law 698 = .ok (.iadd, 1) := by decide +kernel
theorem d_L_law_699 : decode c_L_law 699 = .ok (.iaload, 1) := by decide +kernel
theorem d_L_law_700 : decode c_L_law 700 = .ok (.invokevirtual 97, 3) := by decide +kernel
theorem d_L_law_703 : decode c_L_law 703 = .ok (.if_icmp .eq 130, 3) := by decide +kernel
theorem d_L_law_706 : decode c_L_law 706 = .ok (.iconst 0, 1) := by decide +kernel
theorem d_L_law_707 : decode c_L_law 707 = .ok (.ireturn, 1) := by decide +kernel
theorem d_L_law_708 : decode c_L_law 708 = .ok (.aload_n 1, 1) := by decide +kernel
theorem d_L_law_709 : decode c_L_law 709 = .ok (.aload_n 0, 1) := by decide +kernel
theorem d_L_law_710 : decode c_L_law 710 = .ok (.iload_n 3, 1) := by decide +kernel
theorem d_L_law_711 : decode c_L_law 711 = .ok (.iconst 1, 1) := by decide +kernel
theorem d_L_law_712 : decode c_L_law 712 = .ok (.iadd, 1) := by decide +kernel
theorem d_L_law_713 : decode c_L_law 713 = .ok (.iaload, 1) := by decide +kernel
theorem d_L_law_714 : decode c_L_law 714 = .ok (.invokevirtual 98, 3) := by decide +kernel
theorem d_L_law_717 : decode c_L_law 717 = .ok (.aload_n 2, 1) := by decide +kernel
theorem d_L_law_718 : decode c_L_law 718 = .ok (.aload_n 0, 1) := by decide +kernel
theorem d_L_law_719 : decode c_L_law 719 = .ok (.iload_n 3, 1) := by decide +kernel
theorem d_L_law_720 : decode c_L_law 720 = .ok (.iconst 1, 1) := by decide +kernel
theorem d_L_law_721 : decode c_L_law 721 = .ok (.iadd, 1) := by decide +kernel
theorem d_L_law_722 : decode c_L_law 722 = .ok (.iaload, 1) := by decide +kernel
theorem d_L_law_723 : decode c_L_law 723 = .ok (.invokevirtual 101, 3) := by decide +kernel
theorem d_L_law_726 : decode c_L_law 726 = .ok (.if_icmp .eq 107, 3) := by decide +kernel
theorem d_L_law_729 : decode c_L_law 729 = .ok (.iconst 0, 1) := by decide +kernel
theorem d_L_law_730 : decode c_L_law 730 = .ok (.ireturn, 1) := by decide +kernel
theorem d_L_law_731 : decode c_L_law 731 = .ok (.aload_n 1, 1) := by decide +kernel
theorem d_L_law_732 : decode c_L_law 732 = .ok (.aload_n 0, 1) := by decide +kernel
theorem d_L_law_733 : decode c_L_law 733 = .ok (.iload_n 3, 1) := by decide +kernel
theorem d_L_law_734 : decode c_L_law 734 = .ok (.iconst 1, 1) := by decide +kernel
theorem d_L_law_735 : decode c_L_law 735 = .ok (.iadd, 1) := by decide +kernel
theorem d_L_law_736 : decode c_L_law 736 = .ok (.iaload, 1) := by decide +kernel
theorem d_L_law_737 : decode c_L_law 737 = .ok (.aload_n 0, 1) := by decide +kernel
theorem d_L_law_738 : decode c_L_law 738 = .ok (.iload_n 3, 1) := by decide +kernel
theorem d_L_law_739 : decode c_L_law 739 = .ok (.iconst 2, 1) := by decide +kernel
theorem d_L_law_740 : decode c_L_law 740 = .ok (.iadd, 1) := by decide +kernel
theorem d_L_law_741 : decode c_L_law 741 = .ok (.iaload, 1) := by decide +kernel
theorem d_L_law_742 : decode c_L_law 742 = .ok (.aload_n 0, 1) := by decide +kernel
theorem d_L_law_743 : decode c_L_law 743 = .ok (.iload_n 3, 1) := by decide +kernel
theorem d_L_law_744 : decode c_L_law 744 = .ok (.iconst 3, 1) := by decide +kernel
theorem d_L_law_745 : decode c_L_law 745 = .ok (.iadd, 1) := by decide +kernel
theorem d_L_law_746 : decode c_L_law 746 = .ok (.iaload, 1) := by decide +kernel
theorem d_L_law_747 : decode c_L_law 747 = .ok (.invokevirtual 102, 3) := by decide +kernel
theorem d_L_law_750 : decode c_L_law 750 = .ok (.aload_n 2, 1) := by decide +kernel
theorem d_L_law_751 : decode c_L_law 751 = .ok (.aload_n 0, 1) := by decide +kernel
theorem d_L_law_752 : decode c_L_law 752 = .ok (.iload_n 3, 1) := by decide +kernel
theorem d_L_law_753 : decode c_L_law 753 = .ok (.iconst 1, 1) := by decide +kernel
theorem d_L_law_754 : decode c_L_law 754 = .ok (.iadd, 1) := by decide +kernel
theorem d_L_law_755 : decode c_L_law 755 = .ok (.iaload, 1) := by decide +kernel
theorem d_L_law_756 : decode c_L_law 756 = .ok (.aload_n 0, 1) := by decide +kernel
theorem d_L_law_757 : decode c_L_law 757 = .ok (.iload_n 3, 1) := by decide +kernel
theorem d_L_law_758 : decode c_L_law 758 = .ok (.iconst 2, 1) := by decide +kernel
theorem d_L_law_759 : decode c_L_law 759 = .ok (.iadd, 1) := by decide +kernel
theorem d_L_law_760 : decode c_L_law 760 = .ok (.iaload, 1) := by decide +kernel
theorem d_L_law_761 : decode c_L_law 761 = .ok (.aload_n 0, 1) := by decide +kernel
theorem d_L_law_762 : decode c_L_law 762 = .ok (.iload_n 3, 1) := by decide +kernel
theorem d_L_law_763 : decode c_L_law 763 = .ok (.iconst 3, 1) := by decide +kernel
theorem d_L_law_764 : decode c_L_law 764 = .ok (.iadd, 1) := by decide +kernel
theorem d_L_law_765 : decode c_L_law 765 = .ok (.iaload, 1) := by decide +kernel
theorem d_L_law_766 : decode c_L_law 766 = .ok (.invokevirtual 105, 3) := by decide +kernel
theorem d_L_law_769 : decode c_L_law 769 = .ok (.if_icmp .eq 64, 3) := by decide +kernel
theorem d_L_law_772 : decode c_L_law 772 = .ok (.iconst 0, 1) := by decide +kernel
theorem d_L_law_773 : decode c_L_law 773 = .ok (.ireturn, 1) := by decide +kernel
theorem d_L_law_774 : decode c_L_law 774 = .ok (.aload_n 1, 1) := by decide +kernel
theorem d_L_law_775 : decode c_L_law 775 = .ok (.aload_n 0, 1) := by decide +kernel
theorem d_L_law_776 : decode c_L_law 776 = .ok (.iload_n 3, 1) := by decide +kernel
theorem d_L_law_777 : decode c_L_law 777 = .ok (.iconst 1, 1) := by decide +kernel
theorem d_L_law_778 : decode c_L_law 778 = .ok (.iadd, 1) := by decide +kernel
theorem d_L_law_779 : decode c_L_law 779 = .ok (.iaload, 1) := by decide +kernel
theorem d_L_law_780 : decode c_L_law 780 = .ok (.invokevirtual 106, 3) := by decide +kernel
theorem d_L_law_783 : decode c_L_law 783 = .ok (.aload_n 2, 1) := by decide +kernel
theorem d_L_law_784 : decode c_L_law 784 = .ok (.aload_n 0, 1) := by decide +kernel
theorem d_L_law_785 : decode c_L_law 785 = .ok (.iload_n 3, 1) := by decide +kernel
theorem d_L_law_786 : decode c_L_law 786 = .ok (.iconst 1, 1) := by decide +kernel
theorem d_L_law_787 : decode c_L_law 787 = .ok (.iadd, 1) := by decide +kernel
theorem d_L_law_788 : decode c_L_law 788 = .ok (.iaload, 1) := by decide +kernel
theorem d_L_law_789 : decode c_L_law 789 = .ok (.invokevirtual 109, 3) := by decide +kernel
theorem d_L_law_792 : decode c_L_law 792 = .ok (.if_icmp .eq 41, 3) := by decide +kernel
theorem d_L_law_795 : decode c_L_law 795 = .ok (.iconst 0, 1) := by decide +kernel
theorem d_L_law_796 : decode c_L_law 796 = .ok (.ireturn, 1) := by decide +kernel
theorem d_L_law_797 : decode c_L_law 797 = .ok (.aload_n 1, 1) := by decide +kernel
theorem d_L_law_798 : decode c_L_law 798 = .ok (.invokevirtual 110, 3) := by decide +kernel
theorem d_L_law_801 : decode c_L_law 801 = .ok (.aload_n 2, 1) := by decide +kernel
theorem d_L_law_802 : decode c_L_law 802 = .ok (.invokevirtual 113, 3) := by decide +kernel
theorem d_L_law_805 : decode c_L_law 805 = .ok (.if_icmp .eq 28, 3) := by decide +kernel
theorem d_L_law_808 : decode c_L_law 808 = .ok (.iconst 0, 1) := by decide +kernel
theorem d_L_law_809 : decode c_L_law 809 = .ok (.ireturn, 1) := by decide +kernel
theorem d_L_law_810 : decode c_L_law 810 = .ok (.aload_n 1, 1) := by decide +kernel
theorem d_L_law_811 : decode c_L_law 811 = .ok (.aload_n 0, 1) := by decide +kernel
theorem d_L_law_812 : decode c_L_law 812 = .ok (.iload_n 3, 1) := by decide +kernel
theorem d_L_law_813 : decode c_L_law 813 = .ok (.iconst 1, 1) := by decide +kernel
theorem d_L_law_814 : decode c_L_law 814 = .ok (.iadd, 1) := by decide +kernel
theorem d_L_law_815 : decode c_L_law 815 = .ok (.iaload, 1) := by decide +kernel
theorem d_L_law_816 : decode c_L_law 816 = .ok (.invokevirtual 114, 3) := by decide +kernel
theorem d_L_law_819 : decode c_L_law 819 = .ok (.aload_n 2, 1) := by decide +kernel
theorem d_L_law_820 : decode c_L_law 820 = .ok (.aload_n 0, 1) := by decide +kernel
theorem d_L_law_821 : decode c_L_law 821 = .ok (.iload_n 3, 1) := by decide +kernel
theorem d_L_law_822 : decode c_L_law 822 = .ok (.iconst 1, 1) := by decide +kernel
theorem d_L_law_823 : decode c_L_law 823 = .ok (.iadd, 1) := by decide +kernel
theorem d_L_law_824 : decode c_L_law 824 = .ok (.iaload, 1) := by decide +kernel
theorem d_L_law_825 : decode c_L_law 825 = .ok (.invokevirtual 117, 3) := by decide +kernel
theorem d_L_law_828 : decode c_L_law 828 = .ok (.if_icmp .eq 5, 3) := by decide +kernel
theorem d_L_law_831 : decode c_L_law 831 = .ok (.iconst 0, 1) := by decide +kernel
theorem d_L_law_832 : decode c_L_law 832 = .ok (.ireturn, 1) := by decide +kernel
theorem d_L_law_833 : decode c_L_law 833 = .ok (.iinc 3 6, 3) := by decide +kernel
theorem d_L_law_836 : decode c_L_law 836 = .ok (.goto (-818), 3) := by decide +kernel
theorem d_L_law_839 : decode c_L_law 839 = .ok (.iconst 1, 1) := by decide +kernel
theorem d_L_law_840 : decode c_L_law 840 = .ok (.ireturn, 1) := by decide +kernel
end
section
theorem in_ClassBook : ∀ w ∈ u_ws R_ClassBook T_ClassBook 16, w ∈ lw_g := by decide +kernel
theorem in_Court : ∀ w ∈ u_ws R_Court T_Court 2, w ∈ lw_g := by decide +kernel
theorem in_Improver : ∀ w ∈ u_ws R_Improver T_Improver 3, w ∈ lw_g := by decide +kernel
theorem in_Land : ∀ w ∈ u_ws R_Land T_Land 12, w ∈ lw_g := by decide +kernel
theorem in_Law : ∀ w ∈ u_ws R_Law T_Law 5, w ∈ lw_g := by decide +kernel
theorem in_Mender : ∀ w ∈ u_ws R_Mender T_Mender 7, w ∈ lw_g := by decide +kernel
theorem in_Parting : ∀ w ∈ u_ws R_Parting T_Parting 2, w ∈ lw_g := by decide +kernel
theorem in_Scale : ∀ w ∈ u_ws R_Scale T_Scale 3, w ∈ lw_g := by decide +kernel
theorem in_Sets : ∀ w ∈ u_ws R_Sets T_Sets 0, w ∈ lw_g := by decide +kernel
theorem in_Walker : ∀ w ∈ u_ws R_Walker T_Walker 10, w ∈ lw_g := by decide +kernel
theorem in_DC : ∀ w ∈ u_ws R_DC T_DC 9, w ∈ lw_g := by decide +kernel
theorem in_Mo : ∀ w ∈ u_ws R_Mo T_Mo 40, w ∈ lw_g := by decide +kernel
theorem ok_DC_init : okM m_DC_init 0 := ⟨(lw_in 21 (by decide +kernel) rfl), (lw_in 1 (by decide +kernel) rfl), by decide, by decide +kernel, by decide, by decide +kernel⟩
theorem ok_Land_init : okM m_Land_init 0 := ⟨(lw_in 29 (by decide +kernel) rfl), (lw_in 2 (by decide +kernel) rfl), by decide, by decide +kernel, by decide, by decide +kernel⟩
theorem ok_Law_init : okM m_Law_init 0 := ⟨(lw_in 99 (by decide +kernel) rfl), (lw_in 3 (by decide +kernel) rfl), by decide, by decide +kernel, by decide, by decide +kernel⟩
theorem ok_Arrays_fill_53178 : okM m_Arrays_fill_53178 2 := ⟨(lw_in 103 (by decide +kernel) rfl), (lw_in 4 (by decide +kernel) rfl), by decide, by decide +kernel, by decide, by decide +kernel⟩
theorem ok_Court_init : okM m_Court_init 2 := ⟨(lw_in 140 (by decide +kernel) rfl), (lw_in 5 (by decide +kernel) rfl), by decide, by decide +kernel, by decide, by decide +kernel⟩
theorem ok_Scale_init : okM m_Scale_init 2 := ⟨(lw_in 153 (by decide +kernel) rfl), (lw_in 6 (by decide +kernel) rfl), by decide, by decide +kernel, by decide, by decide +kernel⟩
theorem ok_Parting_init : okM m_Parting_init 0 := ⟨(lw_in 170 (by decide +kernel) rfl), (lw_in 7 (by decide +kernel) rfl), by decide, by decide +kernel, by decide, by decide +kernel⟩
theorem ok_ClassBook_init : okM m_ClassBook_init 4 := ⟨(lw_in 195 (by decide +kernel) rfl), (lw_in 8 (by decide +kernel) rfl), by decide, by decide +kernel, by decide, by decide +kernel⟩
theorem ok_Walker_init : okM m_Walker_init 3 := ⟨(lw_in 252 (by decide +kernel) rfl), (lw_in 9 (by decide +kernel) rfl), by decide, by decide +kernel, by decide, by decide +kernel⟩
theorem ok_Improver_init : okM m_Improver_init 3 := ⟨(lw_in 294 (by decide +kernel) rfl), (lw_in 10 (by decide +kernel) rfl), by decide, by decide +kernel, by decide, by decide +kernel⟩
theorem ok_Mender_init : okM m_Mender_init 3 := ⟨(lw_in 310 (by decide +kernel) rfl), (lw_in 11 (by decide +kernel) rfl), by decide, by decide +kernel, by decide, by decide +kernel⟩
theorem ok_DC_place : okM m_DC_place 5 := ⟨(lw_in 367 (by decide +kernel) rfl), (lw_in 1 (by decide +kernel) rfl), by decide, by decide +kernel, by decide, by decide +kernel⟩
theorem ok_DC_isWithin : okM m_DC_isWithin 3 := ⟨(lw_in 370 (by decide +kernel) rfl), (lw_in 1 (by decide +kernel) rfl), by decide, by decide +kernel, by decide, by decide +kernel⟩
theorem ok_DC_isTown : okM m_DC_isTown 1 := ⟨(lw_in 373 (by decide +kernel) rfl), (lw_in 1 (by decide +kernel) rfl), by decide, by decide +kernel, by decide, by decide +kernel⟩
theorem ok_Land_addPlace : okM m_Land_addPlace 5 := ⟨(lw_in 377 (by decide +kernel) rfl), (lw_in 2 (by decide +kernel) rfl), by decide, by decide +kernel, by decide, by decide +kernel⟩
theorem ok_Sets_only : okM m_Sets_only 1 := ⟨(lw_in 380 (by decide +kernel) rfl), (lw_in 13 (by decide +kernel) rfl), by decide, by decide +kernel, by decide, by decide +kernel⟩
theorem ok_Parting_move : okM m_Parting_move 2 := ⟨(lw_in 384 (by decide +kernel) rfl), (lw_in 7 (by decide +kernel) rfl), by decide, by decide +kernel, by decide, by decide +kernel⟩
theorem ok_ClassBook_forget : okM m_ClassBook_forget 0 := ⟨(lw_in 389 (by decide +kernel) rfl), (lw_in 8 (by decide +kernel) rfl), by decide, by decide +kernel, by decide, by decide +kernel⟩
theorem ok_DC_border : okM m_DC_border 3 := ⟨(lw_in 393 (by decide +kernel) rfl), (lw_in 1 (by decide +kernel) rfl), by decide, by decide +kernel, by decide, by decide +kernel⟩
theorem ok_Land_hasPlace : okM m_Land_hasPlace 1 := ⟨(lw_in 397 (by decide +kernel) rfl), (lw_in 2 (by decide +kernel) rfl), by decide, by decide +kernel, by decide, by decide +kernel⟩
theorem ok_Sets_has : okM m_Sets_has 2 := ⟨(lw_in 401 (by decide +kernel) rfl), (lw_in 13 (by decide +kernel) rfl), by decide, by decide +kernel, by decide, by decide +kernel⟩
theorem ok_Land_addBorder : okM m_Land_addBorder 3 := ⟨(lw_in 405 (by decide +kernel) rfl), (lw_in 2 (by decide +kernel) rfl), by decide, by decide +kernel, by decide, by decide +kernel⟩
theorem ok_DC_law : okM m_DC_law 2 := ⟨(lw_in 409 (by decide +kernel) rfl), (lw_in 1 (by decide +kernel) rfl), by decide, by decide +kernel, by decide, by decide +kernel⟩
theorem ok_Law_fixNothing : okM m_Law_fixNothing 0 := ⟨(lw_in 413 (by decide +kernel) rfl), (lw_in 3 (by decide +kernel) rfl), by decide, by decide +kernel, by decide, by decide +kernel⟩
theorem ok_Land_everywhere : okM m_Land_everywhere 0 := ⟨(lw_in 417 (by decide +kernel) rfl), (lw_in 2 (by decide +kernel) rfl), by decide, by decide +kernel, by decide, by decide +kernel⟩
theorem ok_Parting_gather : okM m_Parting_gather 1 := ⟨(lw_in 421 (by decide +kernel) rfl), (lw_in 7 (by decide +kernel) rfl), by decide, by decide +kernel, by decide, by decide +kernel⟩
theorem ok_DC_keep : okM m_DC_keep 2 := ⟨(lw_in 426 (by decide +kernel) rfl), (lw_in 1 (by decide +kernel) rfl), by decide, by decide +kernel, by decide, by decide +kernel⟩
theorem ok_DC_cuts : okM m_DC_cuts 1 := ⟨(lw_in 430 (by decide +kernel) rfl), (lw_in 1 (by decide +kernel) rfl), by decide, by decide +kernel, by decide, by decide +kernel⟩
theorem ok_DC_fix : okM m_DC_fix 2 := ⟨(lw_in 434 (by decide +kernel) rfl), (lw_in 1 (by decide +kernel) rfl), by decide, by decide +kernel, by decide, by decide +kernel⟩
theorem ok_Law_hasDistrict : okM m_Law_hasDistrict 1 := ⟨(lw_in 438 (by decide +kernel) rfl), (lw_in 3 (by decide +kernel) rfl), by decide, by decide +kernel, by decide, by decide +kernel⟩
theorem ok_DC_people : okM m_DC_people 2 := ⟨(lw_in 443 (by decide +kernel) rfl), (lw_in 1 (by decide +kernel) rfl), by decide, by decide +kernel, by decide, by decide +kernel⟩
theorem ok_Land_changePeople : okM m_Land_changePeople 2 := ⟨(lw_in 447 (by decide +kernel) rfl), (lw_in 2 (by decide +kernel) rfl), by decide, by decide +kernel, by decide, by decide +kernel⟩
theorem ok_DC_put : okM m_DC_put 2 := ⟨(lw_in 451 (by decide +kernel) rfl), (lw_in 1 (by decide +kernel) rfl), by decide, by decide +kernel, by decide, by decide +kernel⟩
theorem ok_DC_at : okM m_DC_at 1 := ⟨(lw_in 455 (by decide +kernel) rfl), (lw_in 1 (by decide +kernel) rfl), by decide, by decide +kernel, by decide, by decide +kernel⟩
theorem ok_DC_lawful : okM m_DC_lawful 0 := ⟨(lw_in 459 (by decide +kernel) rfl), (lw_in 1 (by decide +kernel) rfl), by decide, by decide +kernel, by decide, by decide +kernel⟩
theorem ok_Court_brokenLaw : okM m_Court_brokenLaw 1 := ⟨(lw_in 463 (by decide +kernel) rfl), (lw_in 5 (by decide +kernel) rfl), by decide, by decide +kernel, by decide, by decide +kernel⟩
theorem ok_Court_culprit : okM m_Court_culprit 2 := ⟨(lw_in 467 (by decide +kernel) rfl), (lw_in 5 (by decide +kernel) rfl), by decide, by decide +kernel, by decide, by decide +kernel⟩
theorem ok_Court_badDistrict : okM m_Court_badDistrict 2 := ⟨(lw_in 471 (by decide +kernel) rfl), (lw_in 5 (by decide +kernel) rfl), by decide, by decide +kernel, by decide, by decide +kernel⟩
theorem ok_Court_isBad : okM m_Court_isBad 2 := ⟨(lw_in 475 (by decide +kernel) rfl), (lw_in 5 (by decide +kernel) rfl), by decide, by decide +kernel, by decide, by decide +kernel⟩
theorem ok_Court_hangs : okM m_Court_hangs 1 := ⟨(lw_in 479 (by decide +kernel) rfl), (lw_in 5 (by decide +kernel) rfl), by decide, by decide +kernel, by decide, by decide +kernel⟩
theorem ok_Sets_spread : okM m_Sets_spread 3 := ⟨(lw_in 482 (by decide +kernel) rfl), (lw_in 13 (by decide +kernel) rfl), by decide, by decide +kernel, by decide, by decide +kernel⟩
theorem ok_Integer_bitCount_0f7a4 : okM m_Integer_bitCount_0f7a4 1 := ⟨(lw_in 485 (by decide +kernel) rfl), (lw_in 14 (by decide +kernel) rfl), by decide, by decide +kernel, by decide, by decide +kernel⟩
theorem ok_Sets_sum : okM m_Sets_sum 2 := ⟨(lw_in 491 (by decide +kernel) rfl), (lw_in 13 (by decide +kernel) rfl), by decide, by decide +kernel, by decide, by decide +kernel⟩
theorem ok_Sets_last : okM m_Sets_last 1 := ⟨(lw_in 494 (by decide +kernel) rfl), (lw_in 13 (by decide +kernel) rfl), by decide, by decide +kernel, by decide, by decide +kernel⟩
theorem ok_Court_fits : okM m_Court_fits 1 := ⟨(lw_in 498 (by decide +kernel) rfl), (lw_in 5 (by decide +kernel) rfl), by decide, by decide +kernel, by decide, by decide +kernel⟩
theorem ok_Court_cutKeptTown : okM m_Court_cutKeptTown 1 := ⟨(lw_in 505 (by decide +kernel) rfl), (lw_in 5 (by decide +kernel) rfl), by decide, by decide +kernel, by decide, by decide +kernel⟩
theorem ok_Court_isCut : okM m_Court_isCut 2 := ⟨(lw_in 509 (by decide +kernel) rfl), (lw_in 5 (by decide +kernel) rfl), by decide, by decide +kernel, by decide, by decide +kernel⟩
theorem ok_Court_strayPlace : okM m_Court_strayPlace 1 := ⟨(lw_in 514 (by decide +kernel) rfl), (lw_in 5 (by decide +kernel) rfl), by decide, by decide +kernel, by decide, by decide +kernel⟩
theorem ok_Court_townTooMany : okM m_Court_townTooMany 1 := ⟨(lw_in 518 (by decide +kernel) rfl), (lw_in 5 (by decide +kernel) rfl), by decide, by decide +kernel, by decide, by decide +kernel⟩
theorem ok_DC_why : okM m_DC_why 1 := ⟨(lw_in 522 (by decide +kernel) rfl), (lw_in 1 (by decide +kernel) rfl), by decide, by decide +kernel, by decide, by decide +kernel⟩
theorem ok_Court_looseEnd : okM m_Court_looseEnd 2 := ⟨(lw_in 527 (by decide +kernel) rfl), (lw_in 5 (by decide +kernel) rfl), by decide, by decide +kernel, by decide, by decide +kernel⟩
theorem ok_Sets_first : okM m_Sets_first 1 := ⟨(lw_in 530 (by decide +kernel) rfl), (lw_in 13 (by decide +kernel) rfl), by decide, by decide +kernel, by decide, by decide +kernel⟩
theorem ok_DC_measure : okM m_DC_measure 1 := ⟨(lw_in 536 (by decide +kernel) rfl), (lw_in 1 (by decide +kernel) rfl), by decide, by decide +kernel, by decide, by decide +kernel⟩
theorem ok_DC_isMeasure : okM m_DC_isMeasure 1 := ⟨(lw_in 539 (by decide +kernel) rfl), (lw_in 1 (by decide +kernel) rfl), by decide, by decide +kernel, by decide, by decide +kernel⟩
theorem ok_Scale_weigh : okM m_Scale_weigh 2 := ⟨(lw_in 543 (by decide +kernel) rfl), (lw_in 6 (by decide +kernel) rfl), by decide, by decide +kernel, by decide, by decide +kernel⟩
theorem ok_Scale_shareOf : okM m_Scale_shareOf 2 := ⟨(lw_in 547 (by decide +kernel) rfl), (lw_in 6 (by decide +kernel) rfl), by decide, by decide +kernel, by decide, by decide +kernel⟩
theorem ok_Land_outgoing : okM m_Land_outgoing 1 := ⟨(lw_in 551 (by decide +kernel) rfl), (lw_in 2 (by decide +kernel) rfl), by decide, by decide +kernel, by decide, by decide +kernel⟩
theorem ok_Scale_cutTowns : okM m_Scale_cutTowns 1 := ⟨(lw_in 556 (by decide +kernel) rfl), (lw_in 6 (by decide +kernel) rfl), by decide, by decide +kernel, by decide, by decide +kernel⟩
theorem ok_Scale_voteShare : okM m_Scale_voteShare 2 := ⟨(lw_in 563 (by decide +kernel) rfl), (lw_in 6 (by decide +kernel) rfl), by decide, by decide +kernel, by decide, by decide +kernel⟩
theorem ok_Scale_wasted : okM m_Scale_wasted 2 := ⟨(lw_in 566 (by decide +kernel) rfl), (lw_in 6 (by decide +kernel) rfl), by decide, by decide +kernel, by decide, by decide +kernel⟩
theorem ok_Scale_together : okM m_Scale_together 1 := ⟨(lw_in 570 (by decide +kernel) rfl), (lw_in 6 (by decide +kernel) rfl), by decide, by decide +kernel, by decide, by decide +kernel⟩
theorem ok_DC_district : okM m_DC_district 2 := ⟨(lw_in 581 (by decide +kernel) rfl), (lw_in 1 (by decide +kernel) rfl), by decide, by decide +kernel, by decide, by decide +kernel⟩
theorem ok_Land_outline : okM m_Land_outline 1 := ⟨(lw_in 587 (by decide +kernel) rfl), (lw_in 2 (by decide +kernel) rfl), by decide, by decide +kernel, by decide, by decide +kernel⟩
theorem ok_DC_land : okM m_DC_land 1 := ⟨(lw_in 593 (by decide +kernel) rfl), (lw_in 1 (by decide +kernel) rfl), by decide, by decide +kernel, by decide, by decide +kernel⟩
theorem ok_Law_fixedPlaces : okM m_Law_fixedPlaces 0 := ⟨(lw_in 597 (by decide +kernel) rfl), (lw_in 3 (by decide +kernel) rfl), by decide, by decide +kernel, by decide, by decide +kernel⟩
theorem ok_DC_count : okM m_DC_count 0 := ⟨(lw_in 601 (by decide +kernel) rfl), (lw_in 1 (by decide +kernel) rfl), by decide, by decide +kernel, by decide, by decide +kernel⟩
theorem ok_DC_openClasses : okM m_DC_openClasses 1 := ⟨(lw_in 606 (by decide +kernel) rfl), (lw_in 1 (by decide +kernel) rfl), by decide, by decide +kernel, by decide, by decide +kernel⟩
theorem ok_ClassBook_prepare : okM m_ClassBook_prepare 0 := ⟨(lw_in 610 (by decide +kernel) rfl), (lw_in 8 (by decide +kernel) rfl), by decide, by decide +kernel, by decide, by decide +kernel⟩
theorem ok_ClassBook_severalPlaceTowns : okM m_ClassBook_severalPlaceTowns 0 := ⟨(lw_in 615 (by decide +kernel) rfl), (lw_in 8 (by decide +kernel) rfl), by decide, by decide +kernel, by decide, by decide +kernel⟩
theorem ok_ClassBook_fillPrices : okM m_ClassBook_fillPrices 1 := ⟨(lw_in 620 (by decide +kernel) rfl), (lw_in 8 (by decide +kernel) rfl), by decide, by decide +kernel, by decide, by decide +kernel⟩
theorem ok_ClassBook_atLeast : okM m_ClassBook_atLeast 2 := ⟨(lw_in 623 (by decide +kernel) rfl), (lw_in 8 (by decide +kernel) rfl), by decide, by decide +kernel, by decide, by decide +kernel⟩
theorem ok_Court_mayBeDistrict : okM m_Court_mayBeDistrict 1 := ⟨(lw_in 628 (by decide +kernel) rfl), (lw_in 5 (by decide +kernel) rfl), by decide, by decide +kernel, by decide, by decide +kernel⟩
theorem ok_Court_leavesKeptWhole : okM m_Court_leavesKeptWhole 1 := ⟨(lw_in 632 (by decide +kernel) rfl), (lw_in 5 (by decide +kernel) rfl), by decide, by decide +kernel, by decide, by decide +kernel⟩
theorem ok_ClassBook_total : okM m_ClassBook_total 0 := ⟨(lw_in 638 (by decide +kernel) rfl), (lw_in 8 (by decide +kernel) rfl), by decide, by decide +kernel, by decide, by decide +kernel⟩
theorem ok_ClassBook_ways : okM m_ClassBook_ways 3 := ⟨(lw_in 642 (by decide +kernel) rfl), (lw_in 8 (by decide +kernel) rfl), by decide, by decide +kernel, by decide, by decide +kernel⟩
theorem ok_ClassBook_slotOf : okM m_ClassBook_slotOf 3 := ⟨(lw_in 646 (by decide +kernel) rfl), (lw_in 8 (by decide +kernel) rfl), by decide, by decide +kernel, by decide, by decide +kernel⟩
theorem ok_ClassBook_waysAhead : okM m_ClassBook_waysAhead 4 := ⟨(lw_in 650 (by decide +kernel) rfl), (lw_in 8 (by decide +kernel) rfl), by decide, by decide +kernel, by decide, by decide +kernel⟩
theorem ok_ClassBook_choicesOf : okM m_ClassBook_choicesOf 1 := ⟨(lw_in 653 (by decide +kernel) rfl), (lw_in 8 (by decide +kernel) rfl), by decide, by decide +kernel, by decide, by decide +kernel⟩
theorem ok_ClassBook_waysWith : okM m_ClassBook_waysWith 4 := ⟨(lw_in 657 (by decide +kernel) rfl), (lw_in 8 (by decide +kernel) rfl), by decide, by decide +kernel, by decide, by decide +kernel⟩
theorem ok_ClassBook_following : okM m_ClassBook_following 2 := ⟨(lw_in 660 (by decide +kernel) rfl), (lw_in 8 (by decide +kernel) rfl), by decide, by decide +kernel, by decide, by decide +kernel⟩
theorem ok_DC_kth : okM m_DC_kth 1 := ⟨(lw_in 664 (by decide +kernel) rfl), (lw_in 1 (by decide +kernel) rfl), by decide, by decide +kernel, by decide, by decide +kernel⟩
theorem ok_ClassBook_hasNumber : okM m_ClassBook_hasNumber 1 := ⟨(lw_in 668 (by decide +kernel) rfl), (lw_in 8 (by decide +kernel) rfl), by decide, by decide +kernel, by decide, by decide +kernel⟩
theorem ok_ClassBook_lay : okM m_ClassBook_lay 2 := ⟨(lw_in 674 (by decide +kernel) rfl), (lw_in 8 (by decide +kernel) rfl), by decide, by decide +kernel, by decide, by decide +kernel⟩
theorem ok_ClassBook_choose : okM m_ClassBook_choose 1 := ⟨(lw_in 678 (by decide +kernel) rfl), (lw_in 8 (by decide +kernel) rfl), by decide, by decide +kernel, by decide, by decide +kernel⟩
theorem ok_Parting_deal : okM m_Parting_deal 2 := ⟨(lw_in 682 (by decide +kernel) rfl), (lw_in 7 (by decide +kernel) rfl), by decide, by decide +kernel, by decide, by decide +kernel⟩
theorem ok_DC_which : okM m_DC_which 0 := ⟨(lw_in 687 (by decide +kernel) rfl), (lw_in 1 (by decide +kernel) rfl), by decide, by decide +kernel, by decide, by decide +kernel⟩
theorem ok_ClassBook_rank : okM m_ClassBook_rank 1 := ⟨(lw_in 691 (by decide +kernel) rfl), (lw_in 8 (by decide +kernel) rfl), by decide, by decide +kernel, by decide, by decide +kernel⟩
theorem ok_DC_same : okM m_DC_same 1 := ⟨(lw_in 696 (by decide +kernel) rfl), (lw_in 1 (by decide +kernel) rfl), by decide, by decide +kernel, by decide, by decide +kernel⟩
theorem ok_DC_least : okM m_DC_least 1 := ⟨(lw_in 700 (by decide +kernel) rfl), (lw_in 1 (by decide +kernel) rfl), by decide, by decide +kernel, by decide, by decide +kernel⟩
theorem ok_ClassBook_survey : okM m_ClassBook_survey 2 := ⟨(lw_in 704 (by decide +kernel) rfl), (lw_in 8 (by decide +kernel) rfl), by decide, by decide +kernel, by decide, by decide +kernel⟩
theorem ok_ClassBook_fillShares : okM m_ClassBook_fillShares 1 := ⟨(lw_in 709 (by decide +kernel) rfl), (lw_in 8 (by decide +kernel) rfl), by decide, by decide +kernel, by decide, by decide +kernel⟩
theorem ok_ClassBook_visit : okM m_ClassBook_visit 4 := ⟨(lw_in 714 (by decide +kernel) rfl), (lw_in 8 (by decide +kernel) rfl), by decide, by decide +kernel, by decide, by decide +kernel⟩
theorem ok_ClassBook_note : okM m_ClassBook_note 1 := ⟨(lw_in 718 (by decide +kernel) rfl), (lw_in 8 (by decide +kernel) rfl), by decide, by decide +kernel, by decide, by decide +kernel⟩
theorem ok_Integer_compare_7cf53 : okM m_Integer_compare_7cf53 2 := ⟨(lw_in 722 (by decide +kernel) rfl), (lw_in 14 (by decide +kernel) rfl), by decide, by decide +kernel, by decide, by decide +kernel⟩
theorem ok_DC_among : okM m_DC_among 2 := ⟨(lw_in 726 (by decide +kernel) rfl), (lw_in 1 (by decide +kernel) rfl), by decide, by decide +kernel, by decide, by decide +kernel⟩
theorem ok_DC_step : okM m_DC_step 1 := ⟨(lw_in 730 (by decide +kernel) rfl), (lw_in 1 (by decide +kernel) rfl), by decide, by decide +kernel, by decide, by decide +kernel⟩
theorem ok_DC_changeRefusal : okM m_DC_changeRefusal 0 := ⟨(lw_in 734 (by decide +kernel) rfl), (lw_in 1 (by decide +kernel) rfl), by decide, by decide +kernel, by decide, by decide +kernel⟩
theorem ok_Court_allows : okM m_Court_allows 1 := ⟨(lw_in 738 (by decide +kernel) rfl), (lw_in 5 (by decide +kernel) rfl), by decide, by decide +kernel, by decide, by decide +kernel⟩
theorem ok_Walker_takeStep : okM m_Walker_takeStep 1 := ⟨(lw_in 743 (by decide +kernel) rfl), (lw_in 9 (by decide +kernel) rfl), by decide, by decide +kernel, by decide, by decide +kernel⟩
theorem ok_Walker_drawCrossing : okM m_Walker_drawCrossing 1 := ⟨(lw_in 747 (by decide +kernel) rfl), (lw_in 9 (by decide +kernel) rfl), by decide, by decide +kernel, by decide, by decide +kernel⟩
theorem ok_Walker_draw : okM m_Walker_draw 0 := ⟨(lw_in 751 (by decide +kernel) rfl), (lw_in 9 (by decide +kernel) rfl), by decide, by decide +kernel, by decide, by decide +kernel⟩
theorem ok_Walker_drawLeadingPart : okM m_Walker_drawLeadingPart 1 := ⟨(lw_in 758 (by decide +kernel) rfl), (lw_in 9 (by decide +kernel) rfl), by decide, by decide +kernel, by decide, by decide +kernel⟩
theorem ok_Walker_drawOrder : okM m_Walker_drawOrder 1 := ⟨(lw_in 762 (by decide +kernel) rfl), (lw_in 9 (by decide +kernel) rfl), by decide, by decide +kernel, by decide, by decide +kernel⟩
theorem ok_Land_isInside : okM m_Land_isInside 2 := ⟨(lw_in 766 (by decide +kernel) rfl), (lw_in 2 (by decide +kernel) rfl), by decide, by decide +kernel, by decide, by decide +kernel⟩
theorem ok_Walker_insert : okM m_Walker_insert 2 := ⟨(lw_in 770 (by decide +kernel) rfl), (lw_in 9 (by decide +kernel) rfl), by decide, by decide +kernel, by decide, by decide +kernel⟩
theorem ok_Walker_growTree : okM m_Walker_growTree 1 := ⟨(lw_in 774 (by decide +kernel) rfl), (lw_in 9 (by decide +kernel) rfl), by decide, by decide +kernel, by decide, by decide +kernel⟩
theorem ok_Walker_join : okM m_Walker_join 2 := ⟨(lw_in 780 (by decide +kernel) rfl), (lw_in 9 (by decide +kernel) rfl), by decide, by decide +kernel, by decide, by decide +kernel⟩
theorem ok_Walker_findSeams : okM m_Walker_findSeams 1 := ⟨(lw_in 784 (by decide +kernel) rfl), (lw_in 9 (by decide +kernel) rfl), by decide, by decide +kernel, by decide, by decide +kernel⟩
theorem ok_Walker_partBefore : okM m_Walker_partBefore 2 := ⟨(lw_in 789 (by decide +kernel) rfl), (lw_in 9 (by decide +kernel) rfl), by decide, by decide +kernel, by decide, by decide +kernel⟩
theorem ok_DC_walk : okM m_DC_walk 3 := ⟨(lw_in 798 (by decide +kernel) rfl), (lw_in 1 (by decide +kernel) rfl), by decide, by decide +kernel, by decide, by decide +kernel⟩
theorem ok_Walker_roam : okM m_Walker_roam 3 := ⟨(lw_in 802 (by decide +kernel) rfl), (lw_in 9 (by decide +kernel) rfl), by decide, by decide +kernel, by decide, by decide +kernel⟩
theorem ok_Parting_become : okM m_Parting_become 1 := ⟨(lw_in 806 (by decide +kernel) rfl), (lw_in 7 (by decide +kernel) rfl), by decide, by decide +kernel, by decide, by decide +kernel⟩
theorem ok_DC_seen : okM m_DC_seen 1 := ⟨(lw_in 817 (by decide +kernel) rfl), (lw_in 1 (by decide +kernel) rfl), by decide, by decide +kernel, by decide, by decide +kernel⟩
theorem ok_DC_better : okM m_DC_better 0 := ⟨(lw_in 821 (by decide +kernel) rfl), (lw_in 1 (by decide +kernel) rfl), by decide, by decide +kernel, by decide, by decide +kernel⟩
theorem ok_Improver_improve : okM m_Improver_improve 1 := ⟨(lw_in 825 (by decide +kernel) rfl), (lw_in 10 (by decide +kernel) rfl), by decide, by decide +kernel, by decide, by decide +kernel⟩
theorem ok_Improver_moveOne : okM m_Improver_moveOne 1 := ⟨(lw_in 829 (by decide +kernel) rfl), (lw_in 10 (by decide +kernel) rfl), by decide, by decide +kernel, by decide, by decide +kernel⟩
theorem ok_Improver_isShorter : okM m_Improver_isShorter 3 := ⟨(lw_in 833 (by decide +kernel) rfl), (lw_in 10 (by decide +kernel) rfl), by decide, by decide +kernel, by decide, by decide +kernel⟩
theorem ok_Land_contact : okM m_Land_contact 2 := ⟨(lw_in 837 (by decide +kernel) rfl), (lw_in 2 (by decide +kernel) rfl), by decide, by decide +kernel, by decide, by decide +kernel⟩
theorem ok_DC_mend : okM m_DC_mend 1 := ⟨(lw_in 843 (by decide +kernel) rfl), (lw_in 1 (by decide +kernel) rfl), by decide, by decide +kernel, by decide, by decide +kernel⟩
theorem ok_Mender_repair : okM m_Mender_repair 2 := ⟨(lw_in 847 (by decide +kernel) rfl), (lw_in 11 (by decide +kernel) rfl), by decide, by decide +kernel, by decide, by decide +kernel⟩
theorem ok_Mender_tryMoves : okM m_Mender_tryMoves 4 := ⟨(lw_in 853 (by decide +kernel) rfl), (lw_in 11 (by decide +kernel) rfl), by decide, by decide +kernel, by decide, by decide +kernel⟩
theorem ok_Mender_isBetter : okM m_Mender_isBetter 2 := ⟨(lw_in 857 (by decide +kernel) rfl), (lw_in 11 (by decide +kernel) rfl), by decide, by decide +kernel, by decide, by decide +kernel⟩
theorem ok_Parting_comesAhead : okM m_Parting_comesAhead 1 := ⟨(lw_in 861 (by decide +kernel) rfl), (lw_in 7 (by decide +kernel) rfl), by decide, by decide +kernel, by decide, by decide +kernel⟩
theorem ok_Mo_init : okM m_Mo_init 0 := ⟨(lw_in 868 (by decide +kernel) rfl), (lw_in 12 (by decide +kernel) rfl), by decide, by decide +kernel, by decide, by decide +kernel⟩
theorem ok_Mo_place : okM m_Mo_place 5 := ⟨(lw_in 994 (by decide +kernel) rfl), (lw_in 12 (by decide +kernel) rfl), by decide, by decide +kernel, by decide, by decide +kernel⟩
theorem ok_Mo_in : okM m_Mo_in 3 := ⟨(lw_in 997 (by decide +kernel) rfl), (lw_in 12 (by decide +kernel) rfl), by decide, by decide +kernel, by decide, by decide +kernel⟩
theorem ok_Mo_border : okM m_Mo_border 3 := ⟨(lw_in 1001 (by decide +kernel) rfl), (lw_in 12 (by decide +kernel) rfl), by decide, by decide +kernel, by decide, by decide +kernel⟩
theorem ok_Mo_isPlace : okM m_Mo_isPlace 1 := ⟨(lw_in 1005 (by decide +kernel) rfl), (lw_in 12 (by decide +kernel) rfl), by decide, by decide +kernel, by decide, by decide +kernel⟩
theorem ok_Mo_has : okM m_Mo_has 2 := ⟨(lw_in 1008 (by decide +kernel) rfl), (lw_in 12 (by decide +kernel) rfl), by decide, by decide +kernel, by decide, by decide +kernel⟩
theorem ok_Mo_law : okM m_Mo_law 2 := ⟨(lw_in 1012 (by decide +kernel) rfl), (lw_in 12 (by decide +kernel) rfl), by decide, by decide +kernel, by decide, by decide +kernel⟩
theorem ok_Mo_keep : okM m_Mo_keep 2 := ⟨(lw_in 1016 (by decide +kernel) rfl), (lw_in 12 (by decide +kernel) rfl), by decide, by decide +kernel, by decide, by decide +kernel⟩
theorem ok_Mo_cuts : okM m_Mo_cuts 1 := ⟨(lw_in 1020 (by decide +kernel) rfl), (lw_in 12 (by decide +kernel) rfl), by decide, by decide +kernel, by decide, by decide +kernel⟩
theorem ok_Mo_fix : okM m_Mo_fix 2 := ⟨(lw_in 1024 (by decide +kernel) rfl), (lw_in 12 (by decide +kernel) rfl), by decide, by decide +kernel, by decide, by decide +kernel⟩
theorem ok_Mo_people : okM m_Mo_people 2 := ⟨(lw_in 1028 (by decide +kernel) rfl), (lw_in 12 (by decide +kernel) rfl), by decide, by decide +kernel, by decide, by decide +kernel⟩
theorem ok_Mo_lawful : okM m_Mo_lawful 0 := ⟨(lw_in 1032 (by decide +kernel) rfl), (lw_in 12 (by decide +kernel) rfl), by decide, by decide +kernel, by decide, by decide +kernel⟩
theorem ok_Mo_broken : okM m_Mo_broken 1 := ⟨(lw_in 1036 (by decide +kernel) rfl), (lw_in 12 (by decide +kernel) rfl), by decide, by decide +kernel, by decide, by decide +kernel⟩
theorem ok_Mo_bitsOf : okM m_Mo_bitsOf 1 := ⟨(lw_in 1040 (by decide +kernel) rfl), (lw_in 12 (by decide +kernel) rfl), by decide, by decide +kernel, by decide, by decide +kernel⟩
theorem ok_Mo_reached : okM m_Mo_reached 1 := ⟨(lw_in 1044 (by decide +kernel) rfl), (lw_in 12 (by decide +kernel) rfl), by decide, by decide +kernel, by decide, by decide +kernel⟩
theorem ok_Mo_leastOf : okM m_Mo_leastOf 1 := ⟨(lw_in 1047 (by decide +kernel) rfl), (lw_in 12 (by decide +kernel) rfl), by decide, by decide +kernel, by decide, by decide +kernel⟩
theorem ok_Mo_fits : okM m_Mo_fits 1 := ⟨(lw_in 1051 (by decide +kernel) rfl), (lw_in 12 (by decide +kernel) rfl), by decide, by decide +kernel, by decide, by decide +kernel⟩
theorem ok_Mo_peopleOf : okM m_Mo_peopleOf 1 := ⟨(lw_in 1055 (by decide +kernel) rfl), (lw_in 12 (by decide +kernel) rfl), by decide, by decide +kernel, by decide, by decide +kernel⟩
theorem ok_Mo_all : okM m_Mo_all 0 := ⟨(lw_in 1059 (by decide +kernel) rfl), (lw_in 12 (by decide +kernel) rfl), by decide, by decide +kernel, by decide, by decide +kernel⟩
theorem ok_Mo_isCut : okM m_Mo_isCut 1 := ⟨(lw_in 1064 (by decide +kernel) rfl), (lw_in 12 (by decide +kernel) rfl), by decide, by decide +kernel, by decide, by decide +kernel⟩
theorem ok_Mo_why : okM m_Mo_why 1 := ⟨(lw_in 1068 (by decide +kernel) rfl), (lw_in 12 (by decide +kernel) rfl), by decide, by decide +kernel, by decide, by decide +kernel⟩
theorem ok_Mo_put : okM m_Mo_put 2 := ⟨(lw_in 1072 (by decide +kernel) rfl), (lw_in 12 (by decide +kernel) rfl), by decide, by decide +kernel, by decide, by decide +kernel⟩
theorem ok_Mo_at : okM m_Mo_at 1 := ⟨(lw_in 1076 (by decide +kernel) rfl), (lw_in 12 (by decide +kernel) rfl), by decide, by decide +kernel, by decide, by decide +kernel⟩
theorem ok_Mo_measure : okM m_Mo_measure 1 := ⟨(lw_in 1080 (by decide +kernel) rfl), (lw_in 12 (by decide +kernel) rfl), by decide, by decide +kernel, by decide, by decide +kernel⟩
theorem ok_Mo_value : okM m_Mo_value 1 := ⟨(lw_in 1084 (by decide +kernel) rfl), (lw_in 12 (by decide +kernel) rfl), by decide, by decide +kernel, by decide, by decide +kernel⟩
theorem ok_Mo_votesOf : okM m_Mo_votesOf 2 := ⟨(lw_in 1089 (by decide +kernel) rfl), (lw_in 12 (by decide +kernel) rfl), by decide, by decide +kernel, by decide, by decide +kernel⟩
theorem ok_Mo_district : okM m_Mo_district 2 := ⟨(lw_in 1093 (by decide +kernel) rfl), (lw_in 12 (by decide +kernel) rfl), by decide, by decide +kernel, by decide, by decide +kernel⟩
theorem ok_Mo_land : okM m_Mo_land 1 := ⟨(lw_in 1097 (by decide +kernel) rfl), (lw_in 12 (by decide +kernel) rfl), by decide, by decide +kernel, by decide, by decide +kernel⟩
theorem ok_Mo_count : okM m_Mo_count 0 := ⟨(lw_in 1101 (by decide +kernel) rfl), (lw_in 12 (by decide +kernel) rfl), by decide, by decide +kernel, by decide, by decide +kernel⟩
theorem ok_Mo_size : okM m_Mo_size 0 := ⟨(lw_in 1105 (by decide +kernel) rfl), (lw_in 12 (by decide +kernel) rfl), by decide, by decide +kernel, by decide, by decide +kernel⟩
theorem ok_Mo_goThrough : okM m_Mo_goThrough 2 := ⟨(lw_in 1109 (by decide +kernel) rfl), (lw_in 12 (by decide +kernel) rfl), by decide, by decide +kernel, by decide, by decide +kernel⟩
theorem ok_Mo_part : okM m_Mo_part 2 := ⟨(lw_in 1113 (by decide +kernel) rfl), (lw_in 12 (by decide +kernel) rfl), by decide, by decide +kernel, by decide, by decide +kernel⟩
theorem ok_Mo_whole : okM m_Mo_whole 0 := ⟨(lw_in 1117 (by decide +kernel) rfl), (lw_in 12 (by decide +kernel) rfl), by decide, by decide +kernel, by decide, by decide +kernel⟩
theorem ok_Mo_grow : okM m_Mo_grow 4 := ⟨(lw_in 1121 (by decide +kernel) rfl), (lw_in 12 (by decide +kernel) rfl), by decide, by decide +kernel, by decide, by decide +kernel⟩
theorem ok_Mo_kth : okM m_Mo_kth 1 := ⟨(lw_in 1125 (by decide +kernel) rfl), (lw_in 12 (by decide +kernel) rfl), by decide, by decide +kernel, by decide, by decide +kernel⟩
theorem ok_Mo_isClass : okM m_Mo_isClass 1 := ⟨(lw_in 1129 (by decide +kernel) rfl), (lw_in 12 (by decide +kernel) rfl), by decide, by decide +kernel, by decide, by decide +kernel⟩
theorem ok_Mo_which : okM m_Mo_which 0 := ⟨(lw_in 1133 (by decide +kernel) rfl), (lw_in 12 (by decide +kernel) rfl), by decide, by decide +kernel, by decide, by decide +kernel⟩
theorem ok_Mo_same : okM m_Mo_same 1 := ⟨(lw_in 1137 (by decide +kernel) rfl), (lw_in 12 (by decide +kernel) rfl), by decide, by decide +kernel, by decide, by decide +kernel⟩
theorem ok_Mo_least : okM m_Mo_least 1 := ⟨(lw_in 1141 (by decide +kernel) rfl), (lw_in 12 (by decide +kernel) rfl), by decide, by decide +kernel, by decide, by decide +kernel⟩
theorem ok_Mo_among : okM m_Mo_among 2 := ⟨(lw_in 1146 (by decide +kernel) rfl), (lw_in 12 (by decide +kernel) rfl), by decide, by decide +kernel, by decide, by decide +kernel⟩
theorem ok_Mo_step : okM m_Mo_step 1 := ⟨(lw_in 1150 (by decide +kernel) rfl), (lw_in 12 (by decide +kernel) rfl), by decide, by decide +kernel, by decide, by decide +kernel⟩
theorem ok_Mo_stepOn : okM m_Mo_stepOn 0 := ⟨(lw_in 1154 (by decide +kernel) rfl), (lw_in 12 (by decide +kernel) rfl), by decide, by decide +kernel, by decide, by decide +kernel⟩
theorem ok_Mo_between : okM m_Mo_between 1 := ⟨(lw_in 1158 (by decide +kernel) rfl), (lw_in 12 (by decide +kernel) rfl), by decide, by decide +kernel, by decide, by decide +kernel⟩
theorem ok_Mo_draw : okM m_Mo_draw 0 := ⟨(lw_in 1162 (by decide +kernel) rfl), (lw_in 12 (by decide +kernel) rfl), by decide, by decide +kernel, by decide, by decide +kernel⟩
theorem ok_Mo_plant : okM m_Mo_plant 1 := ⟨(lw_in 1167 (by decide +kernel) rfl), (lw_in 12 (by decide +kernel) rfl), by decide, by decide +kernel, by decide, by decide +kernel⟩
theorem ok_Mo_sideOf : okM m_Mo_sideOf 3 := ⟨(lw_in 1171 (by decide +kernel) rfl), (lw_in 12 (by decide +kernel) rfl), by decide, by decide +kernel, by decide, by decide +kernel⟩
theorem ok_Mo_walk : okM m_Mo_walk 3 := ⟨(lw_in 1175 (by decide +kernel) rfl), (lw_in 12 (by decide +kernel) rfl), by decide, by decide +kernel, by decide, by decide +kernel⟩
theorem ok_Mo_seen : okM m_Mo_seen 1 := ⟨(lw_in 1179 (by decide +kernel) rfl), (lw_in 12 (by decide +kernel) rfl), by decide, by decide +kernel, by decide, by decide +kernel⟩
theorem ok_Mo_better : okM m_Mo_better 0 := ⟨(lw_in 1183 (by decide +kernel) rfl), (lw_in 12 (by decide +kernel) rfl), by decide, by decide +kernel, by decide, by decide +kernel⟩
theorem ok_Mo_betters : okM m_Mo_betters 0 := ⟨(lw_in 1187 (by decide +kernel) rfl), (lw_in 12 (by decide +kernel) rfl), by decide, by decide +kernel, by decide, by decide +kernel⟩
theorem ok_Mo_mend : okM m_Mo_mend 1 := ⟨(lw_in 1191 (by decide +kernel) rfl), (lw_in 12 (by decide +kernel) rfl), by decide, by decide +kernel, by decide, by decide +kernel⟩
theorem ok_Mo_move : okM m_Mo_move 4 := ⟨(lw_in 1195 (by decide +kernel) rfl), (lw_in 12 (by decide +kernel) rfl), by decide, by decide +kernel, by decide, by decide +kernel⟩
theorem ok_Mo_offer : okM m_Mo_offer 2 := ⟨(lw_in 1199 (by decide +kernel) rfl), (lw_in 12 (by decide +kernel) rfl), by decide, by decide +kernel, by decide, by decide +kernel⟩
theorem f_Land_39 : FL R_Land 39 3 0 := ⟨R_Land, T_Land, 12, ty_Land, rfl, by decide, (lw_in 31 (by decide +kernel) rfl), in_Land, tyok_Land, nm_Land⟩
theorem f_DC_90 : FL R_DC 90 3 0 := ⟨R_Land, T_Land, 12, ty_Land, rfl, by decide, (lw_in 32 (by decide +kernel) rfl), in_Land, tyok_Land, nm_Land⟩
theorem f_Improver_27 : FL R_Improver 27 3 0 := ⟨R_Land, T_Land, 12, ty_Land, rfl, by decide, (lw_in 33 (by decide +kernel) rfl), in_Land, tyok_Land, nm_Land⟩
theorem f_ClassBook_56 : FL R_ClassBook 56 3 0 := ⟨R_Land, T_Land, 12, ty_Land, rfl, by decide, (lw_in 34 (by decide +kernel) rfl), in_Land, tyok_Land, nm_Land⟩
theorem f_Mender_61 : FL R_Mender 61 3 0 := ⟨R_Land, T_Land, 12, ty_Land, rfl, by decide, (lw_in 35 (by decide +kernel) rfl), in_Land, tyok_Land, nm_Land⟩
theorem f_Court_112 : FL R_Court 112 3 0 := ⟨R_Land, T_Land, 12, ty_Land, rfl, by decide, (lw_in 36 (by decide +kernel) rfl), in_Land, tyok_Land, nm_Land⟩
theorem f_DC_118 : FL R_DC 118 3 1 := ⟨R_Land, T_Land, 12, ty_Land, rfl, by decide, (lw_in 37 (by decide +kernel) rfl), in_Land, tyok_Land, nm_Land⟩
theorem f_Land_56 : FL R_Land 56 3 1 := ⟨R_Land, T_Land, 12, ty_Land, rfl, by decide, (lw_in 38 (by decide +kernel) rfl), in_Land, tyok_Land, nm_Land⟩
theorem f_Walker_143 : FL R_Walker 143 3 1 := ⟨R_Land, T_Land, 12, ty_Land, rfl, by decide, (lw_in 39 (by decide +kernel) rfl), in_Land, tyok_Land, nm_Land⟩
theorem f_Land_47 : FL R_Land 47 3 2 := ⟨R_Land, T_Land, 12, ty_Land, rfl, by decide, (lw_in 40 (by decide +kernel) rfl), in_Land, tyok_Land, nm_Land⟩
theorem f_Court_86 : FL R_Court 86 3 2 := ⟨R_Land, T_Land, 12, ty_Land, rfl, by decide, (lw_in 41 (by decide +kernel) rfl), in_Land, tyok_Land, nm_Land⟩
theorem f_DC_212 : FL R_DC 212 3 2 := ⟨R_Land, T_Land, 12, ty_Land, rfl, by decide, (lw_in 42 (by decide +kernel) rfl), in_Land, tyok_Land, nm_Land⟩
theorem f_Land_9 : FL R_Land 9 3 3 := ⟨R_Land, T_Land, 12, ty_Land, rfl, by decide, (lw_in 43 (by decide +kernel) rfl), in_Land, tyok_Land, nm_Land⟩
theorem f_Mender_79 : FL R_Mender 79 3 3 := ⟨R_Land, T_Land, 12, ty_Land, rfl, by decide, (lw_in 44 (by decide +kernel) rfl), in_Land, tyok_Land, nm_Land⟩
theorem f_Scale_61 : FL R_Scale 61 3 3 := ⟨R_Land, T_Land, 12, ty_Land, rfl, by decide, (lw_in 45 (by decide +kernel) rfl), in_Land, tyok_Land, nm_Land⟩
theorem f_Court_70 : FL R_Court 70 3 3 := ⟨R_Land, T_Land, 12, ty_Land, rfl, by decide, (lw_in 46 (by decide +kernel) rfl), in_Land, tyok_Land, nm_Land⟩
theorem f_Walker_158 : FL R_Walker 158 3 3 := ⟨R_Land, T_Land, 12, ty_Land, rfl, by decide, (lw_in 47 (by decide +kernel) rfl), in_Land, tyok_Land, nm_Land⟩
theorem f_DC_187 : FL R_DC 187 3 3 := ⟨R_Land, T_Land, 12, ty_Land, rfl, by decide, (lw_in 48 (by decide +kernel) rfl), in_Land, tyok_Land, nm_Land⟩
theorem f_Land_15 : FL R_Land 15 3 4 := ⟨R_Land, T_Land, 12, ty_Land, rfl, by decide, (lw_in 49 (by decide +kernel) rfl), in_Land, tyok_Land, nm_Land⟩
theorem f_Scale_73 : FL R_Scale 73 3 4 := ⟨R_Land, T_Land, 12, ty_Land, rfl, by decide, (lw_in 50 (by decide +kernel) rfl), in_Land, tyok_Land, nm_Land⟩
theorem f_DC_194 : FL R_DC 194 3 4 := ⟨R_Land, T_Land, 12, ty_Land, rfl, by decide, (lw_in 51 (by decide +kernel) rfl), in_Land, tyok_Land, nm_Land⟩
theorem f_Land_18 : FL R_Land 18 3 5 := ⟨R_Land, T_Land, 12, ty_Land, rfl, by decide, (lw_in 52 (by decide +kernel) rfl), in_Land, tyok_Land, nm_Land⟩
theorem f_Scale_76 : FL R_Scale 76 3 5 := ⟨R_Land, T_Land, 12, ty_Land, rfl, by decide, (lw_in 53 (by decide +kernel) rfl), in_Land, tyok_Land, nm_Land⟩
theorem f_DC_197 : FL R_DC 197 3 5 := ⟨R_Land, T_Land, 12, ty_Land, rfl, by decide, (lw_in 54 (by decide +kernel) rfl), in_Land, tyok_Land, nm_Land⟩
theorem f_Land_21 : FL R_Land 21 3 6 := ⟨R_Land, T_Land, 12, ty_Land, rfl, by decide, (lw_in 55 (by decide +kernel) rfl), in_Land, tyok_Land, nm_Land⟩
theorem f_DC_200 : FL R_DC 200 3 6 := ⟨R_Land, T_Land, 12, ty_Land, rfl, by decide, (lw_in 56 (by decide +kernel) rfl), in_Land, tyok_Land, nm_Land⟩
theorem f_Land_24 : FL R_Land 24 3 7 := ⟨R_Land, T_Land, 12, ty_Land, rfl, by decide, (lw_in 57 (by decide +kernel) rfl), in_Land, tyok_Land, nm_Land⟩
theorem f_DC_108 : FL R_DC 108 3 7 := ⟨R_Land, T_Land, 12, ty_Land, rfl, by decide, (lw_in 58 (by decide +kernel) rfl), in_Land, tyok_Land, nm_Land⟩
theorem f_Court_42 : FL R_Court 42 3 7 := ⟨R_Land, T_Land, 12, ty_Land, rfl, by decide, (lw_in 59 (by decide +kernel) rfl), in_Land, tyok_Land, nm_Land⟩
theorem f_Land_27 : FL R_Land 27 3 8 := ⟨R_Land, T_Land, 12, ty_Land, rfl, by decide, (lw_in 60 (by decide +kernel) rfl), in_Land, tyok_Land, nm_Land⟩
theorem f_Scale_82 : FL R_Scale 82 3 8 := ⟨R_Land, T_Land, 12, ty_Land, rfl, by decide, (lw_in 61 (by decide +kernel) rfl), in_Land, tyok_Land, nm_Land⟩
theorem f_Court_97 : FL R_Court 97 3 8 := ⟨R_Land, T_Land, 12, ty_Land, rfl, by decide, (lw_in 62 (by decide +kernel) rfl), in_Land, tyok_Land, nm_Land⟩
theorem f_ClassBook_144 : FL R_ClassBook 144 3 8 := ⟨R_Land, T_Land, 12, ty_Land, rfl, by decide, (lw_in 63 (by decide +kernel) rfl), in_Land, tyok_Land, nm_Land⟩
theorem f_Land_30 : FL R_Land 30 3 9 := ⟨R_Land, T_Land, 12, ty_Land, rfl, by decide, (lw_in 64 (by decide +kernel) rfl), in_Land, tyok_Land, nm_Land⟩
theorem f_Walker_88 : FL R_Walker 88 3 9 := ⟨R_Land, T_Land, 12, ty_Land, rfl, by decide, (lw_in 65 (by decide +kernel) rfl), in_Land, tyok_Land, nm_Land⟩
theorem f_Land_33 : FL R_Land 33 3 10 := ⟨R_Land, T_Land, 12, ty_Land, rfl, by decide, (lw_in 66 (by decide +kernel) rfl), in_Land, tyok_Land, nm_Land⟩
theorem f_Walker_93 : FL R_Walker 93 3 10 := ⟨R_Land, T_Land, 12, ty_Land, rfl, by decide, (lw_in 67 (by decide +kernel) rfl), in_Land, tyok_Land, nm_Land⟩
theorem f_Land_36 : FL R_Land 36 3 11 := ⟨R_Land, T_Land, 12, ty_Land, rfl, by decide, (lw_in 68 (by decide +kernel) rfl), in_Land, tyok_Land, nm_Land⟩
theorem k_Law_29 : CLs R_Law 29 m_Arrays_fill_53178 2 := ⟨(lw_in 101 (by decide +kernel) rfl), (lw_in 102 (by decide +kernel) rfl), ok_Arrays_fill_53178⟩
theorem f_Law_9 : FL R_Law 9 4 0 := ⟨R_Law, T_Law, 5, ty_Law, rfl, by decide, (lw_in 104 (by decide +kernel) rfl), in_Law, tyok_Law, nm_Law⟩
theorem f_Scale_23 : FL R_Scale 23 4 0 := ⟨R_Law, T_Law, 5, ty_Law, rfl, by decide, (lw_in 105 (by decide +kernel) rfl), in_Law, tyok_Law, nm_Law⟩
theorem f_Improver_39 : FL R_Improver 39 4 0 := ⟨R_Law, T_Law, 5, ty_Law, rfl, by decide, (lw_in 106 (by decide +kernel) rfl), in_Law, tyok_Law, nm_Law⟩
theorem f_Mender_70 : FL R_Mender 70 4 0 := ⟨R_Law, T_Law, 5, ty_Law, rfl, by decide, (lw_in 107 (by decide +kernel) rfl), in_Law, tyok_Law, nm_Law⟩
theorem f_ClassBook_80 : FL R_ClassBook 80 4 0 := ⟨R_Law, T_Law, 5, ty_Law, rfl, by decide, (lw_in 108 (by decide +kernel) rfl), in_Law, tyok_Law, nm_Law⟩
theorem f_DC_125 : FL R_DC 125 4 0 := ⟨R_Law, T_Law, 5, ty_Law, rfl, by decide, (lw_in 109 (by decide +kernel) rfl), in_Law, tyok_Law, nm_Law⟩
theorem f_Court_55 : FL R_Court 55 4 0 := ⟨R_Law, T_Law, 5, ty_Law, rfl, by decide, (lw_in 110 (by decide +kernel) rfl), in_Law, tyok_Law, nm_Law⟩
theorem f_Law_15 : FL R_Law 15 4 1 := ⟨R_Law, T_Law, 5, ty_Law, rfl, by decide, (lw_in 111 (by decide +kernel) rfl), in_Law, tyok_Law, nm_Law⟩
theorem f_DC_128 : FL R_DC 128 4 1 := ⟨R_Law, T_Law, 5, ty_Law, rfl, by decide, (lw_in 112 (by decide +kernel) rfl), in_Law, tyok_Law, nm_Law⟩
theorem f_Court_94 : FL R_Court 94 4 1 := ⟨R_Law, T_Law, 5, ty_Law, rfl, by decide, (lw_in 113 (by decide +kernel) rfl), in_Law, tyok_Law, nm_Law⟩
theorem f_Law_18 : FL R_Law 18 4 2 := ⟨R_Law, T_Law, 5, ty_Law, rfl, by decide, (lw_in 114 (by decide +kernel) rfl), in_Law, tyok_Law, nm_Law⟩
theorem f_ClassBook_68 : FL R_ClassBook 68 4 2 := ⟨R_Law, T_Law, 5, ty_Law, rfl, by decide, (lw_in 115 (by decide +kernel) rfl), in_Law, tyok_Law, nm_Law⟩
theorem f_DC_146 : FL R_DC 146 4 2 := ⟨R_Law, T_Law, 5, ty_Law, rfl, by decide, (lw_in 116 (by decide +kernel) rfl), in_Law, tyok_Law, nm_Law⟩
theorem f_Court_121 : FL R_Court 121 4 2 := ⟨R_Law, T_Law, 5, ty_Law, rfl, by decide, (lw_in 117 (by decide +kernel) rfl), in_Law, tyok_Law, nm_Law⟩
theorem f_Law_21 : FL R_Law 21 4 3 := ⟨R_Law, T_Law, 5, ty_Law, rfl, by decide, (lw_in 118 (by decide +kernel) rfl), in_Law, tyok_Law, nm_Law⟩
theorem f_DC_142 : FL R_DC 142 4 3 := ⟨R_Law, T_Law, 5, ty_Law, rfl, by decide, (lw_in 119 (by decide +kernel) rfl), in_Law, tyok_Law, nm_Law⟩
theorem f_Court_100 : FL R_Court 100 4 3 := ⟨R_Law, T_Law, 5, ty_Law, rfl, by decide, (lw_in 120 (by decide +kernel) rfl), in_Law, tyok_Law, nm_Law⟩
theorem f_Law_25 : FL R_Law 25 4 4 := ⟨R_Law, T_Law, 5, ty_Law, rfl, by decide, (lw_in 121 (by decide +kernel) rfl), in_Law, tyok_Law, nm_Law⟩
theorem f_DC_152 : FL R_DC 152 4 4 := ⟨R_Law, T_Law, 5, ty_Law, rfl, by decide, (lw_in 122 (by decide +kernel) rfl), in_Law, tyok_Law, nm_Law⟩
theorem f_Court_115 : FL R_Court 115 4 4 := ⟨R_Law, T_Law, 5, ty_Law, rfl, by decide, (lw_in 123 (by decide +kernel) rfl), in_Law, tyok_Law, nm_Law⟩
theorem f_Court_9 : FL R_Court 9 1 0 := ⟨R_Court, T_Court, 2, ty_Court, rfl, by decide, (lw_in 142 (by decide +kernel) rfl), in_Court, tyok_Court, nm_Court⟩
theorem f_Court_15 : FL R_Court 15 1 1 := ⟨R_Court, T_Court, 2, ty_Court, rfl, by decide, (lw_in 143 (by decide +kernel) rfl), in_Court, tyok_Court, nm_Court⟩
theorem f_Scale_19 : FL R_Scale 19 7 0 := ⟨R_Scale, T_Scale, 3, ty_Scale, rfl, by decide, (lw_in 155 (by decide +kernel) rfl), in_Scale, tyok_Scale, nm_Scale⟩
theorem f_ClassBook_187 : FL R_ClassBook 187 7 0 := ⟨R_Scale, T_Scale, 3, ty_Scale, rfl, by decide, (lw_in 156 (by decide +kernel) rfl), in_Scale, tyok_Scale, nm_Scale⟩
theorem f_Scale_9 : FL R_Scale 9 7 1 := ⟨R_Scale, T_Scale, 3, ty_Scale, rfl, by decide, (lw_in 157 (by decide +kernel) rfl), in_Scale, tyok_Scale, nm_Scale⟩
theorem f_Scale_15 : FL R_Scale 15 7 2 := ⟨R_Scale, T_Scale, 3, ty_Scale, rfl, by decide, (lw_in 158 (by decide +kernel) rfl), in_Scale, tyok_Scale, nm_Scale⟩
theorem f_Parting_9 : FL R_Parting 9 6 0 := ⟨R_Parting, T_Parting, 2, ty_Parting, rfl, by decide, (lw_in 172 (by decide +kernel) rfl), in_Parting, tyok_Parting, nm_Parting⟩
theorem f_Walker_85 : FL R_Walker 85 6 0 := ⟨R_Parting, T_Parting, 2, ty_Parting, rfl, by decide, (lw_in 173 (by decide +kernel) rfl), in_Parting, tyok_Parting, nm_Parting⟩
theorem f_Improver_33 : FL R_Improver 33 6 0 := ⟨R_Parting, T_Parting, 2, ty_Parting, rfl, by decide, (lw_in 174 (by decide +kernel) rfl), in_Parting, tyok_Parting, nm_Parting⟩
theorem f_Mender_66 : FL R_Mender 66 6 0 := ⟨R_Parting, T_Parting, 2, ty_Parting, rfl, by decide, (lw_in 175 (by decide +kernel) rfl), in_Parting, tyok_Parting, nm_Parting⟩
theorem f_ClassBook_115 : FL R_ClassBook 115 6 0 := ⟨R_Parting, T_Parting, 2, ty_Parting, rfl, by decide, (lw_in 176 (by decide +kernel) rfl), in_Parting, tyok_Parting, nm_Parting⟩
theorem f_DC_159 : FL R_DC 159 6 0 := ⟨R_Parting, T_Parting, 2, ty_Parting, rfl, by decide, (lw_in 177 (by decide +kernel) rfl), in_Parting, tyok_Parting, nm_Parting⟩
theorem f_Court_118 : FL R_Court 118 6 0 := ⟨R_Parting, T_Parting, 2, ty_Parting, rfl, by decide, (lw_in 178 (by decide +kernel) rfl), in_Parting, tyok_Parting, nm_Parting⟩
theorem f_Parting_15 : FL R_Parting 15 6 1 := ⟨R_Parting, T_Parting, 2, ty_Parting, rfl, by decide, (lw_in 179 (by decide +kernel) rfl), in_Parting, tyok_Parting, nm_Parting⟩
theorem f_Scale_29 : FL R_Scale 29 6 1 := ⟨R_Parting, T_Parting, 2, ty_Parting, rfl, by decide, (lw_in 180 (by decide +kernel) rfl), in_Parting, tyok_Parting, nm_Parting⟩
theorem f_Walker_96 : FL R_Walker 96 6 1 := ⟨R_Parting, T_Parting, 2, ty_Parting, rfl, by decide, (lw_in 181 (by decide +kernel) rfl), in_Parting, tyok_Parting, nm_Parting⟩
theorem f_Improver_57 : FL R_Improver 57 6 1 := ⟨R_Parting, T_Parting, 2, ty_Parting, rfl, by decide, (lw_in 182 (by decide +kernel) rfl), in_Parting, tyok_Parting, nm_Parting⟩
theorem f_Court_61 : FL R_Court 61 6 1 := ⟨R_Parting, T_Parting, 2, ty_Parting, rfl, by decide, (lw_in 183 (by decide +kernel) rfl), in_Parting, tyok_Parting, nm_Parting⟩
theorem f_ClassBook_110 : FL R_ClassBook 110 6 1 := ⟨R_Parting, T_Parting, 2, ty_Parting, rfl, by decide, (lw_in 184 (by decide +kernel) rfl), in_Parting, tyok_Parting, nm_Parting⟩
theorem f_DC_170 : FL R_DC 170 6 1 := ⟨R_Parting, T_Parting, 2, ty_Parting, rfl, by decide, (lw_in 185 (by decide +kernel) rfl), in_Parting, tyok_Parting, nm_Parting⟩
theorem f_ClassBook_131 : FL R_ClassBook 131 0 0 := ⟨R_ClassBook, T_ClassBook, 16, ty_ClassBook, rfl, by decide, (lw_in 197 (by decide +kernel) rfl), in_ClassBook, tyok_ClassBook, nm_ClassBook⟩
theorem f_DC_238 : FL R_DC 238 0 0 := ⟨R_ClassBook, T_ClassBook, 16, ty_ClassBook, rfl, by decide, (lw_in 198 (by decide +kernel) rfl), in_ClassBook, tyok_ClassBook, nm_ClassBook⟩
theorem f_ClassBook_27 : FL R_ClassBook 27 0 1 := ⟨R_ClassBook, T_ClassBook, 16, ty_ClassBook, rfl, by decide, (lw_in 199 (by decide +kernel) rfl), in_ClassBook, tyok_ClassBook, nm_ClassBook⟩
theorem f_DC_241 : FL R_DC 241 0 1 := ⟨R_ClassBook, T_ClassBook, 16, ty_ClassBook, rfl, by decide, (lw_in 200 (by decide +kernel) rfl), in_ClassBook, tyok_ClassBook, nm_ClassBook⟩
theorem f_ClassBook_9 : FL R_ClassBook 9 0 2 := ⟨R_ClassBook, T_ClassBook, 16, ty_ClassBook, rfl, by decide, (lw_in 201 (by decide +kernel) rfl), in_ClassBook, tyok_ClassBook, nm_ClassBook⟩
theorem f_ClassBook_15 : FL R_ClassBook 15 0 3 := ⟨R_ClassBook, T_ClassBook, 16, ty_ClassBook, rfl, by decide, (lw_in 202 (by decide +kernel) rfl), in_ClassBook, tyok_ClassBook, nm_ClassBook⟩
theorem f_ClassBook_19 : FL R_ClassBook 19 0 4 := ⟨R_ClassBook, T_ClassBook, 16, ty_ClassBook, rfl, by decide, (lw_in 203 (by decide +kernel) rfl), in_ClassBook, tyok_ClassBook, nm_ClassBook⟩
theorem f_ClassBook_23 : FL R_ClassBook 23 0 5 := ⟨R_ClassBook, T_ClassBook, 16, ty_ClassBook, rfl, by decide, (lw_in 204 (by decide +kernel) rfl), in_ClassBook, tyok_ClassBook, nm_ClassBook⟩
theorem f_ClassBook_31 : FL R_ClassBook 31 0 6 := ⟨R_ClassBook, T_ClassBook, 16, ty_ClassBook, rfl, by decide, (lw_in 205 (by decide +kernel) rfl), in_ClassBook, tyok_ClassBook, nm_ClassBook⟩
theorem f_ClassBook_34 : FL R_ClassBook 34 0 7 := ⟨R_ClassBook, T_ClassBook, 16, ty_ClassBook, rfl, by decide, (lw_in 206 (by decide +kernel) rfl), in_ClassBook, tyok_ClassBook, nm_ClassBook⟩
theorem f_ClassBook_37 : FL R_ClassBook 37 0 8 := ⟨R_ClassBook, T_ClassBook, 16, ty_ClassBook, rfl, by decide, (lw_in 207 (by decide +kernel) rfl), in_ClassBook, tyok_ClassBook, nm_ClassBook⟩
theorem f_ClassBook_40 : FL R_ClassBook 40 0 9 := ⟨R_ClassBook, T_ClassBook, 16, ty_ClassBook, rfl, by decide, (lw_in 208 (by decide +kernel) rfl), in_ClassBook, tyok_ClassBook, nm_ClassBook⟩
theorem f_ClassBook_43 : FL R_ClassBook 43 0 10 := ⟨R_ClassBook, T_ClassBook, 16, ty_ClassBook, rfl, by decide, (lw_in 209 (by decide +kernel) rfl), in_ClassBook, tyok_ClassBook, nm_ClassBook⟩
theorem f_ClassBook_53 : FL R_ClassBook 53 0 11 := ⟨R_ClassBook, T_ClassBook, 16, ty_ClassBook, rfl, by decide, (lw_in 210 (by decide +kernel) rfl), in_ClassBook, tyok_ClassBook, nm_ClassBook⟩
theorem f_ClassBook_59 : FL R_ClassBook 59 0 12 := ⟨R_ClassBook, T_ClassBook, 16, ty_ClassBook, rfl, by decide, (lw_in 211 (by decide +kernel) rfl), in_ClassBook, tyok_ClassBook, nm_ClassBook⟩
theorem f_ClassBook_62 : FL R_ClassBook 62 0 13 := ⟨R_ClassBook, T_ClassBook, 16, ty_ClassBook, rfl, by decide, (lw_in 212 (by decide +kernel) rfl), in_ClassBook, tyok_ClassBook, nm_ClassBook⟩
theorem f_ClassBook_73 : FL R_ClassBook 73 0 14 := ⟨R_ClassBook, T_ClassBook, 16, ty_ClassBook, rfl, by decide, (lw_in 213 (by decide +kernel) rfl), in_ClassBook, tyok_ClassBook, nm_ClassBook⟩
theorem f_ClassBook_134 : FL R_ClassBook 134 0 15 := ⟨R_ClassBook, T_ClassBook, 16, ty_ClassBook, rfl, by decide, (lw_in 214 (by decide +kernel) rfl), in_ClassBook, tyok_ClassBook, nm_ClassBook⟩
theorem f_Walker_138 : FL R_Walker 138 9 0 := ⟨R_Walker, T_Walker, 10, ty_Walker, rfl, by decide, (lw_in 256 (by decide +kernel) rfl), in_Walker, tyok_Walker, nm_Walker⟩
theorem f_DC_247 : FL R_DC 247 9 0 := ⟨R_Walker, T_Walker, 10, ty_Walker, rfl, by decide, (lw_in 257 (by decide +kernel) rfl), in_Walker, tyok_Walker, nm_Walker⟩
theorem f_Walker_77 : FL R_Walker 77 9 1 := ⟨R_Walker, T_Walker, 10, ty_Walker, rfl, by decide, (lw_in 258 (by decide +kernel) rfl), in_Walker, tyok_Walker, nm_Walker⟩
theorem f_DC_261 : FL R_DC 261 9 1 := ⟨R_Walker, T_Walker, 10, ty_Walker, rfl, by decide, (lw_in 259 (by decide +kernel) rfl), in_Walker, tyok_Walker, nm_Walker⟩
theorem f_Walker_23 : FL R_Walker 23 9 2 := ⟨R_Walker, T_Walker, 10, ty_Walker, rfl, by decide, (lw_in 260 (by decide +kernel) rfl), in_Walker, tyok_Walker, nm_Walker⟩
theorem f_DC_258 : FL R_DC 258 9 2 := ⟨R_Walker, T_Walker, 10, ty_Walker, rfl, by decide, (lw_in 261 (by decide +kernel) rfl), in_Walker, tyok_Walker, nm_Walker⟩
theorem f_Walker_9 : FL R_Walker 9 9 3 := ⟨R_Walker, T_Walker, 10, ty_Walker, rfl, by decide, (lw_in 262 (by decide +kernel) rfl), in_Walker, tyok_Walker, nm_Walker⟩
theorem f_Walker_15 : FL R_Walker 15 9 4 := ⟨R_Walker, T_Walker, 10, ty_Walker, rfl, by decide, (lw_in 263 (by decide +kernel) rfl), in_Walker, tyok_Walker, nm_Walker⟩
theorem f_Walker_19 : FL R_Walker 19 9 5 := ⟨R_Walker, T_Walker, 10, ty_Walker, rfl, by decide, (lw_in 264 (by decide +kernel) rfl), in_Walker, tyok_Walker, nm_Walker⟩
theorem f_Walker_30 : FL R_Walker 30 9 6 := ⟨R_Walker, T_Walker, 10, ty_Walker, rfl, by decide, (lw_in 265 (by decide +kernel) rfl), in_Walker, tyok_Walker, nm_Walker⟩
theorem f_Walker_34 : FL R_Walker 34 9 7 := ⟨R_Walker, T_Walker, 10, ty_Walker, rfl, by decide, (lw_in 266 (by decide +kernel) rfl), in_Walker, tyok_Walker, nm_Walker⟩
theorem f_Walker_37 : FL R_Walker 37 9 8 := ⟨R_Walker, T_Walker, 10, ty_Walker, rfl, by decide, (lw_in 267 (by decide +kernel) rfl), in_Walker, tyok_Walker, nm_Walker⟩
theorem f_Walker_40 : FL R_Walker 40 9 9 := ⟨R_Walker, T_Walker, 10, ty_Walker, rfl, by decide, (lw_in 268 (by decide +kernel) rfl), in_Walker, tyok_Walker, nm_Walker⟩
theorem f_Improver_9 : FL R_Improver 9 2 0 := ⟨R_Improver, T_Improver, 3, ty_Improver, rfl, by decide, (lw_in 296 (by decide +kernel) rfl), in_Improver, tyok_Improver, nm_Improver⟩
theorem f_Improver_15 : FL R_Improver 15 2 1 := ⟨R_Improver, T_Improver, 3, ty_Improver, rfl, by decide, (lw_in 297 (by decide +kernel) rfl), in_Improver, tyok_Improver, nm_Improver⟩
theorem f_Improver_19 : FL R_Improver 19 2 2 := ⟨R_Improver, T_Improver, 3, ty_Improver, rfl, by decide, (lw_in 298 (by decide +kernel) rfl), in_Improver, tyok_Improver, nm_Improver⟩
theorem f_Mender_9 : FL R_Mender 9 5 0 := ⟨R_Mender, T_Mender, 7, ty_Mender, rfl, by decide, (lw_in 314 (by decide +kernel) rfl), in_Mender, tyok_Mender, nm_Mender⟩
theorem f_Mender_15 : FL R_Mender 15 5 1 := ⟨R_Mender, T_Mender, 7, ty_Mender, rfl, by decide, (lw_in 315 (by decide +kernel) rfl), in_Mender, tyok_Mender, nm_Mender⟩
theorem f_Mender_19 : FL R_Mender 19 5 2 := ⟨R_Mender, T_Mender, 7, ty_Mender, rfl, by decide, (lw_in 316 (by decide +kernel) rfl), in_Mender, tyok_Mender, nm_Mender⟩
theorem f_Mender_26 : FL R_Mender 26 5 3 := ⟨R_Mender, T_Mender, 7, ty_Mender, rfl, by decide, (lw_in 317 (by decide +kernel) rfl), in_Mender, tyok_Mender, nm_Mender⟩
theorem f_Mender_30 : FL R_Mender 30 5 4 := ⟨R_Mender, T_Mender, 7, ty_Mender, rfl, by decide, (lw_in 318 (by decide +kernel) rfl), in_Mender, tyok_Mender, nm_Mender⟩
theorem f_Mender_36 : FL R_Mender 36 5 5 := ⟨R_Mender, T_Mender, 7, ty_Mender, rfl, by decide, (lw_in 319 (by decide +kernel) rfl), in_Mender, tyok_Mender, nm_Mender⟩
theorem f_Mender_40 : FL R_Mender 40 5 6 := ⟨R_Mender, T_Mender, 7, ty_Mender, rfl, by decide, (lw_in 320 (by decide +kernel) rfl), in_Mender, tyok_Mender, nm_Mender⟩
theorem f_DC_23 : FL R_DC 23 10 0 := ⟨R_DC, T_DC, 9, ty_DC, rfl, by decide, (lw_in 336 (by decide +kernel) rfl), in_DC, tyok_DC, nm_DC⟩
theorem f_DC_29 : FL R_DC 29 10 1 := ⟨R_DC, T_DC, 9, ty_DC, rfl, by decide, (lw_in 337 (by decide +kernel) rfl), in_DC, tyok_DC, nm_DC⟩
theorem f_DC_36 : FL R_DC 36 10 2 := ⟨R_DC, T_DC, 9, ty_DC, rfl, by decide, (lw_in 338 (by decide +kernel) rfl), in_DC, tyok_DC, nm_DC⟩
theorem f_DC_40 : FL R_DC 40 10 3 := ⟨R_DC, T_DC, 9, ty_DC, rfl, by decide, (lw_in 339 (by decide +kernel) rfl), in_DC, tyok_DC, nm_DC⟩
theorem f_DC_44 : FL R_DC 44 10 4 := ⟨R_DC, T_DC, 9, ty_DC, rfl, by decide, (lw_in 340 (by decide +kernel) rfl), in_DC, tyok_DC, nm_DC⟩
theorem f_DC_53 : FL R_DC 53 10 5 := ⟨R_DC, T_DC, 9, ty_DC, rfl, by decide, (lw_in 341 (by decide +kernel) rfl), in_DC, tyok_DC, nm_DC⟩
theorem f_DC_62 : FL R_DC 62 10 6 := ⟨R_DC, T_DC, 9, ty_DC, rfl, by decide, (lw_in 342 (by decide +kernel) rfl), in_DC, tyok_DC, nm_DC⟩
theorem f_DC_71 : FL R_DC 71 10 7 := ⟨R_DC, T_DC, 9, ty_DC, rfl, by decide, (lw_in 343 (by decide +kernel) rfl), in_DC, tyok_DC, nm_DC⟩
theorem f_DC_78 : FL R_DC 78 10 8 := ⟨R_DC, T_DC, 9, ty_DC, rfl, by decide, (lw_in 344 (by decide +kernel) rfl), in_DC, tyok_DC, nm_DC⟩
theorem k_L_13 : CLv R_L 13 m_DC_place 5 := ⟨(lw_in 364 (by decide +kernel) rfl), (lw_in 365 (by decide +kernel) rfl), (lw_in 366 (by decide +kernel) rfl), ok_DC_place⟩
theorem k_DC_82 : CLs R_DC 82 m_DC_isWithin 3 := ⟨(lw_in 368 (by decide +kernel) rfl), (lw_in 369 (by decide +kernel) rfl), ok_DC_isWithin⟩
theorem k_DC_86 : CLs R_DC 86 m_DC_isTown 1 := ⟨(lw_in 371 (by decide +kernel) rfl), (lw_in 372 (by decide +kernel) rfl), ok_DC_isTown⟩
theorem k_DC_94 : CLv R_DC 94 m_Land_addPlace 5 := ⟨(lw_in 374 (by decide +kernel) rfl), (lw_in 375 (by decide +kernel) rfl), (lw_in 376 (by decide +kernel) rfl), ok_Land_addPlace⟩
theorem k_Land_50 : CLs R_Land 50 m_Sets_only 1 := ⟨(lw_in 378 (by decide +kernel) rfl), (lw_in 379 (by decide +kernel) rfl), ok_Sets_only⟩
theorem k_DC_98 : CLv R_DC 98 m_Parting_move 2 := ⟨(lw_in 381 (by decide +kernel) rfl), (lw_in 382 (by decide +kernel) rfl), (lw_in 383 (by decide +kernel) rfl), ok_Parting_move⟩
theorem k_Parting_18 : CLs R_Parting 18 m_Sets_only 1 := ⟨(lw_in 385 (by decide +kernel) rfl), (lw_in 379 (by decide +kernel) rfl), ok_Sets_only⟩
theorem k_DC_102 : CLv R_DC 102 m_ClassBook_forget 0 := ⟨(lw_in 386 (by decide +kernel) rfl), (lw_in 387 (by decide +kernel) rfl), (lw_in 388 (by decide +kernel) rfl), ok_ClassBook_forget⟩
theorem k_L_18 : CLv R_L 18 m_DC_border 3 := ⟨(lw_in 390 (by decide +kernel) rfl), (lw_in 391 (by decide +kernel) rfl), (lw_in 392 (by decide +kernel) rfl), ok_DC_border⟩
theorem k_DC_105 : CLv R_DC 105 m_Land_hasPlace 1 := ⟨(lw_in 394 (by decide +kernel) rfl), (lw_in 395 (by decide +kernel) rfl), (lw_in 396 (by decide +kernel) rfl), ok_Land_hasPlace⟩
theorem k_Land_43 : CLn R_Land 43 m_DC_isWithin 3 "DistrictCutter" := ⟨(lw_inN 398 (by decide +kernel) rfl), (lw_in 369 (by decide +kernel) rfl), ok_DC_isWithin⟩
theorem k_DC_112 : CLs R_DC 112 m_Sets_has 2 := ⟨(lw_in 399 (by decide +kernel) rfl), (lw_in 400 (by decide +kernel) rfl), ok_Sets_has⟩
theorem k_DC_121 : CLv R_DC 121 m_Land_addBorder 3 := ⟨(lw_in 402 (by decide +kernel) rfl), (lw_in 403 (by decide +kernel) rfl), (lw_in 404 (by decide +kernel) rfl), ok_Land_addBorder⟩
theorem k_L_23 : CLv R_L 23 m_DC_law 2 := ⟨(lw_in 406 (by decide +kernel) rfl), (lw_in 407 (by decide +kernel) rfl), (lw_in 408 (by decide +kernel) rfl), ok_DC_law⟩
theorem k_DC_131 : CLv R_DC 131 m_Law_fixNothing 0 := ⟨(lw_in 410 (by decide +kernel) rfl), (lw_in 411 (by decide +kernel) rfl), (lw_in 412 (by decide +kernel) rfl), ok_Law_fixNothing⟩
theorem k_DC_134 : CLv R_DC 134 m_Land_everywhere 0 := ⟨(lw_in 414 (by decide +kernel) rfl), (lw_in 415 (by decide +kernel) rfl), (lw_in 416 (by decide +kernel) rfl), ok_Land_everywhere⟩
theorem k_DC_138 : CLv R_DC 138 m_Parting_gather 1 := ⟨(lw_in 418 (by decide +kernel) rfl), (lw_in 419 (by decide +kernel) rfl), (lw_in 420 (by decide +kernel) rfl), ok_Parting_gather⟩
theorem k_Parting_24 : CLs R_Parting 24 m_Arrays_fill_53178 2 := ⟨(lw_in 422 (by decide +kernel) rfl), (lw_in 102 (by decide +kernel) rfl), ok_Arrays_fill_53178⟩
theorem k_L_28 : CLv R_L 28 m_DC_keep 2 := ⟨(lw_in 423 (by decide +kernel) rfl), (lw_in 424 (by decide +kernel) rfl), (lw_in 425 (by decide +kernel) rfl), ok_DC_keep⟩
theorem k_L_32 : CLv R_L 32 m_DC_cuts 1 := ⟨(lw_in 427 (by decide +kernel) rfl), (lw_in 428 (by decide +kernel) rfl), (lw_in 429 (by decide +kernel) rfl), ok_DC_cuts⟩
theorem k_L_37 : CLv R_L 37 m_DC_fix 2 := ⟨(lw_in 431 (by decide +kernel) rfl), (lw_in 432 (by decide +kernel) rfl), (lw_in 433 (by decide +kernel) rfl), ok_DC_fix⟩
theorem k_DC_149 : CLv R_DC 149 m_Law_hasDistrict 1 := ⟨(lw_in 435 (by decide +kernel) rfl), (lw_in 436 (by decide +kernel) rfl), (lw_in 437 (by decide +kernel) rfl), ok_Law_hasDistrict⟩
theorem k_Law_35 : CLn R_Law 35 m_DC_isWithin 3 "DistrictCutter" := ⟨(lw_inN 439 (by decide +kernel) rfl), (lw_in 369 (by decide +kernel) rfl), ok_DC_isWithin⟩
theorem k_L_41 : CLv R_L 41 m_DC_people 2 := ⟨(lw_in 440 (by decide +kernel) rfl), (lw_in 441 (by decide +kernel) rfl), (lw_in 442 (by decide +kernel) rfl), ok_DC_people⟩
theorem k_DC_155 : CLv R_DC 155 m_Land_changePeople 2 := ⟨(lw_in 444 (by decide +kernel) rfl), (lw_in 445 (by decide +kernel) rfl), (lw_in 446 (by decide +kernel) rfl), ok_Land_changePeople⟩
theorem k_L_45 : CLv R_L 45 m_DC_put 2 := ⟨(lw_in 448 (by decide +kernel) rfl), (lw_in 449 (by decide +kernel) rfl), (lw_in 450 (by decide +kernel) rfl), ok_DC_put⟩
theorem k_L_49 : CLv R_L 49 m_DC_at 1 := ⟨(lw_in 452 (by decide +kernel) rfl), (lw_in 453 (by decide +kernel) rfl), (lw_in 454 (by decide +kernel) rfl), ok_DC_at⟩
theorem k_L_53 : CLv R_L 53 m_DC_lawful 0 := ⟨(lw_in 456 (by decide +kernel) rfl), (lw_in 457 (by decide +kernel) rfl), (lw_in 458 (by decide +kernel) rfl), ok_DC_lawful⟩
theorem k_DC_162 : CLv R_DC 162 m_Court_brokenLaw 1 := ⟨(lw_in 460 (by decide +kernel) rfl), (lw_in 461 (by decide +kernel) rfl), (lw_in 462 (by decide +kernel) rfl), ok_Court_brokenLaw⟩
theorem k_Court_19 : CLv R_Court 19 m_Court_culprit 2 := ⟨(lw_in 464 (by decide +kernel) rfl), (lw_in 465 (by decide +kernel) rfl), (lw_in 466 (by decide +kernel) rfl), ok_Court_culprit⟩
theorem k_Court_23 : CLv R_Court 23 m_Court_badDistrict 2 := ⟨(lw_in 468 (by decide +kernel) rfl), (lw_in 470 (by decide +kernel) rfl), (lw_inP 0 (by decide +kernel) rfl), ok_Court_badDistrict⟩
theorem k_Court_104 : CLv R_Court 104 m_Court_isBad 2 := ⟨(lw_in 472 (by decide +kernel) rfl), (lw_in 474 (by decide +kernel) rfl), (lw_inP 1 (by decide +kernel) rfl), ok_Court_isBad⟩
theorem k_Court_83 : CLv R_Court 83 m_Court_hangs 1 := ⟨(lw_in 476 (by decide +kernel) rfl), (lw_in 477 (by decide +kernel) rfl), (lw_in 478 (by decide +kernel) rfl), ok_Court_hangs⟩
theorem k_Court_51 : CLs R_Court 51 m_Sets_spread 3 := ⟨(lw_in 480 (by decide +kernel) rfl), (lw_in 481 (by decide +kernel) rfl), ok_Sets_spread⟩
theorem k_Sets_15 : CLs R_Sets 15 m_Integer_bitCount_0f7a4 1 := ⟨(lw_in 483 (by decide +kernel) rfl), (lw_in 484 (by decide +kernel) rfl), ok_Integer_bitCount_0f7a4⟩
theorem v_Integer_265 : Cond.constant R_Integer 265 (1431655765 : Int32) ∈ lw_g := (lw_in 486 (by decide +kernel) rfl)
theorem v_Integer_266 : Cond.constant R_Integer 266 (858993459 : Int32) ∈ lw_g := (lw_in 487 (by decide +kernel) rfl)
theorem v_Integer_267 : Cond.constant R_Integer 267 (252645135 : Int32) ∈ lw_g := (lw_in 488 (by decide +kernel) rfl)
theorem k_Court_73 : CLs R_Court 73 m_Sets_sum 2 := ⟨(lw_in 489 (by decide +kernel) rfl), (lw_in 490 (by decide +kernel) rfl), ok_Sets_sum⟩
theorem k_Sets_21 : CLs R_Sets 21 m_Sets_last 1 := ⟨(lw_in 492 (by decide +kernel) rfl), (lw_in 493 (by decide +kernel) rfl), ok_Sets_last⟩
theorem k_Court_77 : CLv R_Court 77 m_Court_fits 1 := ⟨(lw_in 495 (by decide +kernel) rfl), (lw_in 496 (by decide +kernel) rfl), (lw_in 497 (by decide +kernel) rfl), ok_Court_fits⟩
theorem kM_Court_89 : MLk R_Court 89 Lib.Math.abs.name Lib.Math.abs.code 1 := ⟨(lw_in 499 (by decide +kernel) rfl), (lw_in 500 (by decide +kernel) rfl), (lw_in 15 (by decide +kernel) rfl), (lw_in 501 (by decide +kernel) rfl)⟩
theorem k_Court_26 : CLv R_Court 26 m_Court_cutKeptTown 1 := ⟨(lw_in 502 (by decide +kernel) rfl), (lw_in 504 (by decide +kernel) rfl), (lw_inP 2 (by decide +kernel) rfl), ok_Court_cutKeptTown⟩
theorem k_Court_108 : CLv R_Court 108 m_Court_isCut 2 := ⟨(lw_in 506 (by decide +kernel) rfl), (lw_in 508 (by decide +kernel) rfl), (lw_inP 3 (by decide +kernel) rfl), ok_Court_isCut⟩
theorem k_Court_124 : CLs R_Court 124 m_Sets_last 1 := ⟨(lw_in 510 (by decide +kernel) rfl), (lw_in 493 (by decide +kernel) rfl), ok_Sets_last⟩
theorem k_Court_30 : CLv R_Court 30 m_Court_strayPlace 1 := ⟨(lw_in 511 (by decide +kernel) rfl), (lw_in 513 (by decide +kernel) rfl), (lw_inP 4 (by decide +kernel) rfl), ok_Court_strayPlace⟩
theorem k_Court_33 : CLv R_Court 33 m_Court_townTooMany 1 := ⟨(lw_in 515 (by decide +kernel) rfl), (lw_in 517 (by decide +kernel) rfl), (lw_inP 5 (by decide +kernel) rfl), ok_Court_townTooMany⟩
theorem k_L_58 : CLv R_L 58 m_DC_why 1 := ⟨(lw_in 519 (by decide +kernel) rfl), (lw_in 520 (by decide +kernel) rfl), (lw_in 521 (by decide +kernel) rfl), ok_DC_why⟩
theorem k_DC_166 : CLv R_DC 166 m_Court_culprit 2 := ⟨(lw_in 523 (by decide +kernel) rfl), (lw_in 465 (by decide +kernel) rfl), (lw_in 466 (by decide +kernel) rfl), ok_Court_culprit⟩
theorem k_DC_173 : CLv R_DC 173 m_Court_looseEnd 2 := ⟨(lw_in 524 (by decide +kernel) rfl), (lw_in 525 (by decide +kernel) rfl), (lw_in 526 (by decide +kernel) rfl), ok_Court_looseEnd⟩
theorem k_Court_36 : CLs R_Court 36 m_Sets_first 1 := ⟨(lw_in 528 (by decide +kernel) rfl), (lw_in 529 (by decide +kernel) rfl), ok_Sets_first⟩
theorem k_Sets_9 : CLs R_Sets 9 m_Sets_has 2 := ⟨(lw_in 531 (by decide +kernel) rfl), (lw_in 400 (by decide +kernel) rfl), ok_Sets_has⟩
theorem k_Court_48 : CLs R_Court 48 m_Sets_only 1 := ⟨(lw_in 532 (by decide +kernel) rfl), (lw_in 379 (by decide +kernel) rfl), ok_Sets_only⟩
theorem k_L_62 : CLv R_L 62 m_DC_measure 1 := ⟨(lw_in 533 (by decide +kernel) rfl), (lw_in 534 (by decide +kernel) rfl), (lw_in 535 (by decide +kernel) rfl), ok_DC_measure⟩
theorem k_DC_176 : CLs R_DC 176 m_DC_isMeasure 1 := ⟨(lw_in 537 (by decide +kernel) rfl), (lw_in 538 (by decide +kernel) rfl), ok_DC_isMeasure⟩
theorem k_DC_179 : CLv R_DC 179 m_Scale_weigh 2 := ⟨(lw_in 540 (by decide +kernel) rfl), (lw_in 541 (by decide +kernel) rfl), (lw_in 542 (by decide +kernel) rfl), ok_Scale_weigh⟩
theorem k_Scale_34 : CLv R_Scale 34 m_Scale_shareOf 2 := ⟨(lw_in 544 (by decide +kernel) rfl), (lw_in 545 (by decide +kernel) rfl), (lw_in 546 (by decide +kernel) rfl), ok_Scale_shareOf⟩
theorem k_Scale_53 : CLv R_Scale 53 m_Land_outgoing 1 := ⟨(lw_in 548 (by decide +kernel) rfl), (lw_in 549 (by decide +kernel) rfl), (lw_in 550 (by decide +kernel) rfl), ok_Land_outgoing⟩
theorem k_Land_59 : CLs R_Land 59 m_Sets_has 2 := ⟨(lw_in 552 (by decide +kernel) rfl), (lw_in 400 (by decide +kernel) rfl), ok_Sets_has⟩
theorem k_Scale_58 : CLv R_Scale 58 m_Scale_cutTowns 1 := ⟨(lw_in 553 (by decide +kernel) rfl), (lw_in 554 (by decide +kernel) rfl), (lw_in 555 (by decide +kernel) rfl), ok_Scale_cutTowns⟩
theorem k_Scale_85 : CLs R_Scale 85 m_Sets_last 1 := ⟨(lw_in 557 (by decide +kernel) rfl), (lw_in 493 (by decide +kernel) rfl), ok_Sets_last⟩
theorem k_Scale_88 : CLs R_Scale 88 m_Sets_has 2 := ⟨(lw_in 558 (by decide +kernel) rfl), (lw_in 400 (by decide +kernel) rfl), ok_Sets_has⟩
theorem k_Scale_64 : CLs R_Scale 64 m_Sets_sum 2 := ⟨(lw_in 559 (by decide +kernel) rfl), (lw_in 490 (by decide +kernel) rfl), ok_Sets_sum⟩
theorem k_Scale_70 : CLv R_Scale 70 m_Scale_voteShare 2 := ⟨(lw_in 560 (by decide +kernel) rfl), (lw_in 562 (by decide +kernel) rfl), (lw_inP 6 (by decide +kernel) rfl), ok_Scale_voteShare⟩
theorem k_Scale_79 : CLs R_Scale 79 m_Scale_wasted 2 := ⟨(lw_in 564 (by decide +kernel) rfl), (lw_in 565 (by decide +kernel) rfl), ok_Scale_wasted⟩
theorem k_Scale_38 : CLv R_Scale 38 m_Scale_together 1 := ⟨(lw_in 567 (by decide +kernel) rfl), (lw_in 568 (by decide +kernel) rfl), (lw_in 569 (by decide +kernel) rfl), ok_Scale_together⟩
theorem v_Scale_44 : Cond.constant R_Scale 44 (2147483647 : Int32) ∈ lw_g := (lw_in 571 (by decide +kernel) rfl)
theorem kM_Scale_45 : MLk R_Scale 45 Lib.Math.max.name Lib.Math.max.code 2 := ⟨(lw_in 572 (by decide +kernel) rfl), (lw_in 573 (by decide +kernel) rfl), (lw_in 15 (by decide +kernel) rfl), (lw_in 574 (by decide +kernel) rfl)⟩
theorem kM_Scale_50 : MLk R_Scale 50 Lib.Math.min.name Lib.Math.min.code 2 := ⟨(lw_in 575 (by decide +kernel) rfl), (lw_in 576 (by decide +kernel) rfl), (lw_in 15 (by decide +kernel) rfl), (lw_in 577 (by decide +kernel) rfl)⟩
theorem k_L_66 : CLv R_L 66 m_DC_district 2 := ⟨(lw_in 578 (by decide +kernel) rfl), (lw_in 579 (by decide +kernel) rfl), (lw_in 580 (by decide +kernel) rfl), ok_DC_district⟩
theorem k_DC_183 : CLs R_DC 183 m_Integer_bitCount_0f7a4 1 := ⟨(lw_in 582 (by decide +kernel) rfl), (lw_in 484 (by decide +kernel) rfl), ok_Integer_bitCount_0f7a4⟩
theorem k_DC_190 : CLs R_DC 190 m_Sets_sum 2 := ⟨(lw_in 583 (by decide +kernel) rfl), (lw_in 490 (by decide +kernel) rfl), ok_Sets_sum⟩
theorem k_DC_203 : CLv R_DC 203 m_Land_outline 1 := ⟨(lw_in 584 (by decide +kernel) rfl), (lw_in 585 (by decide +kernel) rfl), (lw_in 586 (by decide +kernel) rfl), ok_Land_outline⟩
theorem k_DC_206 : CLv R_DC 206 m_Court_hangs 1 := ⟨(lw_in 588 (by decide +kernel) rfl), (lw_in 477 (by decide +kernel) rfl), (lw_in 478 (by decide +kernel) rfl), ok_Court_hangs⟩
theorem k_DC_209 : CLs R_DC 209 m_Sets_first 1 := ⟨(lw_in 589 (by decide +kernel) rfl), (lw_in 529 (by decide +kernel) rfl), ok_Sets_first⟩
theorem k_L_70 : CLv R_L 70 m_DC_land 1 := ⟨(lw_in 590 (by decide +kernel) rfl), (lw_in 591 (by decide +kernel) rfl), (lw_in 592 (by decide +kernel) rfl), ok_DC_land⟩
theorem k_DC_215 : CLv R_DC 215 m_Law_fixedPlaces 0 := ⟨(lw_in 594 (by decide +kernel) rfl), (lw_in 595 (by decide +kernel) rfl), (lw_in 596 (by decide +kernel) rfl), ok_Law_fixedPlaces⟩
theorem k_L_74 : CLv R_L 74 m_DC_count 0 := ⟨(lw_in 598 (by decide +kernel) rfl), (lw_in 599 (by decide +kernel) rfl), (lw_in 600 (by decide +kernel) rfl), ok_DC_count⟩
theorem v_DC_218 : Cond.constant R_DC 218 (2147483647 : Int32) ∈ lw_g := (lw_in 602 (by decide +kernel) rfl)
theorem k_DC_219 : CLv R_DC 219 m_DC_openClasses 1 := ⟨(lw_in 603 (by decide +kernel) rfl), (lw_in 605 (by decide +kernel) rfl), (lw_inP 7 (by decide +kernel) rfl), ok_DC_openClasses⟩
theorem k_DC_271 : CLv R_DC 271 m_ClassBook_prepare 0 := ⟨(lw_in 607 (by decide +kernel) rfl), (lw_in 608 (by decide +kernel) rfl), (lw_in 609 (by decide +kernel) rfl), ok_ClassBook_prepare⟩
theorem k_ClassBook_47 : CLv R_ClassBook 47 m_Land_everywhere 0 := ⟨(lw_in 611 (by decide +kernel) rfl), (lw_in 415 (by decide +kernel) rfl), (lw_in 416 (by decide +kernel) rfl), ok_Land_everywhere⟩
theorem k_ClassBook_65 : CLv R_ClassBook 65 m_ClassBook_severalPlaceTowns 0 := ⟨(lw_in 612 (by decide +kernel) rfl), (lw_in 614 (by decide +kernel) rfl), (lw_inP 8 (by decide +kernel) rfl), ok_ClassBook_severalPlaceTowns⟩
theorem k_ClassBook_147 : CLs R_ClassBook 147 m_Integer_bitCount_0f7a4 1 := ⟨(lw_in 616 (by decide +kernel) rfl), (lw_in 484 (by decide +kernel) rfl), ok_Integer_bitCount_0f7a4⟩
theorem k_ClassBook_76 : CLv R_ClassBook 76 m_ClassBook_fillPrices 1 := ⟨(lw_in 617 (by decide +kernel) rfl), (lw_in 619 (by decide +kernel) rfl), (lw_inP 9 (by decide +kernel) rfl), ok_ClassBook_fillPrices⟩
theorem k_ClassBook_83 : CLs R_ClassBook 83 m_ClassBook_atLeast 2 := ⟨(lw_in 621 (by decide +kernel) rfl), (lw_in 622 (by decide +kernel) rfl), ok_ClassBook_atLeast⟩
theorem kM_ClassBook_167 : MLk R_ClassBook 167 Lib.Math.max.name Lib.Math.max.code 2 := ⟨(lw_in 624 (by decide +kernel) rfl), (lw_in 573 (by decide +kernel) rfl), (lw_in 15 (by decide +kernel) rfl), (lw_in 574 (by decide +kernel) rfl)⟩
theorem k_ClassBook_152 : CLv R_ClassBook 152 m_Court_mayBeDistrict 1 := ⟨(lw_in 625 (by decide +kernel) rfl), (lw_in 626 (by decide +kernel) rfl), (lw_in 627 (by decide +kernel) rfl), ok_Court_mayBeDistrict⟩
theorem k_Court_80 : CLv R_Court 80 m_Court_leavesKeptWhole 1 := ⟨(lw_in 629 (by decide +kernel) rfl), (lw_in 631 (by decide +kernel) rfl), (lw_inP 10 (by decide +kernel) rfl), ok_Court_leavesKeptWhole⟩
theorem k_ClassBook_158 : CLv R_ClassBook 158 m_Scale_cutTowns 1 := ⟨(lw_in 633 (by decide +kernel) rfl), (lw_in 554 (by decide +kernel) rfl), (lw_in 555 (by decide +kernel) rfl), ok_Scale_cutTowns⟩
theorem k_ClassBook_87 : CLs R_ClassBook 87 m_Arrays_fill_53178 2 := ⟨(lw_in 634 (by decide +kernel) rfl), (lw_in 102 (by decide +kernel) rfl), ok_Arrays_fill_53178⟩
theorem k_DC_222 : CLv R_DC 222 m_ClassBook_total 0 := ⟨(lw_in 635 (by decide +kernel) rfl), (lw_in 636 (by decide +kernel) rfl), (lw_in 637 (by decide +kernel) rfl), ok_ClassBook_total⟩
theorem k_ClassBook_93 : CLv R_ClassBook 93 m_ClassBook_ways 3 := ⟨(lw_in 639 (by decide +kernel) rfl), (lw_in 641 (by decide +kernel) rfl), (lw_inP 11 (by decide +kernel) rfl), ok_ClassBook_ways⟩
theorem k_ClassBook_172 : CLv R_ClassBook 172 m_ClassBook_slotOf 3 := ⟨(lw_in 643 (by decide +kernel) rfl), (lw_in 645 (by decide +kernel) rfl), (lw_inP 12 (by decide +kernel) rfl), ok_ClassBook_slotOf⟩
theorem k_ClassBook_118 : CLv R_ClassBook 118 m_ClassBook_waysAhead 4 := ⟨(lw_in 647 (by decide +kernel) rfl), (lw_in 649 (by decide +kernel) rfl), (lw_inP 13 (by decide +kernel) rfl), ok_ClassBook_waysAhead⟩
theorem k_ClassBook_175 : CLs R_ClassBook 175 m_ClassBook_choicesOf 1 := ⟨(lw_in 651 (by decide +kernel) rfl), (lw_in 652 (by decide +kernel) rfl), ok_ClassBook_choicesOf⟩
theorem k_ClassBook_178 : CLv R_ClassBook 178 m_ClassBook_waysWith 4 := ⟨(lw_in 654 (by decide +kernel) rfl), (lw_in 656 (by decide +kernel) rfl), (lw_inP 14 (by decide +kernel) rfl), ok_ClassBook_waysWith⟩
theorem k_ClassBook_181 : CLs R_ClassBook 181 m_ClassBook_following 2 := ⟨(lw_in 658 (by decide +kernel) rfl), (lw_in 659 (by decide +kernel) rfl), ok_ClassBook_following⟩
theorem k_L_78 : CLv R_L 78 m_DC_kth 1 := ⟨(lw_in 661 (by decide +kernel) rfl), (lw_in 662 (by decide +kernel) rfl), (lw_in 663 (by decide +kernel) rfl), ok_DC_kth⟩
theorem k_DC_225 : CLv R_DC 225 m_ClassBook_hasNumber 1 := ⟨(lw_in 665 (by decide +kernel) rfl), (lw_in 666 (by decide +kernel) rfl), (lw_in 667 (by decide +kernel) rfl), ok_ClassBook_hasNumber⟩
theorem k_ClassBook_97 : CLv R_ClassBook 97 m_ClassBook_total 0 := ⟨(lw_in 669 (by decide +kernel) rfl), (lw_in 636 (by decide +kernel) rfl), (lw_in 637 (by decide +kernel) rfl), ok_ClassBook_total⟩
theorem k_ClassBook_100 : CLn R_ClassBook 100 m_DC_isWithin 3 "DistrictCutter" := ⟨(lw_inN 670 (by decide +kernel) rfl), (lw_in 369 (by decide +kernel) rfl), ok_DC_isWithin⟩
theorem k_DC_228 : CLv R_DC 228 m_ClassBook_lay 2 := ⟨(lw_in 671 (by decide +kernel) rfl), (lw_in 672 (by decide +kernel) rfl), (lw_in 673 (by decide +kernel) rfl), ok_ClassBook_lay⟩
theorem k_ClassBook_122 : CLv R_ClassBook 122 m_ClassBook_choose 1 := ⟨(lw_in 675 (by decide +kernel) rfl), (lw_in 677 (by decide +kernel) rfl), (lw_inP 15 (by decide +kernel) rfl), ok_ClassBook_choose⟩
theorem k_ClassBook_126 : CLv R_ClassBook 126 m_Parting_deal 2 := ⟨(lw_in 679 (by decide +kernel) rfl), (lw_in 680 (by decide +kernel) rfl), (lw_in 681 (by decide +kernel) rfl), ok_Parting_deal⟩
theorem k_Parting_30 : CLs R_Parting 30 m_Sets_has 2 := ⟨(lw_in 683 (by decide +kernel) rfl), (lw_in 400 (by decide +kernel) rfl), ok_Sets_has⟩
theorem k_L_82 : CLv R_L 82 m_DC_which 0 := ⟨(lw_in 684 (by decide +kernel) rfl), (lw_in 685 (by decide +kernel) rfl), (lw_in 686 (by decide +kernel) rfl), ok_DC_which⟩
theorem k_DC_232 : CLv R_DC 232 m_ClassBook_rank 1 := ⟨(lw_in 688 (by decide +kernel) rfl), (lw_in 689 (by decide +kernel) rfl), (lw_in 690 (by decide +kernel) rfl), ok_ClassBook_rank⟩
theorem k_ClassBook_104 : CLs R_ClassBook 104 m_Sets_first 1 := ⟨(lw_in 692 (by decide +kernel) rfl), (lw_in 529 (by decide +kernel) rfl), ok_Sets_first⟩
theorem k_L_86 : CLv R_L 86 m_DC_same 1 := ⟨(lw_in 693 (by decide +kernel) rfl), (lw_in 694 (by decide +kernel) rfl), (lw_in 695 (by decide +kernel) rfl), ok_DC_same⟩
theorem k_L_90 : CLv R_L 90 m_DC_least 1 := ⟨(lw_in 697 (by decide +kernel) rfl), (lw_in 698 (by decide +kernel) rfl), (lw_in 699 (by decide +kernel) rfl), ok_DC_least⟩
theorem k_DC_235 : CLv R_DC 235 m_ClassBook_survey 2 := ⟨(lw_in 701 (by decide +kernel) rfl), (lw_in 702 (by decide +kernel) rfl), (lw_in 703 (by decide +kernel) rfl), ok_ClassBook_survey⟩
theorem v_ClassBook_130 : Cond.constant R_ClassBook 130 (-2000000 : Int32) ∈ lw_g := (lw_in 705 (by decide +kernel) rfl)
theorem k_ClassBook_137 : CLv R_ClassBook 137 m_ClassBook_fillShares 1 := ⟨(lw_in 706 (by decide +kernel) rfl), (lw_in 708 (by decide +kernel) rfl), (lw_inP 16 (by decide +kernel) rfl), ok_ClassBook_fillShares⟩
theorem k_ClassBook_163 : CLv R_ClassBook 163 m_Scale_shareOf 2 := ⟨(lw_in 710 (by decide +kernel) rfl), (lw_in 545 (by decide +kernel) rfl), (lw_in 546 (by decide +kernel) rfl), ok_Scale_shareOf⟩
theorem k_ClassBook_140 : CLv R_ClassBook 140 m_ClassBook_visit 4 := ⟨(lw_in 711 (by decide +kernel) rfl), (lw_in 713 (by decide +kernel) rfl), (lw_inP 17 (by decide +kernel) rfl), ok_ClassBook_visit⟩
theorem k_ClassBook_184 : CLv R_ClassBook 184 m_ClassBook_note 1 := ⟨(lw_in 715 (by decide +kernel) rfl), (lw_in 717 (by decide +kernel) rfl), (lw_inP 18 (by decide +kernel) rfl), ok_ClassBook_note⟩
theorem k_ClassBook_188 : CLv R_ClassBook 188 m_Scale_together 1 := ⟨(lw_in 719 (by decide +kernel) rfl), (lw_in 568 (by decide +kernel) rfl), (lw_in 569 (by decide +kernel) rfl), ok_Scale_together⟩
theorem k_ClassBook_191 : CLs R_ClassBook 191 m_Integer_compare_7cf53 2 := ⟨(lw_in 720 (by decide +kernel) rfl), (lw_in 721 (by decide +kernel) rfl), ok_Integer_compare_7cf53⟩
theorem k_L_94 : CLv R_L 94 m_DC_among 2 := ⟨(lw_in 723 (by decide +kernel) rfl), (lw_in 724 (by decide +kernel) rfl), (lw_in 725 (by decide +kernel) rfl), ok_DC_among⟩
theorem k_L_98 : CLv R_L 98 m_DC_step 1 := ⟨(lw_in 727 (by decide +kernel) rfl), (lw_in 728 (by decide +kernel) rfl), (lw_in 729 (by decide +kernel) rfl), ok_DC_step⟩
theorem k_DC_244 : CLv R_DC 244 m_DC_changeRefusal 0 := ⟨(lw_in 731 (by decide +kernel) rfl), (lw_in 733 (by decide +kernel) rfl), (lw_inP 19 (by decide +kernel) rfl), ok_DC_changeRefusal⟩
theorem k_DC_274 : CLv R_DC 274 m_Court_allows 1 := ⟨(lw_in 735 (by decide +kernel) rfl), (lw_in 736 (by decide +kernel) rfl), (lw_in 737 (by decide +kernel) rfl), ok_Court_allows⟩
theorem k_Court_66 : CLv R_Court 66 m_Court_mayBeDistrict 1 := ⟨(lw_in 739 (by decide +kernel) rfl), (lw_in 626 (by decide +kernel) rfl), (lw_in 627 (by decide +kernel) rfl), ok_Court_mayBeDistrict⟩
theorem k_DC_250 : CLv R_DC 250 m_Walker_takeStep 1 := ⟨(lw_in 740 (by decide +kernel) rfl), (lw_in 741 (by decide +kernel) rfl), (lw_in 742 (by decide +kernel) rfl), ok_Walker_takeStep⟩
theorem k_Walker_81 : CLv R_Walker 81 m_Walker_drawCrossing 1 := ⟨(lw_in 744 (by decide +kernel) rfl), (lw_in 746 (by decide +kernel) rfl), (lw_inP 20 (by decide +kernel) rfl), ok_Walker_drawCrossing⟩
theorem k_Walker_122 : CLv R_Walker 122 m_Walker_draw 0 := ⟨(lw_in 748 (by decide +kernel) rfl), (lw_in 750 (by decide +kernel) rfl), (lw_inP 21 (by decide +kernel) rfl), ok_Walker_draw⟩
theorem v_Walker_142 : Cond.constant R_Walker 142 (1103515245 : Int32) ∈ lw_g := (lw_in 752 (by decide +kernel) rfl)
theorem kM_Walker_69 : MLk R_Walker 69 Lib.Math.min.name Lib.Math.min.code 2 := ⟨(lw_in 753 (by decide +kernel) rfl), (lw_in 576 (by decide +kernel) rfl), (lw_in 15 (by decide +kernel) rfl), (lw_in 577 (by decide +kernel) rfl)⟩
theorem kM_Walker_74 : MLk R_Walker 74 Lib.Math.max.name Lib.Math.max.code 2 := ⟨(lw_in 754 (by decide +kernel) rfl), (lw_in 573 (by decide +kernel) rfl), (lw_in 15 (by decide +kernel) rfl), (lw_in 574 (by decide +kernel) rfl)⟩
theorem k_Walker_99 : CLv R_Walker 99 m_Walker_drawLeadingPart 1 := ⟨(lw_in 755 (by decide +kernel) rfl), (lw_in 757 (by decide +kernel) rfl), (lw_inP 22 (by decide +kernel) rfl), ok_Walker_drawLeadingPart⟩
theorem k_Walker_112 : CLv R_Walker 112 m_Walker_drawOrder 1 := ⟨(lw_in 759 (by decide +kernel) rfl), (lw_in 761 (by decide +kernel) rfl), (lw_inP 23 (by decide +kernel) rfl), ok_Walker_drawOrder⟩
theorem k_Walker_146 : CLv R_Walker 146 m_Land_isInside 2 := ⟨(lw_in 763 (by decide +kernel) rfl), (lw_in 764 (by decide +kernel) rfl), (lw_in 765 (by decide +kernel) rfl), ok_Land_isInside⟩
theorem k_Walker_149 : CLv R_Walker 149 m_Walker_insert 2 := ⟨(lw_in 767 (by decide +kernel) rfl), (lw_in 769 (by decide +kernel) rfl), (lw_inP 24 (by decide +kernel) rfl), ok_Walker_insert⟩
theorem k_Walker_115 : CLv R_Walker 115 m_Walker_growTree 1 := ⟨(lw_in 771 (by decide +kernel) rfl), (lw_in 773 (by decide +kernel) rfl), (lw_inP 25 (by decide +kernel) rfl), ok_Walker_growTree⟩
theorem k_Walker_152 : CLs R_Walker 152 m_Sets_only 1 := ⟨(lw_in 775 (by decide +kernel) rfl), (lw_in 379 (by decide +kernel) rfl), ok_Sets_only⟩
theorem k_Walker_134 : CLs R_Walker 134 m_Sets_has 2 := ⟨(lw_in 776 (by decide +kernel) rfl), (lw_in 400 (by decide +kernel) rfl), ok_Sets_has⟩
theorem k_Walker_155 : CLv R_Walker 155 m_Walker_join 2 := ⟨(lw_in 777 (by decide +kernel) rfl), (lw_in 779 (by decide +kernel) rfl), (lw_inP 26 (by decide +kernel) rfl), ok_Walker_join⟩
theorem k_Walker_119 : CLv R_Walker 119 m_Walker_findSeams 1 := ⟨(lw_in 781 (by decide +kernel) rfl), (lw_in 783 (by decide +kernel) rfl), (lw_inP 27 (by decide +kernel) rfl), ok_Walker_findSeams⟩
theorem k_Walker_161 : CLs R_Walker 161 m_Sets_sum 2 := ⟨(lw_in 785 (by decide +kernel) rfl), (lw_in 490 (by decide +kernel) rfl), ok_Sets_sum⟩
theorem k_Walker_126 : CLv R_Walker 126 m_Walker_partBefore 2 := ⟨(lw_in 786 (by decide +kernel) rfl), (lw_in 788 (by decide +kernel) rfl), (lw_inP 28 (by decide +kernel) rfl), ok_Walker_partBefore⟩
theorem k_Walker_169 : CLs R_Walker 169 m_Sets_spread 3 := ⟨(lw_in 790 (by decide +kernel) rfl), (lw_in 481 (by decide +kernel) rfl), ok_Sets_spread⟩
theorem k_Walker_165 : CLv R_Walker 165 m_Court_fits 1 := ⟨(lw_in 791 (by decide +kernel) rfl), (lw_in 496 (by decide +kernel) rfl), (lw_in 497 (by decide +kernel) rfl), ok_Court_fits⟩
theorem k_Walker_129 : CLs R_Walker 129 m_Sets_first 1 := ⟨(lw_in 792 (by decide +kernel) rfl), (lw_in 529 (by decide +kernel) rfl), ok_Sets_first⟩
theorem k_Walker_103 : CLv R_Walker 103 m_Parting_deal 2 := ⟨(lw_in 793 (by decide +kernel) rfl), (lw_in 680 (by decide +kernel) rfl), (lw_in 681 (by decide +kernel) rfl), ok_Parting_deal⟩
theorem k_Walker_107 : CLv R_Walker 107 m_Court_allows 1 := ⟨(lw_in 794 (by decide +kernel) rfl), (lw_in 736 (by decide +kernel) rfl), (lw_in 737 (by decide +kernel) rfl), ok_Court_allows⟩
theorem k_L_102 : CLv R_L 102 m_DC_walk 3 := ⟨(lw_in 795 (by decide +kernel) rfl), (lw_in 796 (by decide +kernel) rfl), (lw_in 797 (by decide +kernel) rfl), ok_DC_walk⟩
theorem k_DC_254 : CLv R_DC 254 m_Walker_roam 3 := ⟨(lw_in 799 (by decide +kernel) rfl), (lw_in 800 (by decide +kernel) rfl), (lw_in 801 (by decide +kernel) rfl), ok_Walker_roam⟩
theorem k_Walker_43 : CLv R_Walker 43 m_Parting_become 1 := ⟨(lw_in 803 (by decide +kernel) rfl), (lw_in 804 (by decide +kernel) rfl), (lw_in 805 (by decide +kernel) rfl), ok_Parting_become⟩
theorem kA_Parting_34 : ALk R_Parting 34 := ⟨(lw_in 807 (by decide +kernel) rfl), (lw_in 809 (by decide +kernel) rfl), (lw_in 808 (by decide +kernel) rfl), (lw_in 16 (by decide +kernel) rfl)⟩
theorem k_Walker_47 : CLv R_Walker 47 m_Scale_weigh 2 := ⟨(lw_in 810 (by decide +kernel) rfl), (lw_in 541 (by decide +kernel) rfl), (lw_in 542 (by decide +kernel) rfl), ok_Scale_weigh⟩
theorem k_Walker_53 : CLs R_Walker 53 m_Arrays_fill_53178 2 := ⟨(lw_in 811 (by decide +kernel) rfl), (lw_in 102 (by decide +kernel) rfl), ok_Arrays_fill_53178⟩
theorem k_Walker_59 : CLv R_Walker 59 m_Walker_takeStep 1 := ⟨(lw_in 812 (by decide +kernel) rfl), (lw_in 741 (by decide +kernel) rfl), (lw_in 742 (by decide +kernel) rfl), ok_Walker_takeStep⟩
theorem k_Walker_63 : CLs R_Walker 63 m_Integer_compare_7cf53 2 := ⟨(lw_in 813 (by decide +kernel) rfl), (lw_in 721 (by decide +kernel) rfl), ok_Integer_compare_7cf53⟩
theorem k_L_106 : CLv R_L 106 m_DC_seen 1 := ⟨(lw_in 814 (by decide +kernel) rfl), (lw_in 815 (by decide +kernel) rfl), (lw_in 816 (by decide +kernel) rfl), ok_DC_seen⟩
theorem k_L_110 : CLv R_L 110 m_DC_better 0 := ⟨(lw_in 818 (by decide +kernel) rfl), (lw_in 819 (by decide +kernel) rfl), (lw_in 820 (by decide +kernel) rfl), ok_DC_better⟩
theorem k_DC_265 : CLv R_DC 265 m_Improver_improve 1 := ⟨(lw_in 822 (by decide +kernel) rfl), (lw_in 823 (by decide +kernel) rfl), (lw_in 824 (by decide +kernel) rfl), ok_Improver_improve⟩
theorem k_Improver_23 : CLv R_Improver 23 m_Improver_moveOne 1 := ⟨(lw_in 826 (by decide +kernel) rfl), (lw_in 828 (by decide +kernel) rfl), (lw_inP 29 (by decide +kernel) rfl), ok_Improver_moveOne⟩
theorem k_Improver_44 : CLv R_Improver 44 m_Improver_isShorter 3 := ⟨(lw_in 830 (by decide +kernel) rfl), (lw_in 832 (by decide +kernel) rfl), (lw_inP 30 (by decide +kernel) rfl), ok_Improver_isShorter⟩
theorem k_Improver_60 : CLv R_Improver 60 m_Land_contact 2 := ⟨(lw_in 834 (by decide +kernel) rfl), (lw_in 835 (by decide +kernel) rfl), (lw_in 836 (by decide +kernel) rfl), ok_Land_contact⟩
theorem k_Improver_48 : CLv R_Improver 48 m_Parting_move 2 := ⟨(lw_in 838 (by decide +kernel) rfl), (lw_in 382 (by decide +kernel) rfl), (lw_in 383 (by decide +kernel) rfl), ok_Parting_move⟩
theorem k_Improver_52 : CLv R_Improver 52 m_Court_allows 1 := ⟨(lw_in 839 (by decide +kernel) rfl), (lw_in 736 (by decide +kernel) rfl), (lw_in 737 (by decide +kernel) rfl), ok_Court_allows⟩
theorem k_L_114 : CLv R_L 114 m_DC_mend 1 := ⟨(lw_in 840 (by decide +kernel) rfl), (lw_in 841 (by decide +kernel) rfl), (lw_in 842 (by decide +kernel) rfl), ok_DC_mend⟩
theorem k_DC_268 : CLv R_DC 268 m_Mender_repair 2 := ⟨(lw_in 844 (by decide +kernel) rfl), (lw_in 845 (by decide +kernel) rfl), (lw_in 846 (by decide +kernel) rfl), ok_Mender_repair⟩
theorem v_Mender_35 : Cond.constant R_Mender 35 (2147483647 : Int32) ∈ lw_g := (lw_in 848 (by decide +kernel) rfl)
theorem k_Mender_43 : CLv R_Mender 43 m_Parting_become 1 := ⟨(lw_in 849 (by decide +kernel) rfl), (lw_in 804 (by decide +kernel) rfl), (lw_in 805 (by decide +kernel) rfl), ok_Parting_become⟩
theorem k_Mender_47 : CLv R_Mender 47 m_Mender_tryMoves 4 := ⟨(lw_in 850 (by decide +kernel) rfl), (lw_in 852 (by decide +kernel) rfl), (lw_inP 31 (by decide +kernel) rfl), ok_Mender_tryMoves⟩
theorem k_Mender_51 : CLv R_Mender 51 m_Mender_isBetter 2 := ⟨(lw_in 854 (by decide +kernel) rfl), (lw_in 856 (by decide +kernel) rfl), (lw_inP 32 (by decide +kernel) rfl), ok_Mender_isBetter⟩
theorem k_Mender_82 : CLv R_Mender 82 m_Parting_comesAhead 1 := ⟨(lw_in 858 (by decide +kernel) rfl), (lw_in 859 (by decide +kernel) rfl), (lw_in 860 (by decide +kernel) rfl), ok_Parting_comesAhead⟩
theorem k_Mender_55 : CLv R_Mender 55 m_Court_allows 1 := ⟨(lw_in 862 (by decide +kernel) rfl), (lw_in 736 (by decide +kernel) rfl), (lw_in 737 (by decide +kernel) rfl), ok_Court_allows⟩
theorem k_Mender_75 : CLv R_Mender 75 m_Parting_move 2 := ⟨(lw_in 863 (by decide +kernel) rfl), (lw_in 382 (by decide +kernel) rfl), (lw_in 383 (by decide +kernel) rfl), ok_Parting_move⟩
theorem f_Mo_9 : FL R_Mo 9 11 0 := ⟨R_Mo, T_Mo, 40, ty_Mo, rfl, by decide, (lw_in 870 (by decide +kernel) rfl), in_Mo, tyok_Mo, nm_Mo⟩
theorem f_Mo_13 : FL R_Mo 13 11 1 := ⟨R_Mo, T_Mo, 40, ty_Mo, rfl, by decide, (lw_in 871 (by decide +kernel) rfl), in_Mo, tyok_Mo, nm_Mo⟩
theorem f_Mo_16 : FL R_Mo 16 11 2 := ⟨R_Mo, T_Mo, 40, ty_Mo, rfl, by decide, (lw_in 872 (by decide +kernel) rfl), in_Mo, tyok_Mo, nm_Mo⟩
theorem f_Mo_19 : FL R_Mo 19 11 3 := ⟨R_Mo, T_Mo, 40, ty_Mo, rfl, by decide, (lw_in 873 (by decide +kernel) rfl), in_Mo, tyok_Mo, nm_Mo⟩
theorem f_Mo_91 : FL R_Mo 91 11 4 := ⟨R_Mo, T_Mo, 40, ty_Mo, rfl, by decide, (lw_in 874 (by decide +kernel) rfl), in_Mo, tyok_Mo, nm_Mo⟩
theorem f_Mo_22 : FL R_Mo 22 11 5 := ⟨R_Mo, T_Mo, 40, ty_Mo, rfl, by decide, (lw_in 875 (by decide +kernel) rfl), in_Mo, tyok_Mo, nm_Mo⟩
theorem f_Mo_25 : FL R_Mo 25 11 6 := ⟨R_Mo, T_Mo, 40, ty_Mo, rfl, by decide, (lw_in 876 (by decide +kernel) rfl), in_Mo, tyok_Mo, nm_Mo⟩
theorem f_Mo_28 : FL R_Mo 28 11 7 := ⟨R_Mo, T_Mo, 40, ty_Mo, rfl, by decide, (lw_in 877 (by decide +kernel) rfl), in_Mo, tyok_Mo, nm_Mo⟩
theorem f_Mo_102 : FL R_Mo 102 11 8 := ⟨R_Mo, T_Mo, 40, ty_Mo, rfl, by decide, (lw_in 878 (by decide +kernel) rfl), in_Mo, tyok_Mo, nm_Mo⟩
theorem f_Mo_31 : FL R_Mo 31 11 9 := ⟨R_Mo, T_Mo, 40, ty_Mo, rfl, by decide, (lw_in 879 (by decide +kernel) rfl), in_Mo, tyok_Mo, nm_Mo⟩
theorem f_Mo_34 : FL R_Mo 34 11 10 := ⟨R_Mo, T_Mo, 40, ty_Mo, rfl, by decide, (lw_in 880 (by decide +kernel) rfl), in_Mo, tyok_Mo, nm_Mo⟩
theorem f_Mo_38 : FL R_Mo 38 11 11 := ⟨R_Mo, T_Mo, 40, ty_Mo, rfl, by decide, (lw_in 881 (by decide +kernel) rfl), in_Mo, tyok_Mo, nm_Mo⟩
theorem f_Mo_41 : FL R_Mo 41 11 12 := ⟨R_Mo, T_Mo, 40, ty_Mo, rfl, by decide, (lw_in 882 (by decide +kernel) rfl), in_Mo, tyok_Mo, nm_Mo⟩
theorem f_Mo_45 : FL R_Mo 45 11 13 := ⟨R_Mo, T_Mo, 40, ty_Mo, rfl, by decide, (lw_in 883 (by decide +kernel) rfl), in_Mo, tyok_Mo, nm_Mo⟩
theorem f_Mo_48 : FL R_Mo 48 11 14 := ⟨R_Mo, T_Mo, 40, ty_Mo, rfl, by decide, (lw_in 884 (by decide +kernel) rfl), in_Mo, tyok_Mo, nm_Mo⟩
theorem f_Mo_51 : FL R_Mo 51 11 15 := ⟨R_Mo, T_Mo, 40, ty_Mo, rfl, by decide, (lw_in 885 (by decide +kernel) rfl), in_Mo, tyok_Mo, nm_Mo⟩
theorem f_Mo_118 : FL R_Mo 118 11 16 := ⟨R_Mo, T_Mo, 40, ty_Mo, rfl, by decide, (lw_in 886 (by decide +kernel) rfl), in_Mo, tyok_Mo, nm_Mo⟩
theorem f_Mo_127 : FL R_Mo 127 11 17 := ⟨R_Mo, T_Mo, 40, ty_Mo, rfl, by decide, (lw_in 887 (by decide +kernel) rfl), in_Mo, tyok_Mo, nm_Mo⟩
theorem f_Mo_130 : FL R_Mo 130 11 18 := ⟨R_Mo, T_Mo, 40, ty_Mo, rfl, by decide, (lw_in 888 (by decide +kernel) rfl), in_Mo, tyok_Mo, nm_Mo⟩
theorem f_Mo_192 : FL R_Mo 192 11 19 := ⟨R_Mo, T_Mo, 40, ty_Mo, rfl, by decide, (lw_in 889 (by decide +kernel) rfl), in_Mo, tyok_Mo, nm_Mo⟩
theorem f_Mo_54 : FL R_Mo 54 11 20 := ⟨R_Mo, T_Mo, 40, ty_Mo, rfl, by decide, (lw_in 890 (by decide +kernel) rfl), in_Mo, tyok_Mo, nm_Mo⟩
theorem f_Mo_57 : FL R_Mo 57 11 21 := ⟨R_Mo, T_Mo, 40, ty_Mo, rfl, by decide, (lw_in 891 (by decide +kernel) rfl), in_Mo, tyok_Mo, nm_Mo⟩
theorem f_Mo_60 : FL R_Mo 60 11 22 := ⟨R_Mo, T_Mo, 40, ty_Mo, rfl, by decide, (lw_in 892 (by decide +kernel) rfl), in_Mo, tyok_Mo, nm_Mo⟩
theorem f_Mo_63 : FL R_Mo 63 11 23 := ⟨R_Mo, T_Mo, 40, ty_Mo, rfl, by decide, (lw_in 893 (by decide +kernel) rfl), in_Mo, tyok_Mo, nm_Mo⟩
theorem f_Mo_66 : FL R_Mo 66 11 24 := ⟨R_Mo, T_Mo, 40, ty_Mo, rfl, by decide, (lw_in 894 (by decide +kernel) rfl), in_Mo, tyok_Mo, nm_Mo⟩
theorem f_Mo_69 : FL R_Mo 69 11 25 := ⟨R_Mo, T_Mo, 40, ty_Mo, rfl, by decide, (lw_in 895 (by decide +kernel) rfl), in_Mo, tyok_Mo, nm_Mo⟩
theorem f_Mo_72 : FL R_Mo 72 11 26 := ⟨R_Mo, T_Mo, 40, ty_Mo, rfl, by decide, (lw_in 896 (by decide +kernel) rfl), in_Mo, tyok_Mo, nm_Mo⟩
theorem f_Mo_213 : FL R_Mo 213 11 27 := ⟨R_Mo, T_Mo, 40, ty_Mo, rfl, by decide, (lw_in 897 (by decide +kernel) rfl), in_Mo, tyok_Mo, nm_Mo⟩
theorem f_Mo_75 : FL R_Mo 75 11 28 := ⟨R_Mo, T_Mo, 40, ty_Mo, rfl, by decide, (lw_in 898 (by decide +kernel) rfl), in_Mo, tyok_Mo, nm_Mo⟩
theorem f_Mo_78 : FL R_Mo 78 11 29 := ⟨R_Mo, T_Mo, 40, ty_Mo, rfl, by decide, (lw_in 899 (by decide +kernel) rfl), in_Mo, tyok_Mo, nm_Mo⟩
theorem f_Mo_164 : FL R_Mo 164 11 30 := ⟨R_Mo, T_Mo, 40, ty_Mo, rfl, by decide, (lw_in 900 (by decide +kernel) rfl), in_Mo, tyok_Mo, nm_Mo⟩
theorem f_Mo_170 : FL R_Mo 170 11 31 := ⟨R_Mo, T_Mo, 40, ty_Mo, rfl, by decide, (lw_in 901 (by decide +kernel) rfl), in_Mo, tyok_Mo, nm_Mo⟩
theorem f_Mo_173 : FL R_Mo 173 11 32 := ⟨R_Mo, T_Mo, 40, ty_Mo, rfl, by decide, (lw_in 902 (by decide +kernel) rfl), in_Mo, tyok_Mo, nm_Mo⟩
theorem f_Mo_179 : FL R_Mo 179 11 33 := ⟨R_Mo, T_Mo, 40, ty_Mo, rfl, by decide, (lw_in 903 (by decide +kernel) rfl), in_Mo, tyok_Mo, nm_Mo⟩
theorem f_Mo_176 : FL R_Mo 176 11 34 := ⟨R_Mo, T_Mo, 40, ty_Mo, rfl, by decide, (lw_in 904 (by decide +kernel) rfl), in_Mo, tyok_Mo, nm_Mo⟩
theorem f_Mo_81 : FL R_Mo 81 11 35 := ⟨R_Mo, T_Mo, 40, ty_Mo, rfl, by decide, (lw_in 905 (by decide +kernel) rfl), in_Mo, tyok_Mo, nm_Mo⟩
theorem f_Mo_167 : FL R_Mo 167 11 36 := ⟨R_Mo, T_Mo, 40, ty_Mo, rfl, by decide, (lw_in 906 (by decide +kernel) rfl), in_Mo, tyok_Mo, nm_Mo⟩
theorem f_Mo_84 : FL R_Mo 84 11 37 := ⟨R_Mo, T_Mo, 40, ty_Mo, rfl, by decide, (lw_in 907 (by decide +kernel) rfl), in_Mo, tyok_Mo, nm_Mo⟩
theorem f_Mo_223 : FL R_Mo 223 11 38 := ⟨R_Mo, T_Mo, 40, ty_Mo, rfl, by decide, (lw_in 908 (by decide +kernel) rfl), in_Mo, tyok_Mo, nm_Mo⟩
theorem f_Mo_220 : FL R_Mo 220 11 39 := ⟨R_Mo, T_Mo, 40, ty_Mo, rfl, by decide, (lw_in 909 (by decide +kernel) rfl), in_Mo, tyok_Mo, nm_Mo⟩
theorem k_L_17 : CLv R_L 17 m_Mo_place 5 := ⟨(lw_in 991 (by decide +kernel) rfl), (lw_in 992 (by decide +kernel) rfl), (lw_in 993 (by decide +kernel) rfl), ok_Mo_place⟩
theorem k_Mo_87 : CLs R_Mo 87 m_Mo_in 3 := ⟨(lw_in 995 (by decide +kernel) rfl), (lw_in 996 (by decide +kernel) rfl), ok_Mo_in⟩
theorem k_L_22 : CLv R_L 22 m_Mo_border 3 := ⟨(lw_in 998 (by decide +kernel) rfl), (lw_in 999 (by decide +kernel) rfl), (lw_in 1000 (by decide +kernel) rfl), ok_Mo_border⟩
theorem k_Mo_94 : CLv R_Mo 94 m_Mo_isPlace 1 := ⟨(lw_in 1002 (by decide +kernel) rfl), (lw_in 1004 (by decide +kernel) rfl), (lw_inP 33 (by decide +kernel) rfl), ok_Mo_isPlace⟩
theorem k_Mo_98 : CLs R_Mo 98 m_Mo_has 2 := ⟨(lw_in 1006 (by decide +kernel) rfl), (lw_in 1007 (by decide +kernel) rfl), ok_Mo_has⟩
theorem k_L_27 : CLv R_L 27 m_Mo_law 2 := ⟨(lw_in 1009 (by decide +kernel) rfl), (lw_in 1010 (by decide +kernel) rfl), (lw_in 1011 (by decide +kernel) rfl), ok_Mo_law⟩
theorem k_L_31 : CLv R_L 31 m_Mo_keep 2 := ⟨(lw_in 1013 (by decide +kernel) rfl), (lw_in 1014 (by decide +kernel) rfl), (lw_in 1015 (by decide +kernel) rfl), ok_Mo_keep⟩
theorem k_L_36 : CLv R_L 36 m_Mo_cuts 1 := ⟨(lw_in 1017 (by decide +kernel) rfl), (lw_in 1018 (by decide +kernel) rfl), (lw_in 1019 (by decide +kernel) rfl), ok_Mo_cuts⟩
theorem k_L_40 : CLv R_L 40 m_Mo_fix 2 := ⟨(lw_in 1021 (by decide +kernel) rfl), (lw_in 1022 (by decide +kernel) rfl), (lw_in 1023 (by decide +kernel) rfl), ok_Mo_fix⟩
theorem k_L_44 : CLv R_L 44 m_Mo_people 2 := ⟨(lw_in 1025 (by decide +kernel) rfl), (lw_in 1026 (by decide +kernel) rfl), (lw_in 1027 (by decide +kernel) rfl), ok_Mo_people⟩
theorem k_L_57 : CLv R_L 57 m_Mo_lawful 0 := ⟨(lw_in 1029 (by decide +kernel) rfl), (lw_in 1030 (by decide +kernel) rfl), (lw_in 1031 (by decide +kernel) rfl), ok_Mo_lawful⟩
theorem k_Mo_139 : CLv R_Mo 139 m_Mo_broken 1 := ⟨(lw_in 1033 (by decide +kernel) rfl), (lw_in 1035 (by decide +kernel) rfl), (lw_inP 34 (by decide +kernel) rfl), ok_Mo_broken⟩
theorem k_Mo_121 : CLv R_Mo 121 m_Mo_bitsOf 1 := ⟨(lw_in 1037 (by decide +kernel) rfl), (lw_in 1039 (by decide +kernel) rfl), (lw_inP 35 (by decide +kernel) rfl), ok_Mo_bitsOf⟩
theorem k_Mo_124 : CLv R_Mo 124 m_Mo_reached 1 := ⟨(lw_in 1041 (by decide +kernel) rfl), (lw_in 1043 (by decide +kernel) rfl), (lw_inP 36 (by decide +kernel) rfl), ok_Mo_reached⟩
theorem k_Mo_109 : CLs R_Mo 109 m_Mo_leastOf 1 := ⟨(lw_in 1045 (by decide +kernel) rfl), (lw_in 1046 (by decide +kernel) rfl), ok_Mo_leastOf⟩
theorem k_Mo_133 : CLv R_Mo 133 m_Mo_fits 1 := ⟨(lw_in 1048 (by decide +kernel) rfl), (lw_in 1050 (by decide +kernel) rfl), (lw_inP 37 (by decide +kernel) rfl), ok_Mo_fits⟩
theorem k_Mo_105 : CLv R_Mo 105 m_Mo_peopleOf 1 := ⟨(lw_in 1052 (by decide +kernel) rfl), (lw_in 1054 (by decide +kernel) rfl), (lw_inP 38 (by decide +kernel) rfl), ok_Mo_peopleOf⟩
theorem k_Mo_112 : CLv R_Mo 112 m_Mo_all 0 := ⟨(lw_in 1056 (by decide +kernel) rfl), (lw_in 1058 (by decide +kernel) rfl), (lw_inP 39 (by decide +kernel) rfl), ok_Mo_all⟩
theorem v_Mo_116 : Cond.constantLong R_Mo 116 (1000 : Int64) ∈ lw_g := (lw_in 1060 (by decide +kernel) rfl)
theorem k_Mo_136 : CLv R_Mo 136 m_Mo_isCut 1 := ⟨(lw_in 1061 (by decide +kernel) rfl), (lw_in 1063 (by decide +kernel) rfl), (lw_inP 40 (by decide +kernel) rfl), ok_Mo_isCut⟩
theorem k_L_61 : CLv R_L 61 m_Mo_why 1 := ⟨(lw_in 1065 (by decide +kernel) rfl), (lw_in 1066 (by decide +kernel) rfl), (lw_in 1067 (by decide +kernel) rfl), ok_Mo_why⟩
theorem k_L_48 : CLv R_L 48 m_Mo_put 2 := ⟨(lw_in 1069 (by decide +kernel) rfl), (lw_in 1070 (by decide +kernel) rfl), (lw_in 1071 (by decide +kernel) rfl), ok_Mo_put⟩
theorem k_L_52 : CLv R_L 52 m_Mo_at 1 := ⟨(lw_in 1073 (by decide +kernel) rfl), (lw_in 1074 (by decide +kernel) rfl), (lw_in 1075 (by decide +kernel) rfl), ok_Mo_at⟩
theorem k_L_65 : CLv R_L 65 m_Mo_measure 1 := ⟨(lw_in 1077 (by decide +kernel) rfl), (lw_in 1078 (by decide +kernel) rfl), (lw_in 1079 (by decide +kernel) rfl), ok_Mo_measure⟩
theorem k_Mo_150 : CLv R_Mo 150 m_Mo_value 1 := ⟨(lw_in 1081 (by decide +kernel) rfl), (lw_in 1083 (by decide +kernel) rfl), (lw_inP 41 (by decide +kernel) rfl), ok_Mo_value⟩
theorem v_Mo_145 : Cond.constant R_Mo 145 (2147483647 : Int32) ∈ lw_g := (lw_in 1085 (by decide +kernel) rfl)
theorem k_Mo_146 : CLv R_Mo 146 m_Mo_votesOf 2 := ⟨(lw_in 1086 (by decide +kernel) rfl), (lw_in 1088 (by decide +kernel) rfl), (lw_inP 42 (by decide +kernel) rfl), ok_Mo_votesOf⟩
theorem k_L_69 : CLv R_L 69 m_Mo_district 2 := ⟨(lw_in 1090 (by decide +kernel) rfl), (lw_in 1091 (by decide +kernel) rfl), (lw_in 1092 (by decide +kernel) rfl), ok_Mo_district⟩
theorem k_L_73 : CLv R_L 73 m_Mo_land 1 := ⟨(lw_in 1094 (by decide +kernel) rfl), (lw_in 1095 (by decide +kernel) rfl), (lw_in 1096 (by decide +kernel) rfl), ok_Mo_land⟩
theorem k_L_77 : CLv R_L 77 m_Mo_count 0 := ⟨(lw_in 1098 (by decide +kernel) rfl), (lw_in 1099 (by decide +kernel) rfl), (lw_in 1100 (by decide +kernel) rfl), ok_Mo_count⟩
theorem k_Mo_182 : CLv R_Mo 182 m_Mo_size 0 := ⟨(lw_in 1102 (by decide +kernel) rfl), (lw_in 1104 (by decide +kernel) rfl), (lw_inP 43 (by decide +kernel) rfl), ok_Mo_size⟩
theorem k_Mo_185 : CLv R_Mo 185 m_Mo_goThrough 2 := ⟨(lw_in 1106 (by decide +kernel) rfl), (lw_in 1108 (by decide +kernel) rfl), (lw_inP 44 (by decide +kernel) rfl), ok_Mo_goThrough⟩
theorem k_Mo_160 : CLv R_Mo 160 m_Mo_part 2 := ⟨(lw_in 1110 (by decide +kernel) rfl), (lw_in 1112 (by decide +kernel) rfl), (lw_inP 45 (by decide +kernel) rfl), ok_Mo_part⟩
theorem k_Mo_153 : CLv R_Mo 153 m_Mo_whole 0 := ⟨(lw_in 1114 (by decide +kernel) rfl), (lw_in 1116 (by decide +kernel) rfl), (lw_inP 46 (by decide +kernel) rfl), ok_Mo_whole⟩
theorem k_Mo_156 : CLv R_Mo 156 m_Mo_grow 4 := ⟨(lw_in 1118 (by decide +kernel) rfl), (lw_in 1120 (by decide +kernel) rfl), (lw_inP 47 (by decide +kernel) rfl), ok_Mo_grow⟩
theorem k_L_81 : CLv R_L 81 m_Mo_kth 1 := ⟨(lw_in 1122 (by decide +kernel) rfl), (lw_in 1123 (by decide +kernel) rfl), (lw_in 1124 (by decide +kernel) rfl), ok_Mo_kth⟩
theorem k_Mo_188 : CLv R_Mo 188 m_Mo_isClass 1 := ⟨(lw_in 1126 (by decide +kernel) rfl), (lw_in 1128 (by decide +kernel) rfl), (lw_inP 48 (by decide +kernel) rfl), ok_Mo_isClass⟩
theorem k_L_85 : CLv R_L 85 m_Mo_which 0 := ⟨(lw_in 1130 (by decide +kernel) rfl), (lw_in 1131 (by decide +kernel) rfl), (lw_in 1132 (by decide +kernel) rfl), ok_Mo_which⟩
theorem k_L_89 : CLv R_L 89 m_Mo_same 1 := ⟨(lw_in 1134 (by decide +kernel) rfl), (lw_in 1135 (by decide +kernel) rfl), (lw_in 1136 (by decide +kernel) rfl), ok_Mo_same⟩
theorem k_L_93 : CLv R_L 93 m_Mo_least 1 := ⟨(lw_in 1138 (by decide +kernel) rfl), (lw_in 1139 (by decide +kernel) rfl), (lw_in 1140 (by decide +kernel) rfl), ok_Mo_least⟩
theorem v_Mo_191 : Cond.constant R_Mo 191 (-2000000 : Int32) ∈ lw_g := (lw_in 1142 (by decide +kernel) rfl)
theorem k_L_97 : CLv R_L 97 m_Mo_among 2 := ⟨(lw_in 1143 (by decide +kernel) rfl), (lw_in 1144 (by decide +kernel) rfl), (lw_in 1145 (by decide +kernel) rfl), ok_Mo_among⟩
theorem k_L_101 : CLv R_L 101 m_Mo_step 1 := ⟨(lw_in 1147 (by decide +kernel) rfl), (lw_in 1148 (by decide +kernel) rfl), (lw_in 1149 (by decide +kernel) rfl), ok_Mo_step⟩
theorem k_Mo_209 : CLv R_Mo 209 m_Mo_stepOn 0 := ⟨(lw_in 1151 (by decide +kernel) rfl), (lw_in 1153 (by decide +kernel) rfl), (lw_inP 49 (by decide +kernel) rfl), ok_Mo_stepOn⟩
theorem k_Mo_199 : CLv R_Mo 199 m_Mo_between 1 := ⟨(lw_in 1155 (by decide +kernel) rfl), (lw_in 1157 (by decide +kernel) rfl), (lw_inP 50 (by decide +kernel) rfl), ok_Mo_between⟩
theorem k_Mo_196 : CLv R_Mo 196 m_Mo_draw 0 := ⟨(lw_in 1159 (by decide +kernel) rfl), (lw_in 1161 (by decide +kernel) rfl), (lw_inP 51 (by decide +kernel) rfl), ok_Mo_draw⟩
theorem v_Mo_195 : Cond.constant R_Mo 195 (1103515245 : Int32) ∈ lw_g := (lw_in 1163 (by decide +kernel) rfl)
theorem k_Mo_202 : CLv R_Mo 202 m_Mo_plant 1 := ⟨(lw_in 1164 (by decide +kernel) rfl), (lw_in 1166 (by decide +kernel) rfl), (lw_inP 52 (by decide +kernel) rfl), ok_Mo_plant⟩
theorem k_Mo_205 : CLv R_Mo 205 m_Mo_sideOf 3 := ⟨(lw_in 1168 (by decide +kernel) rfl), (lw_in 1170 (by decide +kernel) rfl), (lw_inP 53 (by decide +kernel) rfl), ok_Mo_sideOf⟩
theorem k_L_105 : CLv R_L 105 m_Mo_walk 3 := ⟨(lw_in 1172 (by decide +kernel) rfl), (lw_in 1173 (by decide +kernel) rfl), (lw_in 1174 (by decide +kernel) rfl), ok_Mo_walk⟩
theorem k_L_109 : CLv R_L 109 m_Mo_seen 1 := ⟨(lw_in 1176 (by decide +kernel) rfl), (lw_in 1177 (by decide +kernel) rfl), (lw_in 1178 (by decide +kernel) rfl), ok_Mo_seen⟩
theorem k_L_113 : CLv R_L 113 m_Mo_better 0 := ⟨(lw_in 1180 (by decide +kernel) rfl), (lw_in 1181 (by decide +kernel) rfl), (lw_in 1182 (by decide +kernel) rfl), ok_Mo_better⟩
theorem k_Mo_217 : CLv R_Mo 217 m_Mo_betters 0 := ⟨(lw_in 1184 (by decide +kernel) rfl), (lw_in 1186 (by decide +kernel) rfl), (lw_inP 54 (by decide +kernel) rfl), ok_Mo_betters⟩
theorem k_L_117 : CLv R_L 117 m_Mo_mend 1 := ⟨(lw_in 1188 (by decide +kernel) rfl), (lw_in 1189 (by decide +kernel) rfl), (lw_in 1190 (by decide +kernel) rfl), ok_Mo_mend⟩
theorem k_Mo_229 : CLv R_Mo 229 m_Mo_move 4 := ⟨(lw_in 1192 (by decide +kernel) rfl), (lw_in 1194 (by decide +kernel) rfl), (lw_inP 55 (by decide +kernel) rfl), ok_Mo_move⟩
theorem k_Mo_226 : CLv R_Mo 226 m_Mo_offer 2 := ⟨(lw_in 1196 (by decide +kernel) rfl), (lw_in 1198 (by decide +kernel) rfl), (lw_inP 56 (by decide +kernel) rfl), ok_Mo_offer⟩
end
section
/-- the cells of a run, by their labels: an array (boolean?, length) or an object (its class, its references) -/
abbrev Sh : Type := (Bool × Nat) ⊕ (Nat × List (Option Nat))
def shp : List Sh := [
  .inr (10, [some 1, some 11, some 14, some 17, some 18, some 20, some 26, some 34, some 35]),
  .inr (3, [none, none, none, some 2, some 3, some 4, some 5, some 6, some 7, some 8, some 9, some 10]),
  .inl (false, 30),
  .inl (false, 30),
  .inl (false, 30),
  .inl (false, 30),
  .inl (false, 30),
  .inl (false, 10),
  .inl (false, 100),
  .inl (false, 100),
  .inl (false, 100),
  .inr (4, [none, none, none, some 12, some 13]),
  .inl (true, 10),
  .inl (false, 30),
  .inr (6, [some 15, some 16]),
  .inl (false, 30),
  .inl (false, 6),
  .inr (1, [some 1, some 11]),
  .inr (7, [some 19, some 1, some 11]),
  .inl (false, 6),
  .inr (0, [none, some 21, some 1, some 11, some 17, some 18, some 22, some 23, some 24, some 25, none, none, none, none, none, none]),
  .inl (false, 3),
  .inl (false, 6),
  .inl (false, 0),
  .inl (false, 0),
  .inl (false, 0),
  .inr (9, [none, none, some 27, some 1, some 17, some 18, some 31, some 28, some 29, some 30]),
  .inl (false, 6),
  .inl (false, 30),
  .inl (false, 30),
  .inl (false, 100),
  .inr (6, [some 32, some 33]),
  .inl (false, 30),
  .inl (false, 6),
  .inr (2, [some 1, some 11, some 17]),
  .inr (5, [some 1, some 11, some 17, some 36, some 39, none, none]),
  .inr (6, [some 37, some 38]),
  .inl (false, 30),
  .inl (false, 6),
  .inr (6, [some 40, some 41]),
  .inl (false, 30),
  .inl (false, 6),
  .inr (11, [some 43, some 44, some 45, some 46, none, some 47, some 48, some 49, none, some 50, none, none, some 51, none, some 52, some 53, none, none, none, none, some 54, some 55, some 56, some 57, some 58, some 59, some 60, none, some 61, some 62, none, none, none, none, none, some 63, none, some 64, none, none]),
  .inl (false, 30),
  .inl (false, 60),
  .inl (false, 30),
  .inl (false, 30),
  .inl (false, 100),
  .inl (false, 100),
  .inl (false, 100),
  .inl (false, 30),
  .inl (true, 10),
  .inl (false, 30),
  .inl (false, 30),
  .inl (false, 100),
  .inl (false, 30),
  .inl (false, 30),
  .inl (false, 30),
  .inl (false, 30),
  .inl (false, 30),
  .inl (false, 6),
  .inl (false, 6),
  .inl (false, 6),
  .inl (false, 3),
  .inl (false, 6)]
end
section
/-! THE BASE: a run's cells are fixed (shp); the state is a function of (cell, slot); V is the walk of a method's body over such states, Cq a method's contract -/
abbrev Hp : Type := Nat → Nat → Int32
abbrev Wd : Type := Launch × (Nat → Nat) × ClassId × ClassId × va_G
/-! worlds -/
def cvv (ad : Nat → Nat) : Value → Value
  | .ref k => .ref (ad k)
  | v => v
theorem cvv_cat (ad : Nat → Nat) (v : Value) : (cvv ad v).category = v.category := by cases v <;> rfl
def hup (h : Hp) (o i : Nat) (x : Int32) : Hp := fun q => if q = o then upd (h o) i x else h q
def hrow (h : Hp) (o : Nat) (f : Nat → Int32) : Hp := fun q => if q = o then f else h q
theorem hup_row (h : Hp) (o i : Nat) (x : Int32) : hup h o i x = hrow h o (upd (h o) i x) := rfl
theorem hrow_same (h : Hp) (o : Nat) (f : Nat → Int32) : hrow h o f o = f := by simp [hrow]
theorem hrow_ne {h : Hp} {o q : Nat} {f : Nat → Int32} (hq : q ≠ o) : hrow h o f q = h q := by simp [hrow, hq]
theorem hrow_self (h : Hp) (o : Nat) : hrow h o (h o) = h := by
  funext q
  by_cases hq : q = o
  · subst hq; exact hrow_same _ _ _
  · exact hrow_ne hq
theorem hrow_twice (h : Hp) (o : Nat) (f g : Nat → Int32) : hrow (hrow h o f) o g = hrow h o g := by
  funext q
  by_cases hq : q = o
  · subst hq; rw [hrow_same, hrow_same]
  · rw [hrow_ne hq, hrow_ne hq, hrow_ne hq]
theorem hrow_comm (h : Hp) {o p : Nat} (hne : o ≠ p) (f g : Nat → Int32) : hrow (hrow h o f) p g = hrow (hrow h p g) o f := by
  funext q
  by_cases hq : q = o
  · subst hq; rw [hrow_ne hne, hrow_same, hrow_same]
  · rw [hrow_ne hq]
    by_cases hp : q = p
    · subst hp; rw [hrow_same, hrow_same]
    · rw [hrow_ne hp, hrow_ne hp, hrow_ne hq]
def wfl (ad : Nat → Nat) (f : Nat → Int32) (rs : List (Option Nat)) : List Value := rs.mapIdx fun k r => match r with
  | some q => Value.ref (ad q)
  | none => Value.int (f k)
def wce (E : Wd) (h : Hp) (o : Nat) (e : Sh) : Nat × va_E := (E.2.1 o, match e with
  | .inl (z, n) => .inl (if z then E.2.2.2.1 else E.2.2.1, n, .inl (h o))
  | .inr (ci, rs) => .inr (ci, wfl E.2.1 (h o) rs))
def wld (E : Wd) (h : Hp) : va_W := shp.mapIdx fun o e => wce E h o e
abbrev wty (E : Wd) : List (ClassId × FieldType) := [(E.2.2.1, .int), (E.2.2.2.1, .boolean)]
theorem wld_at {E : Wd} {h : Hp} {o : Nat} {e : Sh} (he : shp[o]? = some e) : (wld E h)[o]? = some (wce E h o e) := by
  simp [wld, he]
theorem wld_lt {o : Nat} {e : Sh} (he : shp[o]? = some e) : o < shp.length := (List.getElem?_eq_some_iff.mp he).1
theorem wld_setA {E : Wd} {h : Hp} {o n : Nat} {z : Bool} (he : shp[o]? = some (.inl (z, n))) (f : Nat → Int32) : (wld E h).set o (E.2.1 o, .inl (if z then E.2.2.2.1 else E.2.2.1, n, .inl f)) = wld E (hrow h o f) := by
  apply List.ext_getElem?
  intro j
  rw [List.getElem?_set]
  by_cases hj : o = j
  · subst hj
    rw [if_pos rfl, wld_at he, if_pos (by simp [wld]; exact wld_lt he)]
    simp [wce, hrow]
  · rw [if_neg hj]
    simp only [wld, List.getElem?_mapIdx]
    cases hs : shp[j]? with
    | none => rfl
    | some e => simp [wce, hrow, Ne.symm hj]
theorem wfl_set {ad : Nat → Nat} {f : Nat → Int32} {rs : List (Option Nat)} {k : Nat} (hk : rs[k]? = some none) (x : Int32) : (wfl ad f rs).set k (.int x) = wfl ad (upd f k x) rs := by
  apply List.ext_getElem?
  intro j
  rw [List.getElem?_set]
  by_cases hj : k = j
  · subst hj
    have hlt := (List.getElem?_eq_some_iff.mp hk).1
    rw [if_pos rfl, if_pos (by simp [wfl]; exact hlt)]
    simp [wfl, hk, upd]
  · rw [if_neg hj]
    simp only [wfl, List.getElem?_mapIdx]
    cases hs : rs[j]? with
    | none => rfl
    | some e => cases e <;> simp [upd, Ne.symm hj]
theorem wld_setF {E : Wd} {h : Hp} {o ci k : Nat} {rs : List (Option Nat)} (he : shp[o]? = some (.inr (ci, rs))) (hk : rs[k]? = some none) (x : Int32) : (wld E h).set o (E.2.1 o, .inr (ci, (wfl E.2.1 (h o) rs).set k (.int x))) = wld E (hup h o k x) := by
  rw [wfl_set hk]
  apply List.ext_getElem?
  intro j
  rw [List.getElem?_set]
  by_cases hj : o = j
  · subst hj
    rw [if_pos rfl, wld_at he, if_pos (by simp [wld]; exact wld_lt he)]
    simp [wce, hup]
  · rw [if_neg hj]
    simp only [wld, List.getElem?_mapIdx]
    cases hs : shp[j]? with
    | none => rfl
    | some e => simp [wce, hup, Ne.symm hj]
/-! locals -/
def lvh (ad : Nat → Nat) (ls : Array Slot) (n : Nat) (L : List (Option Value)) : Prop := ls.size = n ∧ lv_wf ls ∧ ∀ (i : Nat) (v : Value), L[i]? = some (some v) → v.category = 1 ∧ ls[i]? = some (.val (cvv ad v))
def lst (ad : Nat → Nat) (L : List (Option Value)) : List (Nat × Value) := (L.mapIdx fun i o => o.map fun v => (i, cvv ad v)).filterMap id
theorem lst_mem {ad : Nat → Nat} {L : List (Option Value)} {q : Nat × Value} : q ∈ lst ad L ↔ ∃ v, L[q.1]? = some (some v) ∧ q.2 = cvv ad v := by
  unfold lst
  rw [List.mem_filterMap]
  constructor
  · rintro ⟨a, ha, rfl⟩
    obtain ⟨i, hi⟩ := List.getElem?_of_mem ha
    rw [List.getElem?_mapIdx] at hi
    cases hL : L[i]? with
    | none => rw [hL] at hi; cases hi
    | some o =>
      rw [hL] at hi
      cases o with
      | none => simp at hi
      | some v =>
        simp at hi
        subst hi
        exact ⟨v, hL, rfl⟩
  · rintro ⟨v, h1, h2⟩
    obtain ⟨i, w⟩ := q
    subst h2
    refine ⟨some (i, cvv ad v), ?_, rfl⟩
    have h3 : (L.mapIdx fun i o => o.map fun v => (i, cvv ad v))[i]? = some (some (i, cvv ad v)) := by
      rw [List.getElem?_mapIdx, h1]; rfl
    exact List.mem_of_getElem? h3
theorem lvh.has {ad : Nat → Nat} {ls : Array Slot} {n : Nat} {L : List (Option Value)} (h : lvh ad ls n L) : lv_has ls n (lst ad L) := by
  refine ⟨h.1, h.2.1, fun q hq => ?_⟩
  obtain ⟨v, h1, h2⟩ := lst_mem.mp hq
  rw [h2]
  exact (h.2.2 _ _ h1).2
theorem lvh.set {ad : Nat → Nat} {ls ls' : Array Slot} {n i : Nat} {L : List (Option Value)} {v : Value} (h : lvh ad ls n L) (hc : v.category = 1)
    (h' : lv_has ls' n ((i, cvv ad v) :: (lst ad L).filter (fun q => !(q.1 == i) && !(q.1 + 1 == i && q.2.category == 2)))) : lvh ad ls' n (L.set i (some v)) := by
  refine ⟨h'.1, h'.2.1, fun j w hj => ?_⟩
  rw [List.getElem?_set] at hj
  by_cases hij : i = j
  · subst hij
    rw [if_pos rfl] at hj
    by_cases hl : i < L.length
    · rw [if_pos hl] at hj
      simp at hj
      subst hj
      exact ⟨hc, h'.2.2 (i, cvv ad v) List.mem_cons_self⟩
    · rw [if_neg hl] at hj; cases hj
  · rw [if_neg hij] at hj
    have hw := (h.2.2 j w hj).1
    refine ⟨hw, h'.2.2 (j, cvv ad w) (List.mem_cons_of_mem _ (List.mem_filter.mpr ⟨lst_mem.mpr ⟨w, hj, rfl⟩, ?_⟩))⟩
    have : (cvv ad w).category = 1 := by rw [cvv_cat]; exact hw
    simp [Ne.symm hij, this]
/-! the walk -/
def rmd (d : Nat) : Room := { frames := d, cells := 0, slots := 0, locals := 64 * d }
def Ctx (E : Wd) (mt : Mt) (p : Program) (s : State) (m : MethodId) (args : Array Value) (meth : Method) (c : Code) : Prop :=
  p.tables.exec = Jvm.exec ∧ c.code = mt.2.1 ∧ c.maxLocals = mt.2.2.1 ∧ meth.sig.returnType = mt.2.2.2 ∧ s.vm.findClass mt.1.cls = some m.cls ∧ (∀ w ∈ lw_g, w.before args s = true) ∧ meth.locks = false ∧ va_K E.2.2.2.2 vcl (wty E) s ∧ Nst s
def Qend (E : Wd) (A : Nat → Prop) (Q : Option Value → Hp → Prop) : Array Value → State → Outcome → State → Prop := fun _ st oc t =>
  (∃ (v : Option Value) (h' : Hp), oc = .returned (v.map (cvv E.2.1)) ∧ Q v h' ∧ va_P E.2.2.2.2 vcl (wld E h') t.heap ∧ va_K E.2.2.2.2 vcl (wty E) t ∧ va_D A (wld E h')) ∧ va_F A st t
def V (E : Wd) (d : Nat) (mt : Mt) (Q : Option Value → Hp → Prop) (pc : Nat) (L : List (Option Value)) (st : List Value) (h : Hp) : Prop :=
  ∀ (p : Program) (e : Env) (s : State) (m : MethodId) (args : Array Value) (below : List Frame) (meth : Method) (c : Code) (A : Nat → Prop), Ctx E mt p s m args meth c → (∀ q, s.heap.size ≤ q → A q) →
    ∀ (H : Heap) (locs : List Loc), va_P E.2.2.2.2 vcl (wld E h) H → va_D A (wld E h) → va_S A s.heap H locs → ∀ ls : Array Slot, lvh E.2.1 ls mt.2.2.1 L →
      W p E.1 e (rmd d) s m args below meth c H locs 0 0 (MQ below (Qend E A Q) args s 0 0 A) (F0 m pc ls (st.map (cvv E.2.1)))
def Cq (E : Wd) (d : Nat) (mt : Mt) (args : List Value) (h : Hp) (Q : Option Value → Hp → Prop) : Prop :=
  ∀ sz : Nat, Met E.1 mt.1 (.code mt.1 mt.2.1 mt.2.2.1 mt.2.2.2 :: lw_g) (rmd d)
    (va_Pc (args.map (cvv E.2.1)) (fun U => U.heap.size = sz ∧ va_P E.2.2.2.2 vcl (wld E h) U.heap ∧ va_K E.2.2.2.2 vcl (wty E) U ∧ va_D (fun _ => True) (wld E h) ∧ Nst U))
    (Qend E (va_A (wld E h) sz) Q) 0 0 (va_A (wld E h) sz)
theorem lvh_entry (ad : Nat → Nat) (vs : List Value) (hv : vs.all (fun v => v.category == 1) = true) {n : Nat} (hn : vs.length ≤ n) :
    lvh ad ((lg_sl (vs.map (cvv ad)) ++ List.replicate (n - (lg_sl (vs.map (cvv ad))).length) Slot.unset).toArray) n (vs.map some ++ List.replicate (n - vs.length) none) := by
  have hcat : ∀ v ∈ vs, v.category = 1 := fun v h => by simpa using List.all_eq_true.mp hv v h
  have hlen : (lg_sl (vs.map (cvv ad))).length = vs.length := by
    clear hn hv
    induction vs with
    | nil => rfl
    | cons v vs ih =>
      have h1 := hcat v List.mem_cons_self
      have ih := ih (fun w hw => hcat w (List.mem_cons_of_mem _ hw))
      simp only [lg_sl, List.map_cons, List.flatMap_cons, List.length_append] at ih ⊢
      rw [if_neg (by rw [cvv_cat, h1]; decide)]
      simp only [List.length_cons, List.length_nil]
      omega
  have he := lv_entry (vs.map (cvv ad)) (n := n) (by rw [hlen]; exact hn)
  refine ⟨he.1, he.2.1, fun i v hi => ?_⟩
  have hi2 : vs[i]? = some v := by
    by_cases hl : i < vs.length
    · rw [List.getElem?_append_left (by simpa using hl)] at hi
      rw [List.getElem?_map] at hi
      cases hq : vs[i]? with
      | none => rw [hq] at hi; cases hi
      | some w => rw [hq] at hi; simp at hi; rw [hi]
    · rw [List.getElem?_append_right (by simp; omega)] at hi
      rw [List.getElem?_replicate] at hi
      split at hi <;> simp at hi
  refine ⟨hcat v (List.mem_of_getElem? hi2), he.2.2 (i, cvv ad v) ?_⟩
  have key : ∀ (ws : List Value) (k : Nat), (∀ w ∈ ws, w.category = 1) → ∀ (j : Nat) (w : Value), ws[j]? = some w → (k + j, w) ∈ lv_args k ws := by
    intro ws
    induction ws with
    | nil => intro k _ j w hj; simp at hj
    | cons x xs ih =>
      intro k hc j w hj
      unfold lv_args
      cases j with
      | zero => simp at hj; subst hj; exact List.mem_cons_self
      | succ j =>
        rw [if_neg (by rw [hc x List.mem_cons_self]; decide)]
        have := ih (k + 1) (fun y hy => hc y (List.mem_cons_of_mem _ hy)) j w (by simpa using hj)
        exact List.mem_cons_of_mem _ (by rw [show k + (j + 1) = k + 1 + j by omega]; exact this)
  have := key (vs.map (cvv ad)) 0 (fun w hw => by obtain ⟨v, hv, rfl⟩ := List.mem_map.mp hw; rw [cvv_cat]; exact hcat v hv) i (cvv ad v) (by rw [List.getElem?_map, hi2]; rfl)
  simpa using this
theorem Cq_of {E : Wd} {d n : Nat} {mt : Mt} {args : List Value} {h : Hp} {Q : Option Value → Hp → Prop} (ok : okM mt n) (hv : args.all (fun v => v.category == 1) = true) (hn : args.length ≤ mt.2.2.1)
    (k : V E d mt Q 0 (args.map some ++ List.replicate (mt.2.2.1 - args.length) none) [] h) : Cq E d mt args h Q := by
  intro sz
  refine Met.ofW (cc := mt.2.1) (maxL := mt.2.2.1) (ret := mt.2.2.2) ok.2.2.1 rfl ?_
  intro p e s m args' below meth c s₁ B hml hvv
  obtain ⟨rfl, hsz, hP, hK, hD0, hN⟩ := hvv
  have hts := atoms_spec (ws := .code mt.1 mt.2.1 mt.2.2.1 mt.2.2.2 :: lw_g) B.pre
  have hown : s.vm.findClass mt.1.cls = some m.cls := findClass_of_methodNamed B.named
  subst hsz
  rw [lg_entry_eq]
  exact k p e s m _ below meth c (va_A (wld E h) s.heap.size) ⟨B.exec, B.bytes, hml, B.returns, hown, fun w hw => hts w (List.mem_cons_of_mem _ hw), B.notSynchronized, hK, hN⟩ (fun q hq => Or.inr hq) s.heap [] hP hD0.self va_S.rf _ (lvh_entry E.2.1 args hv hn)
end
section
section Rules
variable {E : Wd} {d : Nat} {mt : Mt} {Q : Option Value → Hp → Prop} {pc : Nat} {L : List (Option Value)} {st : List Value} {h : Hp}
theorem V_iconst {n : Int} {v : Int32} (hd : decode mt.2.1 pc = .ok (.iconst n, 1)) (hv : Int32.ofInt n = v) (k : V E d mt Q (pc + 1) L (.int v :: st) h) : V E d mt Q pc L (st) h := by
  intro p e s m args below meth c A C hA H locs hP hD hS ls hl
  exact lv_iconst C.1 C.2.1 hd hv (k p e s m args below meth c A C hA H locs hP hD hS ls hl)
theorem V_bipush {n : Int} {v : Int32} (hd : decode mt.2.1 pc = .ok (.bipush n, 2)) (hv : (Int8.ofInt n).toInt32 = v) (k : V E d mt Q (pc + 2) L (.int v :: st) h) : V E d mt Q pc L (st) h := by
  intro p e s m args below meth c A C hA H locs hP hD hS ls hl
  exact lv_bipush C.1 C.2.1 hd hv (k p e s m args below meth c A C hA H locs hP hD hS ls hl)
theorem V_sipush {n : Int} {v : Int32} (hd : decode mt.2.1 pc = .ok (.sipush n, 3)) (hv : (Int16.ofInt n).toInt32 = v) (k : V E d mt Q (pc + 3) L (.int v :: st) h) : V E d mt Q pc L (st) h := by
  intro p e s m args below meth c A C hA H locs hP hD hS ls hl
  exact lv_sipush C.1 C.2.1 hd hv (k p e s m args below meth c A C hA H locs hP hD hS ls hl)
theorem V_lconst {n : Fin 2} {v : Int64} (hd : decode mt.2.1 pc = .ok (.lconst n, 1)) (hv : Int64.ofNat (n : Nat) = v) (k : V E d mt Q (pc + 1) L (.long v :: st) h) : V E d mt Q pc L (st) h := by
  intro p e s m args below meth c A C hA H locs hP hD hS ls hl
  exact lv_lconst C.1 C.2.1 hd hv (k p e s m args below meth c A C hA H locs hP hD hS ls hl)
theorem V_iload_n {i : Fin 4} {x : Int32} (hd : decode mt.2.1 pc = .ok (.iload_n i, 1)) (hi : L[(i : Nat)]? = some (some (.int x))) (k : V E d mt Q (pc + 1) L (.int x :: st) h) : V E d mt Q pc L (st) h := by
  intro p e s m args below meth c A C hA H locs hP hD hS ls hl
  exact lv_iload_n C.1 C.2.1 hd rfl (hl.2.2 _ _ hi).2 (k p e s m args below meth c A C hA H locs hP hD hS ls hl)
theorem V_iload {i : Nat} {x : Int32} (hd : decode mt.2.1 pc = .ok (.iload i, 2)) (hi : L[i]? = some (some (.int x))) (k : V E d mt Q (pc + 2) L (.int x :: st) h) : V E d mt Q pc L (st) h := by
  intro p e s m args below meth c A C hA H locs hP hD hS ls hl
  exact lv_iload C.1 C.2.1 hd (hl.2.2 _ _ hi).2 (k p e s m args below meth c A C hA H locs hP hD hS ls hl)
theorem V_aload_n {i : Fin 4} {x : Nat} (hd : decode mt.2.1 pc = .ok (.aload_n i, 1)) (hi : L[(i : Nat)]? = some (some (.ref x))) (k : V E d mt Q (pc + 1) L (.ref x :: st) h) : V E d mt Q pc L (st) h := by
  intro p e s m args below meth c A C hA H locs hP hD hS ls hl
  exact lv_aload_n C.1 C.2.1 hd rfl (hl.2.2 _ _ hi).2 (k p e s m args below meth c A C hA H locs hP hD hS ls hl)
theorem V_aload {i : Nat} {x : Nat} (hd : decode mt.2.1 pc = .ok (.aload i, 2)) (hi : L[i]? = some (some (.ref x))) (k : V E d mt Q (pc + 2) L (.ref x :: st) h) : V E d mt Q pc L (st) h := by
  intro p e s m args below meth c A C hA H locs hP hD hS ls hl
  exact lv_aload C.1 C.2.1 hd (hl.2.2 _ _ hi).2 (k p e s m args below meth c A C hA H locs hP hD hS ls hl)
theorem V_iadd {x y : Int32} (hd : decode mt.2.1 pc = .ok (.iadd, 1))  (k : V E d mt Q (pc + 1) L (.int (x + y) :: st) h) : V E d mt Q pc L (.int y :: .int x :: st) h := by
  intro p e s m args below meth c A C hA H locs hP hD hS ls hl
  exact lv_iadd C.1 C.2.1 hd  (k p e s m args below meth c A C hA H locs hP hD hS ls hl)
theorem V_isub {x y : Int32} (hd : decode mt.2.1 pc = .ok (.isub, 1))  (k : V E d mt Q (pc + 1) L (.int (x - y) :: st) h) : V E d mt Q pc L (.int y :: .int x :: st) h := by
  intro p e s m args below meth c A C hA H locs hP hD hS ls hl
  exact lv_isub C.1 C.2.1 hd  (k p e s m args below meth c A C hA H locs hP hD hS ls hl)
theorem V_imul {x y : Int32} (hd : decode mt.2.1 pc = .ok (.imul, 1))  (k : V E d mt Q (pc + 1) L (.int (x * y) :: st) h) : V E d mt Q pc L (.int y :: .int x :: st) h := by
  intro p e s m args below meth c A C hA H locs hP hD hS ls hl
  exact lv_imul C.1 C.2.1 hd  (k p e s m args below meth c A C hA H locs hP hD hS ls hl)
theorem V_iand {x y : Int32} (hd : decode mt.2.1 pc = .ok (.iand, 1))  (k : V E d mt Q (pc + 1) L (.int (x &&& y) :: st) h) : V E d mt Q pc L (.int y :: .int x :: st) h := by
  intro p e s m args below meth c A C hA H locs hP hD hS ls hl
  exact lv_iand C.1 C.2.1 hd  (k p e s m args below meth c A C hA H locs hP hD hS ls hl)
theorem V_ior {x y : Int32} (hd : decode mt.2.1 pc = .ok (.ior, 1))  (k : V E d mt Q (pc + 1) L (.int (x ||| y) :: st) h) : V E d mt Q pc L (.int y :: .int x :: st) h := by
  intro p e s m args below meth c A C hA H locs hP hD hS ls hl
  exact lv_ior C.1 C.2.1 hd  (k p e s m args below meth c A C hA H locs hP hD hS ls hl)
theorem V_ixor {x y : Int32} (hd : decode mt.2.1 pc = .ok (.ixor, 1))  (k : V E d mt Q (pc + 1) L (.int (x ^^^ y) :: st) h) : V E d mt Q pc L (.int y :: .int x :: st) h := by
  intro p e s m args below meth c A C hA H locs hP hD hS ls hl
  exact lv_ixor C.1 C.2.1 hd  (k p e s m args below meth c A C hA H locs hP hD hS ls hl)
theorem V_ishl {x y : Int32} (hd : decode mt.2.1 pc = .ok (.ishl, 1))  (k : V E d mt Q (pc + 1) L (.int (x <<< (y &&& 31)) :: st) h) : V E d mt Q pc L (.int y :: .int x :: st) h := by
  intro p e s m args below meth c A C hA H locs hP hD hS ls hl
  exact lv_ishl C.1 C.2.1 hd  (k p e s m args below meth c A C hA H locs hP hD hS ls hl)
theorem V_ishr {x y : Int32} (hd : decode mt.2.1 pc = .ok (.ishr, 1))  (k : V E d mt Q (pc + 1) L (.int (x >>> (y &&& 31)) :: st) h) : V E d mt Q pc L (.int y :: .int x :: st) h := by
  intro p e s m args below meth c A C hA H locs hP hD hS ls hl
  exact lv_ishr C.1 C.2.1 hd  (k p e s m args below meth c A C hA H locs hP hD hS ls hl)
theorem V_idiv {x y : Int32} (hd : decode mt.2.1 pc = .ok (.idiv, 1)) (hne : ¬ y = 0) (k : V E d mt Q (pc + 1) L (.int (x / y) :: st) h) : V E d mt Q pc L (.int y :: .int x :: st) h := by
  intro p e s m args below meth c A C hA H locs hP hD hS ls hl
  exact lv_idiv C.1 C.2.1 hd hne (k p e s m args below meth c A C hA H locs hP hD hS ls hl)
theorem V_irem {x y : Int32} (hd : decode mt.2.1 pc = .ok (.irem, 1)) (hne : ¬ y = 0) (k : V E d mt Q (pc + 1) L (.int (x - x / y * y) :: st) h) : V E d mt Q pc L (.int y :: .int x :: st) h := by
  intro p e s m args below meth c A C hA H locs hP hD hS ls hl
  exact lv_irem C.1 C.2.1 hd hne (k p e s m args below meth c A C hA H locs hP hD hS ls hl)
theorem V_ineg {x : Int32} (hd : decode mt.2.1 pc = .ok (.ineg, 1))  (k : V E d mt Q (pc + 1) L (.int (-x) :: st) h) : V E d mt Q pc L (.int x :: st) h := by
  intro p e s m args below meth c A C hA H locs hP hD hS ls hl
  exact lv_ineg C.1 C.2.1 hd  (k p e s m args below meth c A C hA H locs hP hD hS ls hl)
theorem V_iushr {x y v : Int32} (hd : decode mt.2.1 pc = .ok (.iushr, 1)) (hv : (x.toUInt32 >>> (y.toUInt32 &&& Int32.toUInt32 31)).toInt32 = v) (k : V E d mt Q (pc + 1) L (.int v :: st) h) : V E d mt Q pc L (.int y :: .int x :: st) h := by
  intro p e s m args below meth c A C hA H locs hP hD hS ls hl
  exact lv_iushr C.1 C.2.1 hd hv (k p e s m args below meth c A C hA H locs hP hD hS ls hl)
theorem V_i2l {x : Int32} {v : Int64} (hd : decode mt.2.1 pc = .ok (.i2l, 1)) (hv : x.toInt64 = v) (k : V E d mt Q (pc + 1) L (.long v :: st) h) : V E d mt Q pc L (.int x :: st) h := by
  intro p e s m args below meth c A C hA H locs hP hD hS ls hl
  exact lv_i2l C.1 C.2.1 hd hv (k p e s m args below meth c A C hA H locs hP hD hS ls hl)
theorem V_lmul {x y : Int64} (hd : decode mt.2.1 pc = .ok (.lmul, 1))  (k : V E d mt Q (pc + 1) L (.long (x * y) :: st) h) : V E d mt Q pc L (.long y :: .long x :: st) h := by
  intro p e s m args below meth c A C hA H locs hP hD hS ls hl
  exact lv_lmul C.1 C.2.1 hd  (k p e s m args below meth c A C hA H locs hP hD hS ls hl)
theorem V_lcmp {x y : Int64} (hd : decode mt.2.1 pc = .ok (.lcmp, 1))  (k : V E d mt Q (pc + 1) L (.int (lg_cmp x y) :: st) h) : V E d mt Q pc L (.long y :: .long x :: st) h := by
  intro p e s m args below meth c A C hA H locs hP hD hS ls hl
  exact W.lcmp C.1 C.2.1 hd  (k p e s m args below meth c A C hA H locs hP hD hS ls hl)
theorem V_dup {v : Value} (hd : decode mt.2.1 pc = .ok (.dup, 1)) (hc : v.category = 1) (k : V E d mt Q (pc + 1) L (v :: v :: st) h) : V E d mt Q pc L (v :: st) h := by
  intro p e s m args below meth c A C hA H locs hP hD hS ls hl
  exact lv_dup C.1 C.2.1 hd (by rw [cvv_cat]; exact hc) (k p e s m args below meth c A C hA H locs hP hD hS ls hl)
theorem V_pop {v : Value} (hd : decode mt.2.1 pc = .ok (.pop, 1)) (hc : v.category = 1) (k : V E d mt Q (pc + 1) L st h) : V E d mt Q pc L (v :: st) h := by
  intro p e s m args below meth c A C hA H locs hP hD hS ls hl
  exact lv_pop C.1 C.2.1 hd (by rw [cvv_cat]; exact hc) (k p e s m args below meth c A C hA H locs hP hD hS ls hl)
theorem V_dup2 {v w : Value} (hd : decode mt.2.1 pc = .ok (.dup2, 1)) (hc : v.category = 1) (hc2 : w.category = 1) (k : V E d mt Q (pc + 1) L (v :: w :: v :: w :: st) h) : V E d mt Q pc L (v :: w :: st) h := by
  intro p e s m args below meth c A C hA H locs hP hD hS ls hl
  exact lv_dup2_11 C.1 C.2.1 hd (by rw [cvv_cat]; exact hc) (by rw [cvv_cat]; exact hc2) (k p e s m args below meth c A C hA H locs hP hD hS ls hl)
theorem V_istore_n {i : Fin 4} {x : Int32} (hd : decode mt.2.1 pc = .ok (.istore_n i, 1)) (hn : (i : Nat) < mt.2.2.1) (k : V E d mt Q (pc + 1) (L.set (i : Nat) (some (.int x))) st h) : V E d mt Q pc L (.int x :: st) h := by
  intro p e s m args below meth c A C hA H locs hP hD hS ls hl
  exact lv_istore_n C.1 C.2.1 hd rfl hl.has hn rfl (fun ls' h' => k p e s m args below meth c A C hA H locs hP hD hS ls' (hl.set (v := .int x) rfl h'))
theorem V_istore {i : Nat} {x : Int32} (hd : decode mt.2.1 pc = .ok (.istore i, 2)) (hn : i < mt.2.2.1) (k : V E d mt Q (pc + 2) (L.set i (some (.int x))) st h) : V E d mt Q pc L (.int x :: st) h := by
  intro p e s m args below meth c A C hA H locs hP hD hS ls hl
  exact lv_istore C.1 C.2.1 hd hl.has hn rfl (fun ls' h' => k p e s m args below meth c A C hA H locs hP hD hS ls' (hl.set (v := .int x) rfl h'))
theorem V_astore_n {i : Fin 4} {x : Nat} (hd : decode mt.2.1 pc = .ok (.astore_n i, 1)) (hn : (i : Nat) < mt.2.2.1) (k : V E d mt Q (pc + 1) (L.set (i : Nat) (some (.ref x))) st h) : V E d mt Q pc L (.ref x :: st) h := by
  intro p e s m args below meth c A C hA H locs hP hD hS ls hl
  exact lv_astore_n C.1 C.2.1 hd rfl hl.has hn rfl (fun ls' h' => k p e s m args below meth c A C hA H locs hP hD hS ls' (hl.set (v := .ref x) rfl h'))
theorem V_astore {i : Nat} {x : Nat} (hd : decode mt.2.1 pc = .ok (.astore i, 2)) (hn : i < mt.2.2.1) (k : V E d mt Q (pc + 2) (L.set i (some (.ref x))) st h) : V E d mt Q pc L (.ref x :: st) h := by
  intro p e s m args below meth c A C hA H locs hP hD hS ls hl
  exact lv_astore C.1 C.2.1 hd hl.has hn rfl (fun ls' h' => k p e s m args below meth c A C hA H locs hP hD hS ls' (hl.set (v := .ref x) rfl h'))
theorem V_iinc {i : Nat} {n : Int} {x v : Int32} (hd : decode mt.2.1 pc = .ok (.iinc i n, 3)) (hi : L[i]? = some (some (.int x))) (hv : x + Int32.ofInt n = v) (hn : i < mt.2.2.1) (k : V E d mt Q (pc + 3) (L.set i (some (.int v))) st h) : V E d mt Q pc L st h := by
  intro p e s m args below meth c A C hA H locs hP hD hS ls hl
  obtain ⟨j, hj⟩ := List.getElem?_of_mem (lst_mem.mpr ⟨_, hi, rfl⟩ : (i, cvv E.2.1 (.int x)) ∈ lst E.2.1 L)
  exact lv_iinc C.1 C.2.1 hd hl.has hj hv hn rfl (fun ls' h' => k p e s m args below meth c A C hA H locs hP hD hS ls' (hl.set (v := .int v) rfl h'))
theorem V_goto {off : Int} {tgt : Nat} (hd : decode mt.2.1 pc = .ok (.goto off, 3)) (ht : (pc : Int) + off = (tgt : Int)) (k : V E d mt Q tgt L st h) : V E d mt Q pc L st h := by
  intro p e s m args below meth c A C hA H locs hP hD hS ls hl
  exact lv_goto C.1 C.2.1 hd ht (k p e s m args below meth c A C hA H locs hP hD hS ls hl)
theorem V_if_eq {x : Int32} {off : Int} {tgt : Nat} (hd : decode mt.2.1 pc = .ok (.ifCond .eq off, 3)) (ht : (pc : Int) + off = (tgt : Int)) (kt : x = 0 → V E d mt Q tgt L st h) (kf : ¬ (x = 0) → V E d mt Q (pc + 3) L st h) : V E d mt Q pc L (.int x :: st) h := by
  intro p e s m args below meth c A C hA H locs hP hD hS ls hl
  exact lv_if_eq C.1 C.2.1 hd ht (fun q => kt q p e s m args below meth c A C hA H locs hP hD hS ls hl) (fun q => kf q p e s m args below meth c A C hA H locs hP hD hS ls hl)
theorem V_icmp_eq {x y : Int32} {off : Int} {tgt : Nat} (hd : decode mt.2.1 pc = .ok (.if_icmp .eq off, 3)) (ht : (pc : Int) + off = (tgt : Int)) (kt : x = y → V E d mt Q tgt L st h) (kf : ¬ (x = y) → V E d mt Q (pc + 3) L st h) : V E d mt Q pc L (.int y :: .int x :: st) h := by
  intro p e s m args below meth c A C hA H locs hP hD hS ls hl
  exact lv_icmp_eq C.1 C.2.1 hd ht (fun q => kt q p e s m args below meth c A C hA H locs hP hD hS ls hl) (fun q => kf q p e s m args below meth c A C hA H locs hP hD hS ls hl)
theorem V_if_ne {x : Int32} {off : Int} {tgt : Nat} (hd : decode mt.2.1 pc = .ok (.ifCond .ne off, 3)) (ht : (pc : Int) + off = (tgt : Int)) (kt : ¬ x = 0 → V E d mt Q tgt L st h) (kf : x = 0 → V E d mt Q (pc + 3) L st h) : V E d mt Q pc L (.int x :: st) h := by
  intro p e s m args below meth c A C hA H locs hP hD hS ls hl
  exact lv_if_ne C.1 C.2.1 hd ht (fun q => kt q p e s m args below meth c A C hA H locs hP hD hS ls hl) (fun q => kf q p e s m args below meth c A C hA H locs hP hD hS ls hl)
theorem V_icmp_ne {x y : Int32} {off : Int} {tgt : Nat} (hd : decode mt.2.1 pc = .ok (.if_icmp .ne off, 3)) (ht : (pc : Int) + off = (tgt : Int)) (kt : ¬ x = y → V E d mt Q tgt L st h) (kf : x = y → V E d mt Q (pc + 3) L st h) : V E d mt Q pc L (.int y :: .int x :: st) h := by
  intro p e s m args below meth c A C hA H locs hP hD hS ls hl
  exact lv_icmp_ne C.1 C.2.1 hd ht (fun q => kt q p e s m args below meth c A C hA H locs hP hD hS ls hl) (fun q => kf q p e s m args below meth c A C hA H locs hP hD hS ls hl)
theorem V_if_lt {x : Int32} {off : Int} {tgt : Nat} (hd : decode mt.2.1 pc = .ok (.ifCond .lt off, 3)) (ht : (pc : Int) + off = (tgt : Int)) (kt : x < 0 → V E d mt Q tgt L st h) (kf : ¬ (x < 0) → V E d mt Q (pc + 3) L st h) : V E d mt Q pc L (.int x :: st) h := by
  intro p e s m args below meth c A C hA H locs hP hD hS ls hl
  exact lv_if_lt C.1 C.2.1 hd ht (fun q => kt q p e s m args below meth c A C hA H locs hP hD hS ls hl) (fun q => kf q p e s m args below meth c A C hA H locs hP hD hS ls hl)
theorem V_icmp_lt {x y : Int32} {off : Int} {tgt : Nat} (hd : decode mt.2.1 pc = .ok (.if_icmp .lt off, 3)) (ht : (pc : Int) + off = (tgt : Int)) (kt : x < y → V E d mt Q tgt L st h) (kf : ¬ (x < y) → V E d mt Q (pc + 3) L st h) : V E d mt Q pc L (.int y :: .int x :: st) h := by
  intro p e s m args below meth c A C hA H locs hP hD hS ls hl
  exact lv_icmp_lt C.1 C.2.1 hd ht (fun q => kt q p e s m args below meth c A C hA H locs hP hD hS ls hl) (fun q => kf q p e s m args below meth c A C hA H locs hP hD hS ls hl)
theorem V_if_ge {x : Int32} {off : Int} {tgt : Nat} (hd : decode mt.2.1 pc = .ok (.ifCond .ge off, 3)) (ht : (pc : Int) + off = (tgt : Int)) (kt : 0 ≤ x → V E d mt Q tgt L st h) (kf : ¬ (0 ≤ x) → V E d mt Q (pc + 3) L st h) : V E d mt Q pc L (.int x :: st) h := by
  intro p e s m args below meth c A C hA H locs hP hD hS ls hl
  exact lv_if_ge C.1 C.2.1 hd ht (fun q => kt q p e s m args below meth c A C hA H locs hP hD hS ls hl) (fun q => kf q p e s m args below meth c A C hA H locs hP hD hS ls hl)
theorem V_icmp_ge {x y : Int32} {off : Int} {tgt : Nat} (hd : decode mt.2.1 pc = .ok (.if_icmp .ge off, 3)) (ht : (pc : Int) + off = (tgt : Int)) (kt : y ≤ x → V E d mt Q tgt L st h) (kf : ¬ (y ≤ x) → V E d mt Q (pc + 3) L st h) : V E d mt Q pc L (.int y :: .int x :: st) h := by
  intro p e s m args below meth c A C hA H locs hP hD hS ls hl
  exact lv_icmp_ge C.1 C.2.1 hd ht (fun q => kt q p e s m args below meth c A C hA H locs hP hD hS ls hl) (fun q => kf q p e s m args below meth c A C hA H locs hP hD hS ls hl)
theorem V_if_gt {x : Int32} {off : Int} {tgt : Nat} (hd : decode mt.2.1 pc = .ok (.ifCond .gt off, 3)) (ht : (pc : Int) + off = (tgt : Int)) (kt : 0 < x → V E d mt Q tgt L st h) (kf : ¬ (0 < x) → V E d mt Q (pc + 3) L st h) : V E d mt Q pc L (.int x :: st) h := by
  intro p e s m args below meth c A C hA H locs hP hD hS ls hl
  exact lv_if_gt C.1 C.2.1 hd ht (fun q => kt q p e s m args below meth c A C hA H locs hP hD hS ls hl) (fun q => kf q p e s m args below meth c A C hA H locs hP hD hS ls hl)
theorem V_icmp_gt {x y : Int32} {off : Int} {tgt : Nat} (hd : decode mt.2.1 pc = .ok (.if_icmp .gt off, 3)) (ht : (pc : Int) + off = (tgt : Int)) (kt : y < x → V E d mt Q tgt L st h) (kf : ¬ (y < x) → V E d mt Q (pc + 3) L st h) : V E d mt Q pc L (.int y :: .int x :: st) h := by
  intro p e s m args below meth c A C hA H locs hP hD hS ls hl
  exact lv_icmp_gt C.1 C.2.1 hd ht (fun q => kt q p e s m args below meth c A C hA H locs hP hD hS ls hl) (fun q => kf q p e s m args below meth c A C hA H locs hP hD hS ls hl)
theorem V_if_le {x : Int32} {off : Int} {tgt : Nat} (hd : decode mt.2.1 pc = .ok (.ifCond .le off, 3)) (ht : (pc : Int) + off = (tgt : Int)) (kt : x ≤ 0 → V E d mt Q tgt L st h) (kf : ¬ (x ≤ 0) → V E d mt Q (pc + 3) L st h) : V E d mt Q pc L (.int x :: st) h := by
  intro p e s m args below meth c A C hA H locs hP hD hS ls hl
  exact lv_if_le C.1 C.2.1 hd ht (fun q => kt q p e s m args below meth c A C hA H locs hP hD hS ls hl) (fun q => kf q p e s m args below meth c A C hA H locs hP hD hS ls hl)
theorem V_icmp_le {x y : Int32} {off : Int} {tgt : Nat} (hd : decode mt.2.1 pc = .ok (.if_icmp .le off, 3)) (ht : (pc : Int) + off = (tgt : Int)) (kt : x ≤ y → V E d mt Q tgt L st h) (kf : ¬ (x ≤ y) → V E d mt Q (pc + 3) L st h) : V E d mt Q pc L (.int y :: .int x :: st) h := by
  intro p e s m args below meth c A C hA H locs hP hD hS ls hl
  exact lv_icmp_le C.1 C.2.1 hd ht (fun q => kt q p e s m args below meth c A C hA H locs hP hD hS ls hl) (fun q => kf q p e s m args below meth c A C hA H locs hP hD hS ls hl)
theorem V_tableIn {dflt lo hi : Int} {offs : Array Int} {len : Nat} {x : Int32} {off : Int} {tgt : Nat} (hd : decode mt.2.1 pc = .ok (.tableswitch dflt lo hi offs, len)) (h1 : ¬ x.toInt < lo) (h2 : ¬ hi < x.toInt) (ho : offs[(x.toInt - lo).toNat]? = some off) (ht : (pc : Int) + off = (tgt : Int)) (k : V E d mt Q tgt L st h) : V E d mt Q pc L (.int x :: st) h := by
  intro p e s m args below meth c A C hA H locs hP hD hS ls hl
  exact lv_tableIn C.1 C.2.1 hd h1 h2 ho ht (k p e s m args below meth c A C hA H locs hP hD hS ls hl)
theorem V_tableOut {dflt lo hi : Int} {offs : Array Int} {len : Nat} {x : Int32} {tgt : Nat} (hd : decode mt.2.1 pc = .ok (.tableswitch dflt lo hi offs, len)) (h1 : x.toInt < lo ∨ hi < x.toInt) (ht : (pc : Int) + dflt = (tgt : Int)) (k : V E d mt Q tgt L st h) : V E d mt Q pc L (.int x :: st) h := by
  intro p e s m args below meth c A C hA H locs hP hD hS ls hl
  exact lv_tableOut C.1 C.2.1 hd h1 ht (k p e s m args below meth c A C hA H locs hP hD hS ls hl)
theorem V_lookup {dflt : Int} {ps : Array (Int × Int)} {len : Nat} {x : Int32} {off : Int} {tgt : Nat} (hd : decode mt.2.1 pc = .ok (.lookupswitch dflt ps, len)) (hp : (ps.toList.zip (ps.toList.drop 1)).all (fun (a, next) => a.1 < next.1) = true) (ho : Op.lookupswitch.offset ps.toList dflt x.toInt = off) (ht : (pc : Int) + off = (tgt : Int)) (k : V E d mt Q tgt L st h) : V E d mt Q pc L (.int x :: st) h := by
  intro p e s m args below meth c A C hA H locs hP hD hS ls hl
  exact lv_lookup C.1 C.2.1 hd hp ho ht (k p e s m args below meth c A C hA H locs hP hD hS ls hl)
theorem V_ldc {R : String} {idx : Nat} {v : Int32} (hd : decode mt.2.1 pc = .ok (.ldc idx, 2)) (hw : Cond.constant R idx v ∈ lw_g) (hR : mt.1.cls = R) (k : V E d mt Q (pc + 2) L (.int v :: st) h) : V E d mt Q pc L st h := by
  intro p e s m args below meth c A C hA H locs hP hD hS ls hl
  exact lv_ldc C.1 C.2.1 (by rw [← hR]; exact C.2.2.2.2.1) (C.2.2.2.2.2.1 _ hw) hd (k p e s m args below meth c A C hA H locs hP hD hS ls hl)
theorem V_ldc_w {R : String} {idx : Nat} {v : Int32} (hd : decode mt.2.1 pc = .ok (.ldc_w idx, 3)) (hw : Cond.constant R idx v ∈ lw_g) (hR : mt.1.cls = R) (k : V E d mt Q (pc + 3) L (.int v :: st) h) : V E d mt Q pc L st h := by
  intro p e s m args below meth c A C hA H locs hP hD hS ls hl
  exact lv_ldcw C.1 C.2.1 (by rw [← hR]; exact C.2.2.2.2.1) (C.2.2.2.2.2.1 _ hw) hd (k p e s m args below meth c A C hA H locs hP hD hS ls hl)
theorem V_ldc2_w {R : String} {idx : Nat} {v : Int64} (hd : decode mt.2.1 pc = .ok (.ldc2_w idx, 3)) (hw : Cond.constantLong R idx v ∈ lw_g) (hR : mt.1.cls = R) (k : V E d mt Q (pc + 3) L (.long v :: st) h) : V E d mt Q pc L st h := by
  intro p e s m args below meth c A C hA H locs hP hD hS ls hl
  exact lv_ldc2 C.1 C.2.1 (by rw [← hR]; exact C.2.2.2.2.1) (C.2.2.2.2.2.1 _ hw) hd (k p e s m args below meth c A C hA H locs hP hD hS ls hl)
/-! fields -/
theorem V_getI {R : String} {idx o ci k : Nat} {rs : List (Option Nat)} (hd : decode mt.2.1 pc = .ok (.getfield idx, 3)) (hf : FL R idx ci k) (hR : mt.1.cls = R) (ho : shp[o]? = some (.inr (ci, rs))) (hk : rs[k]? = some none) (kk : V E d mt Q (pc + 3) L (.int (h o k) :: st) h) : V E d mt Q pc L (.ref o :: st) h := by
  intro p e s m args below meth c A C hA H locs hP hD hS ls hl
  obtain ⟨Cn, T, N, ty, hc, hkN, hlink, hin, hty, hnm⟩ := hf
  exact va_get C.1 C.2.1 C.2.2.2.2.2.1 hin (by rw [← hR]; exact C.2.2.2.2.1) C.2.2.2.2.2.2.2.1 hP o (wld_at ho) hc k hkN (C.2.2.2.2.2.1 _ hlink) (fun _ h9 => h9) (v := .int (h o k)) (by simp [wfl, hk]) hd (kk p e s m args below meth c A C hA H locs hP hD hS ls hl)
theorem V_getR {R : String} {idx o ci k q : Nat} {rs : List (Option Nat)} (hd : decode mt.2.1 pc = .ok (.getfield idx, 3)) (hf : FL R idx ci k) (hR : mt.1.cls = R) (ho : shp[o]? = some (.inr (ci, rs))) (hk : rs[k]? = some (some q)) (kk : V E d mt Q (pc + 3) L (.ref q :: st) h) : V E d mt Q pc L (.ref o :: st) h := by
  intro p e s m args below meth c A C hA H locs hP hD hS ls hl
  obtain ⟨Cn, T, N, ty, hc, hkN, hlink, hin, hty, hnm⟩ := hf
  exact va_get C.1 C.2.1 C.2.2.2.2.2.1 hin (by rw [← hR]; exact C.2.2.2.2.1) C.2.2.2.2.2.2.2.1 hP o (wld_at ho) hc k hkN (C.2.2.2.2.2.1 _ hlink) (fun _ h9 => h9) (v := .ref (E.2.1 q)) (by simp [wfl, hk]) hd (kk p e s m args below meth c A C hA H locs hP hD hS ls hl)
theorem V_put {R : String} {idx o ci k : Nat} {rs : List (Option Nat)} {x : Int32} {ty : FieldType} (hd : decode mt.2.1 pc = .ok (.putfield idx, 3)) (hf : FL R idx ci k) (hR : mt.1.cls = R) (ho : shp[o]? = some (.inr (ci, rs))) (hk : rs[k]? = some none) (hnf : (vcl[ci]?).map (fun q => ((q.2.1 k).2.2.2, parseFieldDescriptor (q.2.1 k).2.2.1)) = some (false, some ty)) (hn : narrow ty (.int x) = .int x) (hfit : fits ty (.int x) = true) (kk : V E d mt Q (pc + 3) L st (hup h o k x)) : V E d mt Q pc L (.int x :: .ref o :: st) h := by
  intro p e s m args below meth c A C hA H locs hP hD hS ls hl
  obtain ⟨Cn, T, N, ty0, hc, hkN, hlink, hin, hty, hnm⟩ := hf
  rw [hc] at hnf
  simp only [Option.map_some, Option.some.injEq, Prod.mk.injEq] at hnf
  refine va_put C.1 C.2.1 C.2.2.2.2.2.1 hin ty0 hty hnm (by rw [← hR]; exact C.2.2.2.2.1) C.2.2.2.2.2.2.2.1 hP hD hS o (wld_at ho) hc k hkN (C.2.2.2.2.2.1 _ hlink) (fun _ h9 => h9) hnf.1 hnf.2 (v := .int x) hn hfit (by simp [wfl]; exact (List.getElem?_eq_some_iff.mp hk).1) hd (fun H1 locs1 hP1 hD1 hS1 => ?_)
  have e1 := wld_setF (E := E) (h := h) ho hk x
  exact kk p e s m args below meth c A C hA H1 locs1 (by rw [← e1]; exact hP1) (by rw [← e1]; exact hD1) hS1 ls hl
/-! arrays -/
theorem V_iald {o n : Nat} {i : Int32} (hd : decode mt.2.1 pc = .ok (.iaload, 1)) (ho : shp[o]? = some (.inl (false, n))) (hin : vp_in i n) (kk : V E d mt Q (pc + 1) L (.int (h o i.toNatClampNeg) :: st) h) : V E d mt Q pc L (.int i :: .ref o :: st) h := by
  intro p e s m args below meth c A C hA H locs hP hD hS ls hl
  exact va_iald C.1 C.2.1 C.2.2.2.2.2.2.2.1 hP o 0 (wld_at ho) rfl hin hd (kk p e s m args below meth c A C hA H locs hP hD hS ls hl)
theorem V_zald {o n : Nat} {i : Int32} (hd : decode mt.2.1 pc = .ok (.baload, 1)) (ho : shp[o]? = some (.inl (true, n))) (hin : vp_in i n) (kk : V E d mt Q (pc + 1) L (.int (h o i.toNatClampNeg) :: st) h) : V E d mt Q pc L (.int i :: .ref o :: st) h := by
  intro p e s m args below meth c A C hA H locs hP hD hS ls hl
  exact va_zald C.1 C.2.1 C.2.2.2.2.2.2.2.1 hP o 1 (wld_at ho) rfl hin hd (kk p e s m args below meth c A C hA H locs hP hD hS ls hl)
theorem V_alen {o n : Nat} {z : Bool} {v : Int32} (hd : decode mt.2.1 pc = .ok (.arraylength, 1)) (ho : shp[o]? = some (.inl (z, n))) (hv : Int32.ofNat n = v) (kk : V E d mt Q (pc + 1) L (.int v :: st) h) : V E d mt Q pc L (.ref o :: st) h := by
  intro p e s m args below meth c A C hA H locs hP hD hS ls hl
  cases z with
  | false => exact va_alen C.1 C.2.1 C.2.2.2.2.2.2.2.1 hP o 0 (wld_at ho) (ty := .int) rfl hv hd (kk p e s m args below meth c A C hA H locs hP hD hS ls hl)
  | true => exact va_alen C.1 C.2.1 C.2.2.2.2.2.2.2.1 hP o 1 (wld_at ho) (ty := .boolean) rfl hv hd (kk p e s m args below meth c A C hA H locs hP hD hS ls hl)
theorem V_iast {o n : Nat} {i x : Int32} (hd : decode mt.2.1 pc = .ok (.iastore, 1)) (ho : shp[o]? = some (.inl (false, n))) (hin : vp_in i n) (kk : V E d mt Q (pc + 1) L st (hup h o i.toNatClampNeg x)) : V E d mt Q pc L (.int x :: .int i :: .ref o :: st) h := by
  intro p e s m args below meth c A C hA H locs hP hD hS ls hl
  refine va_iast C.1 C.2.1 C.2.2.2.2.2.2.2.1 hP hD hS o 0 (wld_at ho) rfl hin hd (fun H1 locs1 hP1 hD1 hS1 => ?_)
  have e1 := wld_setA (E := E) (h := h) ho (upd (h o) i.toNatClampNeg x)
  exact kk p e s m args below meth c A C hA H1 locs1 (by rw [hup_row, ← e1]; exact hP1) (by rw [hup_row, ← e1]; exact hD1) hS1 ls hl
theorem V_zast {o n : Nat} {i x : Int32} (hd : decode mt.2.1 pc = .ok (.bastore, 1)) (ho : shp[o]? = some (.inl (true, n))) (hin : vp_in i n) (hx : vp_nar .boolean x = x) (kk : V E d mt Q (pc + 1) L st (hup h o i.toNatClampNeg x)) : V E d mt Q pc L (.int x :: .int i :: .ref o :: st) h := by
  intro p e s m args below meth c A C hA H locs hP hD hS ls hl
  refine va_zast C.1 C.2.1 C.2.2.2.2.2.2.2.1 hP hD hS o 1 (wld_at ho) rfl hin hd (fun H1 locs1 hP1 hD1 hS1 => ?_)
  have e1 := wld_setA (E := E) (h := h) ho (upd (h o) i.toNatClampNeg x)
  rw [hx] at hP1 hD1
  exact kk p e s m args below meth c A C hA H1 locs1 (by rw [hup_row, ← e1]; exact hP1) (by rw [hup_row, ← e1]; exact hD1) hS1 ls hl
/-! returns -/
theorem V_end {H : Heap} {locs : List Loc} {s : State} {A : Nat → Prop} {args : Array Value} (v : Option Value) (hP : va_P E.2.2.2.2 vcl (wld E h) H) (hD : va_D A (wld E h)) (hS : va_S A s.heap H locs) (hK : va_K E.2.2.2.2 vcl (wty E) s) (hq : Q v h) :
    ∀ t : State, t.heap = H → s.WarmedH t.vm → Qend E A Q args s (.returned (v.map (cvv E.2.1))) t :=
  fun t ht hW => ⟨⟨v, h, rfl, hq, by rw [ht]; exact hP, va_K.moved hW.alike hK, hD⟩, hS.F ht⟩
theorem V_iret {v : Int32} (hd : decode mt.2.1 pc = .ok (.ireturn, 1)) (hr : mt.2.2.2 = some .int) (hq : Q (some (.int v)) h) : V E d mt Q pc L [.int v] h := by
  intro p e s m args below meth c A C hA H locs hP hD hS ls hl
  exact W.iret C.1 C.2.1 (C.2.2.2.1.trans hr) (V_end (some (.int v)) hP hD hS C.2.2.2.2.2.2.2.1 hq) hS.2.2 hd C.2.2.2.2.2.2.1
theorem V_zret {v : Int32} (hd : decode mt.2.1 pc = .ok (.ireturn, 1)) (hr : mt.2.2.2 = some .boolean) (hn : narrow .boolean (.int v) = .int v) (hq : Q (some (.int v)) h) : V E d mt Q pc L [.int v] h := by
  intro p e s m args below meth c A C hA H locs hP hD hS ls hl
  exact W.zret C.1 C.2.1 (C.2.2.2.1.trans hr) hn (V_end (some (.int v)) hP hD hS C.2.2.2.2.2.2.2.1 hq) hS.2.2 hd C.2.2.2.2.2.2.1
theorem V_vret (hd : decode mt.2.1 pc = .ok (.return_, 1)) (hr : mt.2.2.2 = none) (hq : Q none h) : V E d mt Q pc L [] h := by
  intro p e s m args below meth c A C hA H locs hP hD hS ls hl
  exact W.vret C.1 C.2.1 (C.2.2.2.1.trans hr) (V_end none hP hD hS C.2.2.2.2.2.2.2.1 hq) hS.2.2 hd C.2.2.2.2.2.2.1
end Rules
end
section
theorem lw_g_good {ws : List Cond} (h : ∀ w ∈ ws, w ∈ lw_g) : GoodIn lw_g ws := fun w hw => ⟨h w hw, good_of_word (List.mem_filter.mp (h w hw)).2⟩
section Calls2
variable {E : Wd} {d : Nat} {mt : Mt} {Q : Option Value → Hp → Prop} {pc : Nat} {L : List (Option Value)} {st : List Value} {h : Hp}
theorem V_after {p : Program} {e : Env} {s : State} {m : MethodId} {args : Array Value} {below : List Frame} {meth : Method} {c : Code} {A : Nat → Prop} {H : Heap} {locs : List Loc} {ls : Array Slot} {rest : List Value} {st0 : List Value} {a : Array Value} {Q' : Option Value → Hp → Prop}
    (C : Ctx E mt p s m args meth c) (hA : ∀ q, s.heap.size ≤ q → A q) (hP : va_P E.2.2.2.2 vcl (wld E h) H) (hD : va_D A (wld E h)) (hS : va_S A s.heap H locs) (hl : lvh E.2.1 ls mt.2.2.1 L)
    (hr : va_Run p E.1 e (rmd d) s m args below meth c H locs 0 0 0 0 (F0 m pc ls st0) (rest.map (cvv E.2.1)) (Qend E (va_A (wld E h) H.size) Q' a) (va_A (wld E h) H.size))
    (kk : ∀ v h', Q' v h' → V E d mt Q (pc + 3) L (v.toList ++ rest) h') : W p E.1 e (rmd d) s m args below meth c H locs 0 0 (MQ below (Qend E A Q) args s 0 0 A) (F0 m pc ls st0) := by
  intro T hT X
  obtain ⟨v, st₀, t, T', L', h0, X', hL, e1, e2, ⟨⟨v', h', hv, hq, hP1, hK1, hD1⟩, hz, hk⟩, stp⟩ := hr T hT X
  have hv' : v = v'.map (cvv E.2.1) := by injection hv
  have hFA : ∀ q, va_A (wld E h) H.size q → A q := by
    intro q hq
    rcases hq with ⟨k, e, hk⟩ | hq
    · exact hD.2 k _ hk
    · exact hA q (Nat.le_trans hS.1 hq)
  rw [h0] at hz hk
  have hS1 : va_S A s.heap T'.heap (locs ++ L') := by
    refine ⟨Nat.le_trans hS.1 (by rw [e1]; exact hz), fun q h1 h2 => ?_, fun q hq => ?_⟩
    · rw [e1, hk q (Nat.lt_of_lt_of_le h1 hS.1) (fun z => h2 (hFA q z))]
      exact hS.2.1 q h1 h2
    · rcases List.mem_append.mp hq with h | h
      · exact hS.2.2 q h
      · exact hFA _ (hL q h)
  have key := kk v' h' hq p e s m args below meth c A C hA T'.heap (locs ++ L') (by rw [e1]; exact hP1) (hD1.weaken (fun k q _ h => hFA q.1 h)) hS1 ls hl
  obtain ⟨t2, a1, b1⟩ := key T' rfl X'
  refine ⟨t2, stp t2 ?_, b1⟩
  have e3 : (v'.toList ++ rest).map (cvv E.2.1) = v.toList ++ rest.map (cvv E.2.1) := by
    rw [hv']
    cases v' <;> rfl
  rw [← e3]
  exact a1
theorem preOf {s : State} {H : Heap} {A : Nat → Prop} {as : List Value} (hP : va_P E.2.2.2.2 vcl (wld E h) H) (hK : va_K E.2.2.2.2 vcl (wty E) s) (hD : va_D A (wld E h)) (hN : Nst s) :
    PreS s H (va_Pc (as.map (cvv E.2.1)) (fun U => U.heap.size = H.size ∧ va_P E.2.2.2.2 vcl (wld E h) U.heap ∧ va_K E.2.2.2.2 vcl (wty E) U ∧ va_D (fun _ => True) (wld E h) ∧ Nst U)) (as.map (cvv E.2.1)) := by
  refine ⟨fun a U g mk q => ?_, fun U hU hW => ?_⟩
  · obtain ⟨q0, q1, qP, qK, qD, qN⟩ := q
    exact ⟨q0, q1, qP, va_K.moved (u := U) (U := U.calling g mk a) (Vm.Alike.refl U.vm) qK, qD, Nst.same (s := U) (U := U.calling g mk a) rfl qN⟩
  · exact ⟨rfl, by rw [hU], by rw [hU]; exact hP, va_K.moved hW.alike hK, hD.weaken (fun _ _ _ _ => trivial), hN.warm hW⟩
theorem catmap (ad : Nat → Nat) (st : List Value) : ((st.map (cvv ad)).map fun v => v.category).sum = (st.map fun v => v.category).sum := by
  rw [List.map_map]
  congr 1
  apply List.map_congr_left
  intro v _
  exact cvv_cat ad v
theorem V_callS {R : String} {idx n d' : Nat} {mt' : Mt} {as rest : List Value} {Q' : Option Value → Hp → Prop} (hd : decode mt.2.1 pc = .ok (.invokestatic idx, 3)) (hk : CLs R idx mt' n) (hR : mt.1.cls = R) (hc : Cq E d' mt' as h Q') (hst : st = as.reverse ++ rest) (hdd : d' < d) (hn : as.length = n) (hrm : (rest.map fun v => v.category).sum ≤ 8)
    (kk : ∀ v h', Q' v h' → V E d mt Q (pc + 3) L (v.toList ++ rest) h') : V E d mt Q pc L st h := by
  intro p e s m args below meth c A C hA H locs hP hD hS ls hl
  subst hst; subst hR
  obtain ⟨hx, hb, hml, hret, hown, hts, hlk, hK, hN⟩ := id C
  obtain ⟨h1, h2, hcode, hini, hpl, hne, hmx, hpm⟩ := hk
  refine V_after (rest := rest) C hA hP hD hS hl (va_runS (As := as.map (cvv E.2.1)) (n := n) ⟨hx, hb, hml, hown, hts⟩ (hc H.size) ⟨callB_of n hts (lw_g_good (fun w hw => ?_)) rfl rfl rfl (hts _ hini) (hts _ h1) ⟨hne.1, hne.2, hpm⟩ ⟨?_, ?_⟩, hts _ h2⟩ (preOf hP hK hD hN) rfl (by simpa using hn) hl.1 (by simp) (lv_room (by rw [catmap]; exact hrm)) hd ⟨Nat.le_refl _, Nat.le_refl _⟩) kk
  · rcases List.mem_cons.mp hw with rfl | hw
    · exact hcode
    · exact hw
  · show d' + 1 ≤ d
    omega
  · show 8 + (mt'.2.2.1 + 11) + 64 * d' ≤ 64 * d
    omega
theorem V_callN {R host : String} {idx n d' : Nat} {mt' : Mt} {as rest : List Value} {Q' : Option Value → Hp → Prop} (hd : decode mt.2.1 pc = .ok (.invokestatic idx, 3)) (hk : CLn R idx mt' n host) (hR : mt.1.cls = R) (hc : Cq E d' mt' as h Q') (hst : st = as.reverse ++ rest) (hdd : d' < d) (hn : as.length = n) (hrm : (rest.map fun v => v.category).sum ≤ 8)
    (kk : ∀ v h', Q' v h' → V E d mt Q (pc + 3) L (v.toList ++ rest) h') : V E d mt Q pc L st h := by
  intro p e s m args below meth c A C hA H locs hP hD hS ls hl
  subst hst; subst hR
  obtain ⟨hx, hb, hml, hret, hown, hts, hlk, hK, hN⟩ := id C
  obtain ⟨h1, h2, hcode, hini, hpl, hne, hmx, hpm⟩ := hk
  refine V_after (rest := rest) C hA hP hD hS hl (va_runSN (As := as.map (cvv E.2.1)) (n := n) ⟨hx, hb, hml, hown, hts⟩ (hc H.size) ⟨va_cnB n hts (lw_g_good (fun w hw => ?_)) rfl rfl rfl (hN _ h1) (hts _ hini) ⟨hne.1, hne.2, hpm⟩ ⟨?_, ?_⟩, hts _ h2, trivial⟩ (preOf hP hK hD hN) rfl (by simpa using hn) hl.1 (by simp) (lv_room (by rw [catmap]; exact hrm)) hd ⟨Nat.le_refl _, Nat.le_refl _⟩) kk
  · rcases List.mem_cons.mp hw with rfl | hw
    · exact hcode
    · exact hw
  · show d' + 1 ≤ d
    omega
  · show 8 + (mt'.2.2.1 + 11) + 64 * d' ≤ 64 * d
    omega
theorem V_callV {R : String} {idx n d' o ci : Nat} {rs : List (Option Nat)} {mt' : Mt} {as rest : List Value} {Q' : Option Value → Hp → Prop} (hd : decode mt.2.1 pc = .ok (.invokevirtual idx, 3)) (hk : CLv R idx mt' n) (hR : mt.1.cls = R) (hc : Cq E d' mt' (.ref o :: as) h Q') (ho : shp[o]? = some (.inr (ci, rs))) (hC : (vcl[ci]?).map (fun q => q.1) = some mt'.1.cls) (hst : st = as.reverse ++ .ref o :: rest) (hdd : d' < d) (hn : as.length = n) (hrm : (rest.map fun v => v.category).sum ≤ 8)
    (kk : ∀ v h', Q' v h' → V E d mt Q (pc + 3) L (v.toList ++ rest) h') : V E d mt Q pc L st h := by
  intro p e s m args below meth c A C hA H locs hP hD hS ls hl
  subst hst; subst hR
  obtain ⟨hx, hb, hml, hret, hown, hts, hlk, hK, hN⟩ := id C
  obtain ⟨h1, h2, h3, hcode, hini, hpl, hne, hmx, hpm⟩ := hk
  obtain ⟨q, hq, hq1⟩ : ∃ q, vcl[ci]? = some q ∧ q.1 = mt'.1.cls := by
    cases hv : vcl[ci]? with
    | none => rw [hv] at hC; cases hC
    | some q => rw [hv] at hC; exact ⟨q, rfl, Option.some.inj hC⟩
  have hpre := preOf (E := E) (h := h) (as := .ref o :: as) hP hK hD hN
  have hrecv : ∃ cellB : Cell, H[E.2.1 o]? = some cellB ∧ cellB.vm.isStatics = false ∧ s.vm.findClass mt'.1.cls = some cellB.cls := by
    rw [← hq1]
    exact va_recv hK hP (ci := ci) (q0 := o) hq (wld_at ho)
  refine V_after (rest := rest) C hA hP hD hS hl (va_runV (As := as.map (cvv E.2.1)) (n := n) (b := E.2.1 o) (C := mt'.1.cls) ⟨hx, hb, hml, hown, hts⟩ (hc H.size) ⟨callB_of n hts (lw_g_good (fun w hw => ?_)) rfl rfl rfl (hts _ hini) (hts _ h1) ⟨hne.1, hne.2, hpm⟩ ⟨?_, ?_⟩, hts _ h2, hts _ h3⟩ ⟨hpre.1, hrecv, hpre.2⟩ rfl (by simpa using hn) hl.1 (by simp [cvv]) (lv_room (by rw [catmap]; exact hrm)) hd ⟨Nat.le_refl _, Nat.le_refl _⟩) kk
  · rcases List.mem_cons.mp hw with rfl | hw
    · exact hcode
    · exact hw
  · show d' + 1 ≤ d
    omega
  · show 8 + (mt'.2.2.1 + 11) + 64 * d' ≤ 64 * d
    omega
end Calls2
/-- a contract that says which answer comes and which state -/
def Cd (E : Wd) (d : Nat) (mt : Mt) (args : List Value) (h : Hp) (v : Option Value) (h2 : Hp) : Prop := Cq E d mt args h (fun v' h' => v' = v ∧ h' = h2)
section Lib2
variable {E : Wd} {d : Nat} {mt : Mt} {Q : Option Value → Hp → Prop} {pc : Nat} {L : List (Option Value)} {st : List Value} {h : Hp}
theorem V_mmax {R : String} {idx : Nat} {x y : Int32} (hd : decode mt.2.1 pc = .ok (.invokestatic idx, 3)) (hk : MLk R idx Lib.Math.max.name Lib.Math.max.code 2) (hR : mt.1.cls = R) (hdd : 0 < d) (hrm : (st.map fun v => v.category).sum ≤ 8) (kk : V E d mt Q (pc + 3) L (.int (if x < y then y else x) :: st) h) : V E d mt Q pc L (.int y :: .int x :: st) h := by
  intro p e s m args below meth c A C hA H locs hP hD hS ls hl
  subst hR
  exact va_mmax (R := rmd d) C.1 C.2.1 (C.2.2.1.trans hl.1.symm) C.2.2.2.2.1 (C.2.2.2.2.2.1 _ hk.1) (C.2.2.2.2.2.1 _ hk.2.1) (C.2.2.2.2.2.1 _ hk.2.2.1) (C.2.2.2.2.2.1 _ hk.2.2.2) hdd (by rw [catmap]; show _ ≤ 64 * d; omega) (Nat.zero_le _) (Nat.zero_le _) hd (kk p e s m args below meth c A C hA H locs hP hD hS ls hl)
theorem V_mmin {R : String} {idx : Nat} {x y : Int32} (hd : decode mt.2.1 pc = .ok (.invokestatic idx, 3)) (hk : MLk R idx Lib.Math.min.name Lib.Math.min.code 2) (hR : mt.1.cls = R) (hdd : 0 < d) (hrm : (st.map fun v => v.category).sum ≤ 8) (kk : V E d mt Q (pc + 3) L (.int (if y < x then y else x) :: st) h) : V E d mt Q pc L (.int y :: .int x :: st) h := by
  intro p e s m args below meth c A C hA H locs hP hD hS ls hl
  subst hR
  exact va_mmin (R := rmd d) C.1 C.2.1 (C.2.2.1.trans hl.1.symm) C.2.2.2.2.1 (C.2.2.2.2.2.1 _ hk.1) (C.2.2.2.2.2.1 _ hk.2.1) (C.2.2.2.2.2.1 _ hk.2.2.1) (C.2.2.2.2.2.1 _ hk.2.2.2) hdd (by rw [catmap]; show _ ≤ 64 * d; omega) (Nat.zero_le _) (Nat.zero_le _) hd (kk p e s m args below meth c A C hA H locs hP hD hS ls hl)
theorem V_mabs {R : String} {idx : Nat} {x : Int32} (hd : decode mt.2.1 pc = .ok (.invokestatic idx, 3)) (hk : MLk R idx Lib.Math.abs.name Lib.Math.abs.code 1) (hR : mt.1.cls = R) (hdd : 0 < d) (hrm : (st.map fun v => v.category).sum ≤ 8) (kk : V E d mt Q (pc + 3) L (.int (if 0 ≤ x then x else 0 - x) :: st) h) : V E d mt Q pc L (.int x :: st) h := by
  intro p e s m args below meth c A C hA H locs hP hD hS ls hl
  subst hR
  exact va_mabs (R := rmd d) C.1 C.2.1 (C.2.2.1.trans hl.1.symm) C.2.2.2.2.1 (C.2.2.2.2.2.1 _ hk.1) (C.2.2.2.2.2.1 _ hk.2.1) (C.2.2.2.2.2.1 _ hk.2.2.1) (C.2.2.2.2.2.1 _ hk.2.2.2) hdd (by rw [catmap]; show _ ≤ 64 * d; omega) (Nat.zero_le _) (Nat.zero_le _) hd (kk p e s m args below meth c A C hA H locs hP hD hS ls hl)
/-- System.arraycopy(from, 0, to, 0, n) of int rows -/
theorem V_copy {R : String} {idx o q n0 n1 : Nat} {n : Int32} (hd : decode mt.2.1 pc = .ok (.invokestatic idx, 3)) (hk : ALk R idx) (hR : mt.1.cls = R) (ho : shp[o]? = some (.inl (false, n0))) (hq : shp[q]? = some (.inl (false, n1))) (hdd : 0 < d) (hrm : (st.map fun v => v.category).sum ≤ 8) (hn : ¬ n < 0) (hn0 : n.toNatClampNeg ≤ n0) (hn1 : n.toNatClampNeg ≤ n1) (kk : V E d mt Q (pc + 3) L st (hrow h q (va_cpy (h o) (h q) 0 0 n.toNatClampNeg))) : V E d mt Q pc L (.int n :: .int 0 :: .ref q :: .int 0 :: .ref o :: st) h := by
  intro p e s m args below meth c A C hA H locs hP hD hS ls hl
  subst hR
  have hw : nativeFrameWords "java/lang/System" "arraycopy" 5 = 7 := by decide
  refine va_copyi (R := rmd d) (sp := 0) (dp := 0) C.1 C.2.1 (C.2.2.1.trans hl.1.symm) C.2.2.2.2.1 (C.2.2.2.2.2.1 _ hk.1) (C.2.2.2.2.2.1 _ hk.2.1) (C.2.2.2.2.2.1 _ hk.2.2.1) (C.2.2.2.2.2.1 _ hk.2.2.2) C.2.2.2.2.2.2.2.1 hP hD hS o q 0 0 (wld_at ho) (wld_at hq) (ty := .int) rfl rfl rfl (by decide) (by decide) hn (by simpa using hn0) (by simpa using hn1) (fun i _ => rfl) hdd (by rw [catmap, hw]; show _ ≤ 64 * d; omega) hd (fun H1 locs1 hP1 hD1 hS1 => ?_)
  have e1 := wld_setA (E := E) (h := h) hq (va_cpy (h o) (h q) 0 0 n.toNatClampNeg)
  exact kk p e s m args below meth c A C hA H1 locs1 (by rw [← e1]; exact hP1) (by rw [← e1]; exact hD1) hS1 ls hl
end Lib2
section Calls3
variable {E : Wd} {d : Nat} {mt : Mt} {Q : Option Value → Hp → Prop} {pc : Nat} {L : List (Option Value)} {st : List Value} {h : Hp}
theorem V_callS1 {R : String} {idx n d' : Nat} {mt' : Mt} {as rest : List Value} {x : Value} {h2 : Hp} (hd : decode mt.2.1 pc = .ok (.invokestatic idx, 3)) (hk : CLs R idx mt' n) (hR : mt.1.cls = R) (hc : Cd E d' mt' as h (some x) h2) (hst : st = as.reverse ++ rest) (hdd : d' < d) (hn : as.length = n) (hrm : (rest.map fun v => v.category).sum ≤ 8)
    (kk : V E d mt Q (pc + 3) L (x :: rest) h2) : V E d mt Q pc L st h := V_callS hd hk hR hc hst hdd hn hrm (fun v h' q => by obtain ⟨rfl, rfl⟩ := q; exact kk)
theorem V_callS0 {R : String} {idx n d' : Nat} {mt' : Mt} {as rest : List Value} {h2 : Hp} (hd : decode mt.2.1 pc = .ok (.invokestatic idx, 3)) (hk : CLs R idx mt' n) (hR : mt.1.cls = R) (hc : Cd E d' mt' as h none h2) (hst : st = as.reverse ++ rest) (hdd : d' < d) (hn : as.length = n) (hrm : (rest.map fun v => v.category).sum ≤ 8)
    (kk : V E d mt Q (pc + 3) L rest h2) : V E d mt Q pc L st h := V_callS hd hk hR hc hst hdd hn hrm (fun v h' q => by obtain ⟨rfl, rfl⟩ := q; exact kk)
theorem V_callN1 {R host : String} {idx n d' : Nat} {mt' : Mt} {as rest : List Value} {x : Value} {h2 : Hp} (hd : decode mt.2.1 pc = .ok (.invokestatic idx, 3)) (hk : CLn R idx mt' n host) (hR : mt.1.cls = R) (hc : Cd E d' mt' as h (some x) h2) (hst : st = as.reverse ++ rest) (hdd : d' < d) (hn : as.length = n) (hrm : (rest.map fun v => v.category).sum ≤ 8)
    (kk : V E d mt Q (pc + 3) L (x :: rest) h2) : V E d mt Q pc L st h := V_callN hd hk hR hc hst hdd hn hrm (fun v h' q => by obtain ⟨rfl, rfl⟩ := q; exact kk)
theorem V_callV1 {R : String} {idx n d' o ci : Nat} {rs : List (Option Nat)} {mt' : Mt} {as rest : List Value} {x : Value} {h2 : Hp} (hd : decode mt.2.1 pc = .ok (.invokevirtual idx, 3)) (hk : CLv R idx mt' n) (hR : mt.1.cls = R) (hc : Cd E d' mt' (.ref o :: as) h (some x) h2) (ho : shp[o]? = some (.inr (ci, rs))) (hC : (vcl[ci]?).map (fun q => q.1) = some mt'.1.cls) (hst : st = as.reverse ++ .ref o :: rest) (hdd : d' < d) (hn : as.length = n) (hrm : (rest.map fun v => v.category).sum ≤ 8)
    (kk : V E d mt Q (pc + 3) L (x :: rest) h2) : V E d mt Q pc L st h := V_callV hd hk hR hc ho hC hst hdd hn hrm (fun v h' q => by obtain ⟨rfl, rfl⟩ := q; exact kk)
theorem V_callV0 {R : String} {idx n d' o ci : Nat} {rs : List (Option Nat)} {mt' : Mt} {as rest : List Value} {h2 : Hp} (hd : decode mt.2.1 pc = .ok (.invokevirtual idx, 3)) (hk : CLv R idx mt' n) (hR : mt.1.cls = R) (hc : Cd E d' mt' (.ref o :: as) h none h2) (ho : shp[o]? = some (.inr (ci, rs))) (hC : (vcl[ci]?).map (fun q => q.1) = some mt'.1.cls) (hst : st = as.reverse ++ .ref o :: rest) (hdd : d' < d) (hn : as.length = n) (hrm : (rest.map fun v => v.category).sum ≤ 8)
    (kk : V E d mt Q (pc + 3) L rest h2) : V E d mt Q pc L st h := V_callV hd hk hR hc ho hC hst hdd hn hrm (fun v h' q => by obtain ⟨rfl, rfl⟩ := q; exact kk)
theorem V_iincw {i : Nat} {n : Int} {x w : Int32} (hd : decode mt.2.1 pc = .ok (.iinc i n, 3)) (hi : L[i]? = some (some (.int x))) (hw : Int32.ofInt n = w) (hn : i < mt.2.2.1) (k : V E d mt Q (pc + 3) (L.set i (some (.int (x + w)))) st h) : V E d mt Q pc L st h := by
  subst hw
  exact V_iinc hd hi rfl hn k
theorem Cd_of {n : Nat} {args : List Value} {v : Option Value} {h2 : Hp} (ok : okM mt n) (hv : args.all (fun v => v.category == 1) = true) (hn : args.length ≤ mt.2.2.1) {L : List (Option Value)} (hL : args.map some ++ List.replicate (mt.2.2.1 - args.length) none = L)
    (k : V E d mt (fun v' h' => v' = v ∧ h' = h2) 0 L [] h) : Cd E d mt args h v h2 := Cq_of ok hv hn (by rw [hL]; exact k)
theorem Cq_of2 {n : Nat} {args : List Value} (ok : okM mt n) (hv : args.all (fun v => v.category == 1) = true) (hn : args.length ≤ mt.2.2.1) {L : List (Option Value)} (hL : args.map some ++ List.replicate (mt.2.2.1 - args.length) none = L)
    (k : V E d mt Q 0 L [] h) : Cq E d mt args h Q := Cq_of ok hv hn (by rw [hL]; exact k)
end Calls3
end
section
/-! ===== Int32 by its bits: bt x i ===== -/
def bt (x : Int32) (i : Nat) : Bool := x.toBitVec.getLsbD i
theorem b_ext {x y : Int32} (h : ∀ i, i < 32 → bt x i = bt y i) : x = y := Int32.toBitVec_inj.mp (BitVec.eq_of_getLsbD_eq (fun i hi => h i hi))
theorem b_or (x y : Int32) (i : Nat) : bt (x ||| y) i = (bt x i || bt y i) := by unfold bt; rw [Int32.toBitVec_or, BitVec.getLsbD_or]
theorem b_and (x y : Int32) (i : Nat) : bt (x &&& y) i = (bt x i && bt y i) := by unfold bt; rw [Int32.toBitVec_and, BitVec.getLsbD_and]
theorem b_xor (x y : Int32) (i : Nat) : bt (x ^^^ y) i = (bt x i ^^ bt y i) := by unfold bt; rw [Int32.toBitVec_xor, BitVec.getLsbD_xor]
theorem b_big {x : Int32} {i : Nat} (h : 32 ≤ i) : bt x i = false := BitVec.getLsbD_of_ge _ _ h
theorem b_255 (i : Nat) : bt 255 i = decide (i < 8) := by
  rcases Nat.lt_or_ge i 32 with h | h
  · exact (by decide +kernel : ∀ i, i < 32 → bt 255 i = decide (i < 8)) i h
  · rw [b_big h, decide_eq_false (by omega)]
theorem b_65535 (i : Nat) : bt 65535 i = decide (i < 16) := by
  rcases Nat.lt_or_ge i 32 with h | h
  · exact (by decide +kernel : ∀ i, i < 32 → bt 65535 i = decide (i < 16)) i h
  · rw [b_big h, decide_eq_false (by omega)]
theorem b_m1 : ∀ i, i < 32 → bt (-1) i = true := by decide +kernel
theorem b_0 (i : Nat) : bt 0 i = false := BitVec.getLsbD_zero
theorem s_l : ∀ n, n < 32 → ((nI n &&& 31).toBitVec.smod 32).toNat = n := by decide +kernel
theorem s_u : ∀ n, n < 32 → (((nI n).toUInt32 &&& Int32.toUInt32 31).toBitVec % 32).toNat = n := by decide +kernel
theorem b_shl (n : Nat) (hn : n < 32) (x : Int32) {i : Nat} (hi : i < 32) : bt (x <<< (nI n &&& 31)) i = (decide (n ≤ i) && bt x (i - n)) := by
  unfold bt
  rw [Int32.toBitVec_shiftLeft]
  show (x.toBitVec <<< ((nI n &&& 31).toBitVec.smod 32).toNat).getLsbD i = _
  rw [s_l n hn, BitVec.getLsbD_shiftLeft]
  rcases Nat.lt_or_ge i n with h | h
  · simp [h, Nat.not_le.mpr h]
  · simp [hi, h, Nat.not_lt.mpr h]
theorem b_ushr (n : Nat) (hn : n < 32) (x : Int32) (i : Nat) : bt ((x.toUInt32 >>> ((nI n).toUInt32 &&& Int32.toUInt32 31)).toInt32) i = bt x (n + i) := by
  show (x.toUInt32 >>> ((nI n).toUInt32 &&& Int32.toUInt32 31)).toBitVec.getLsbD i = x.toUInt32.toBitVec.getLsbD (n + i)
  rw [UInt32.toBitVec_shiftRight]
  show (x.toUInt32.toBitVec >>> (((nI n).toUInt32 &&& Int32.toUInt32 31).toBitVec % 32).toNat).getLsbD i = _
  rw [s_u n hn, BitVec.getLsbD_ushiftRight]
theorem b_sshr (n : Nat) (hn : n < 32) (x : Int32) {i : Nat} (hi : i < 32) : bt (x >>> (nI n &&& 31)) i = if n + i < 32 then bt x (n + i) else bt x 31 := by
  unfold bt
  rw [Int32.toBitVec_shiftRight]
  show (x.toBitVec.sshiftRight ((nI n &&& 31).toBitVec.smod 32).toNat).getLsbD i = _
  rw [s_l n hn, BitVec.getLsbD_sshiftRight, BitVec.msb_eq_getLsbD_last]
  simp [hi]
theorem b_shl8 (x : Int32) {i : Nat} (hi : i < 32) : bt (x <<< ((8 : Int32) &&& 31)) i = (decide (8 ≤ i) && bt x (i - 8)) := b_shl 8 (by omega) x hi
theorem b_shl16 (x : Int32) {i : Nat} (hi : i < 32) : bt (x <<< ((16 : Int32) &&& 31)) i = (decide (16 ≤ i) && bt x (i - 16)) := b_shl 16 (by omega) x hi
theorem b_shl24 (x : Int32) {i : Nat} (hi : i < 32) : bt (x <<< ((24 : Int32) &&& 31)) i = (decide (24 ≤ i) && bt x (i - 24)) := b_shl 24 (by omega) x hi
theorem b_sshr8 (x : Int32) {i : Nat} (hi : i < 32) : bt (x >>> ((8 : Int32) &&& 31)) i = if 8 + i < 32 then bt x (8 + i) else bt x 31 := b_sshr 8 (by omega) x hi
/-! plain facts on numbers and arrays, to paste: each family by itself; over the kit's rows on nI and upd -/
/-! ===== order of ints, in all its forms, and through longs ===== -/
theorem fa_lt (a b : Int32) : a < b ↔ a.toInt < b.toInt := Int32.lt_iff_toInt_lt
theorem fa_le (a b : Int32) : a ≤ b ↔ a.toInt ≤ b.toInt := Int32.le_iff_toInt_le
theorem fa_eq (a b : Int32) : a = b ↔ a.toInt = b.toInt := Int32.toInt_inj.symm
theorem fa_lt64 (a b : Int64) : a < b ↔ a.toInt < b.toInt := Int64.lt_iff_toInt_lt
theorem fa_le64 (a b : Int64) : a ≤ b ↔ a.toInt ≤ b.toInt := Int64.le_iff_toInt_le
theorem fa_eq64 (a b : Int64) : a = b ↔ a.toInt = b.toInt := Int64.toInt_inj.symm
/-- a comparison of two ints taken as longs -/
theorem fa_wide_lt (a b : Int32) : a.toInt64 < b.toInt64 ↔ a < b := by rw [fa_lt64, fa_lt, Int32.toInt_toInt64, Int32.toInt_toInt64]
theorem fa_wide_le (a b : Int32) : a.toInt64 ≤ b.toInt64 ↔ a ≤ b := by rw [fa_le64, fa_le, Int32.toInt_toInt64, Int32.toInt_toInt64]
theorem fa_wide_eq (a b : Int32) : a.toInt64 = b.toInt64 ↔ a = b := by rw [fa_eq64, fa_eq, Int32.toInt_toInt64, Int32.toInt_toInt64]
/-- one strict comparison gives all the others -/
theorem fa_of_lt {a b : Int32} (h : a < b) : a ≤ b ∧ ¬ b ≤ a ∧ ¬ b < a ∧ a ≠ b ∧ b ≠ a := by
  rw [fa_lt] at h
  refine ⟨?_, ?_, ?_, ?_, ?_⟩
  · rw [fa_le]; omega
  · rw [fa_le]; omega
  · rw [fa_lt]; omega
  · intro e; rw [fa_eq] at e; omega
  · intro e; rw [fa_eq] at e; omega
theorem fa_of_nlt {a b : Int32} (h : ¬ a < b) : b ≤ a := by
  rw [fa_lt] at h
  rw [fa_le]
  omega
theorem fa_of_nle {a b : Int32} (h : ¬ a ≤ b) : b < a := by
  rw [fa_le] at h
  rw [fa_lt]
  omega
theorem fa_le_ne {a b : Int32} (h : a ≤ b) (h2 : a ≠ b) : a < b := by
  rw [fa_le] at h
  rw [fa_lt]
  have h3 : a.toInt ≠ b.toInt := fun e => h2 ((fa_eq a b).mpr e)
  omega
theorem fa_three (a b : Int32) : a < b ∨ a = b ∨ b < a := by
  rw [fa_lt, fa_lt, fa_eq]
  omega
theorem fa_trans {a b c : Int32} (h : a < b) (h2 : b ≤ c) : a < c := by
  rw [fa_lt] at *
  rw [fa_le] at h2
  omega
/-! ===== small literals as numbers ===== -/
theorem fa_lit (n : Nat) : (OfNat.ofNat n : Int32) = nI n := rfl
theorem fa_litL (n : Nat) : (OfNat.ofNat n : Int64) = lN n := rfl
/-! ===== bits of a number: 'or', masks, one bit ===== -/
theorem fa_and (a b : Nat) : nI a &&& nI b = nI (a &&& b) := by
  apply Int32.toBitVec_inj.1
  show BitVec.ofNat 32 a &&& BitVec.ofNat 32 b = BitVec.ofNat 32 (a &&& b)
  apply BitVec.eq_of_getLsbD_eq
  intro i hi
  simp [hi]
theorem fa_or (a b : Nat) : nI a ||| nI b = nI (a ||| b) := by
  apply Int32.toBitVec_inj.1
  show BitVec.ofNat 32 a ||| BitVec.ofNat 32 b = BitVec.ofNat 32 (a ||| b)
  apply BitVec.eq_of_getLsbD_eq
  intro i hi
  simp [hi]
/-- a remainder by a power of two, as a mask -/
theorem fa_mask (n k : Nat) : nI n &&& nI (2 ^ k - 1) = nI (n % 2 ^ k) := by rw [fa_and, Nat.and_two_pow_sub_one_eq_mod]
/-- 'or' of a high part and a low one that don't meet is their sum -/
theorem fa_or_sum {a k : Nat} (b : Nat) (h : a < 2 ^ k) : nI (2 ^ k * b) ||| nI a = nI (2 ^ k * b + a) := by rw [fa_or, Nat.two_pow_add_eq_or_of_lt h]
/-- one bit, by 'and' with a power of two -/
theorem fa_bit {n j : Nat} (hj : j < 31) : nI n &&& nI (2 ^ j) = 0 ↔ n.testBit j = false := by
  have h2 : (2 : Nat) ^ j < 2 ^ 31 := Nat.pow_lt_pow_right (by decide) hj
  have hle : n &&& 2 ^ j ≤ 2 ^ j := Nat.and_le_right
  have e : n &&& 2 ^ j = 0 ↔ n.testBit j = false := by
    constructor
    · intro h
      have h1 : (n &&& 2 ^ j).testBit j = false := by rw [h]; simp
      rw [Nat.testBit_and] at h1
      first | simpa using h1 | simpa [Nat.testBit_two_pow_self] using h1 | simpa [Nat.testBit_two_pow] using h1
    · intro h
      apply Nat.eq_of_testBit_eq
      intro i
      rw [Nat.testBit_and]
      by_cases hi : j = i
      · subst hi; simp [h]
      · first | (simp [Nat.testBit_two_pow, hi]; done) | (simp [Nat.testBit_two_pow_of_ne hi]; done)
  rw [fa_and]
  constructor
  · intro h
    apply e.mp
    rcases Nat.eq_zero_or_pos (n &&& 2 ^ j) with z | z
    · exact z
    · exact absurd h (nI_ne0 z (Nat.lt_of_le_of_lt hle h2))
  · intro h
    rw [e.mpr h]; exact nI_0
/-- a remainder by a power of two of a number that isn't negative, as Java divides -/
theorem fa_rem {a k : Nat} (ha : a < 2 ^ 31) (hk : k < 31) : nI a - nI a / nI (2 ^ k) * nI (2 ^ k) = nI (a % 2 ^ k) := pk_rem ha (Nat.two_pow_pos k) (Nat.pow_lt_pow_right (by decide) hk)
/-! ===== cuts to a byte, a short ===== -/
theorem fa_byte_xor (x y : Int32) : (x ^^^ y).toInt8 = x.toInt8 ^^^ y.toInt8 := by
  apply Int8.toBitVec_inj.1
  apply BitVec.eq_of_getLsbD_eq
  intro i hi
  first | (simp [hi]; done) | (simp [hi, BitVec.getLsbD_setWidth, BitVec.getLsbD_signExtend]; done)
theorem fa_short_xor (x y : Int32) : (x ^^^ y).toInt16 = x.toInt16 ^^^ y.toInt16 := by
  apply Int16.toBitVec_inj.1
  apply BitVec.eq_of_getLsbD_eq
  intro i hi
  first | (simp [hi]; done) | (simp [hi, BitVec.getLsbD_setWidth, BitVec.getLsbD_signExtend]; done)
/-- the cut to a byte sees the low byte alone -/
theorem fa_byte_low (x : Int32) : (x &&& 255).toInt8 = x.toInt8 := by
  apply Int8.toBitVec_inj.1
  apply BitVec.eq_of_getLsbD_eq
  intro i hi
  have h2 : (255 : Int32).toBitVec.getLsbD i = true := by
    have : ∀ j : Fin 8, (255 : Int32).toBitVec.getLsbD j.val = true := by decide +kernel
    exact this ⟨i, hi⟩
  have h4 : (x &&& 255).toBitVec.getLsbD i = x.toBitVec.getLsbD i := by
    show (x.toBitVec &&& (255 : Int32).toBitVec).getLsbD i = _
    rw [BitVec.getLsbD_and, h2, Bool.and_true]
  have h3 : i < 32 := by omega
  first
    | (show (((x &&& 255).toBitVec).signExtend 8).getLsbD i = (x.toBitVec.signExtend 8).getLsbD i; rw [BitVec.getLsbD_signExtend, BitVec.getLsbD_signExtend, if_pos h3, if_pos h3, h4])
    | (show (((x &&& 255).toBitVec).setWidth 8).getLsbD i = (x.toBitVec.setWidth 8).getLsbD i; rw [BitVec.getLsbD_setWidth, BitVec.getLsbD_setWidth, h4])
    | (simp [hi, h3, h4]; done)
theorem fa_short_low (x : Int32) : (x &&& 65535).toInt16 = x.toInt16 := by
  apply Int16.toBitVec_inj.1
  apply BitVec.eq_of_getLsbD_eq
  intro i hi
  have h2 : (65535 : Int32).toBitVec.getLsbD i = true := by
    have : ∀ j : Fin 16, (65535 : Int32).toBitVec.getLsbD j.val = true := by decide +kernel
    exact this ⟨i, hi⟩
  have h4 : (x &&& 65535).toBitVec.getLsbD i = x.toBitVec.getLsbD i := by
    show (x.toBitVec &&& (65535 : Int32).toBitVec).getLsbD i = _
    rw [BitVec.getLsbD_and, h2, Bool.and_true]
  have h3 : i < 32 := by omega
  first
    | (show (((x &&& 65535).toBitVec).signExtend 16).getLsbD i = (x.toBitVec.signExtend 16).getLsbD i; rw [BitVec.getLsbD_signExtend, BitVec.getLsbD_signExtend, if_pos h3, if_pos h3, h4])
    | (show (((x &&& 65535).toBitVec).setWidth 16).getLsbD i = (x.toBitVec.setWidth 16).getLsbD i; rw [BitVec.getLsbD_setWidth, BitVec.getLsbD_setWidth, h4])
    | (simp [hi, h3, h4]; done)
/-- a small number is its own byte, its own short -/
theorem fa_byte_small {n : Nat} (h : n < 128) : (nI n).toInt8.toInt32 = nI n := by
  have : ∀ j : Fin 128, (nI j.val).toInt8.toInt32 = nI j.val := by decide +kernel
  exact this ⟨n, h⟩
/-! ===== absolute difference ===== -/
theorem fa_absdiff {a b : Nat} (ha : a < 2 ^ 31) (hb : b < 2 ^ 31) : (if nI a < nI b then nI b - nI a else nI a - nI b) = nI (if a < b then b - a else a - b) := by
  by_cases h : a < b
  · rw [if_pos (nI_lt h hb), if_pos h]
    exact pk_sub (Nat.le_of_lt h)
  · rw [if_neg (nI_nlt (Nat.le_of_not_lt h) ha), if_neg h]
    exact pk_sub (Nat.le_of_not_lt h)
/-! ===== an array behind i stores, a conditional store, a row copied ===== -/
/-- f where k < i, what stood there else -/
def fa_fill {α : Type} (f g : Nat → α) (i : Nat) : Nat → α := fun k => if k < i then f k else g k
theorem fa_fill_0 {α : Type} (f g : Nat → α) : fa_fill f g 0 = g := funext fun k => if_neg (Nat.not_lt_zero k)
theorem fa_fill_in {α : Type} {f g : Nat → α} {i k : Nat} (h : k < i) : fa_fill f g i k = f k := if_pos h
theorem fa_fill_out {α : Type} {f g : Nat → α} {i k : Nat} (h : i ≤ k) : fa_fill f g i k = g k := if_neg (Nat.not_lt.mpr h)
theorem fa_fill_succ (f g : Nat → Int32) (i : Nat) : upd (fa_fill f g i) i (f i) = fa_fill f g (i + 1) := by
  funext k
  by_cases e : k = i
  · subst e
    rw [pk_us]
    exact (if_pos (Nat.lt_succ_self k)).symm
  · rw [pk_un e]
    by_cases h : k < i
    · rw [fa_fill_in h, fa_fill_in (Nat.lt_succ_of_lt h)]
    · rw [fa_fill_out (Nat.le_of_not_lt h), fa_fill_out (by omega)]
/-- a store that changes nothing -/
theorem fa_upd_same {f : Nat → Int32} {i : Nat} {x : Int32} (h : f i = x) : upd f i x = f := by
  funext k
  by_cases e : k = i
  · subst e
    rw [pk_us, h]
  · rw [pk_un e]
/-- a store under a condition, told as one -/
theorem fa_upd_if (c : Prop) [Decidable c] (f : Nat → Int32) (i : Nat) (x : Int32) : (if c then upd f i x else f) = upd f i (if c then x else f i) := by
  by_cases h : c
  · rw [if_pos h, if_pos h]
  · rw [if_neg h, if_neg h, fa_upd_same rfl]
/-- two stores at one place, at two -/
theorem fa_upd_twice (f : Nat → Int32) (i : Nat) (x y : Int32) : upd (upd f i x) i y = upd f i y := by
  funext k
  by_cases e : k = i
  · subst e
    rw [pk_us, pk_us]
  · rw [pk_un e, pk_un e, pk_un e]
theorem fa_upd_swap (f : Nat → Int32) {i j : Nat} (h : i ≠ j) (x y : Int32) : upd (upd f i x) j y = upd (upd f j y) i x := by
  funext k
  by_cases e : k = i
  · subst e
    rw [pk_un h, pk_us, pk_us]
  · by_cases e2 : k = j
    · subst e2
      rw [pk_us, pk_un e, pk_us]
    · rw [pk_un e2, pk_un e, pk_un e, pk_un e2]
/-! ===== the first index with a property; a count ===== -/
/-- the first k < n with p k, n if there is none -/
def fa_first (p : Nat → Bool) : Nat → Nat
  | 0 => 0
  | n + 1 => if fa_first p n < n then fa_first p n else if p n then n else n + 1
theorem fa_first_le (p : Nat → Bool) : ∀ n, fa_first p n ≤ n
  | 0 => Nat.le_refl 0
  | n + 1 => by
    have ih := fa_first_le p n
    unfold fa_first
    split
    · omega
    · split
      · omega
      · omega
theorem fa_first_no (p : Nat → Bool) : ∀ n k, k < fa_first p n → p k = false
  | 0, k, h => absurd h (Nat.not_lt_zero k)
  | n + 1, k, h => by
    have ih := fa_first_no p n
    have hl := fa_first_le p n
    unfold fa_first at h
    split at h
    · exact ih k h
    · rename_i h1
      split at h
      · exact ih k (by omega)
      · rename_i h2
        by_cases e : k = n
        · subst e
          exact Bool.eq_false_iff.mpr h2
        · exact ih k (by omega)
theorem fa_first_yes (p : Nat → Bool) : ∀ n, fa_first p n < n → p (fa_first p n) = true
  | 0, h => absurd h (Nat.not_lt_zero _)
  | n + 1, h => by
    have ih := fa_first_yes p n
    have hl := fa_first_le p n
    unfold fa_first at h ⊢
    split at h
    · rename_i h1
      rw [if_pos h1]
      exact ih h1
    · rename_i h1
      rw [if_neg h1]
      split at h
      · rename_i h2
        rw [if_pos h2]
        exact h2
      · omega
/-- how many k < n have p k -/
def fa_cnt (p : Nat → Bool) : Nat → Nat
  | 0 => 0
  | n + 1 => fa_cnt p n + if p n then 1 else 0
theorem fa_cnt_le (p : Nat → Bool) : ∀ n, fa_cnt p n ≤ n
  | 0 => Nat.le_refl 0
  | n + 1 => by
    have ih := fa_cnt_le p n
    unfold fa_cnt
    split
    · omega
    · omega
theorem fa_cnt_yes {p : Nat → Bool} {n : Nat} (h : p n = true) : fa_cnt p (n + 1) = fa_cnt p n + 1 := by rw [fa_cnt, if_pos h]
theorem fa_cnt_no {p : Nat → Bool} {n : Nat} (h : p n = false) : fa_cnt p (n + 1) = fa_cnt p n := by rw [fa_cnt, if_neg (by rw [h]; decide)]; rfl
theorem fa_cnt_cong {p q : Nat → Bool} : ∀ {n : Nat}, (∀ k, k < n → p k = q k) → fa_cnt p n = fa_cnt q n
  | 0, _ => rfl
  | n + 1, h => by rw [fa_cnt, fa_cnt, fa_cnt_cong (fun k hk => h k (Nat.lt_succ_of_lt hk)), h n (Nat.lt_succ_self n)]
/-! ===== an answer carried into a post; a branch on a boolean answer ===== -/
theorem fa_post {α : Type} {P : α → Prop} {x y : α} (h : x = y) (hp : P y) : P x := h ▸ hp
theorem fa_post2 {α β : Type} {P : α → β → Prop} {x y : α} {u v : β} (h : x = y) (h2 : u = v) (hp : P y v) : P x u := h ▸ h2 ▸ hp
theorem fa_bool {r : Int32} {b : Bool} (h : r = if b then 1 else 0) : (r = 0 ↔ b = false) ∧ (¬ r = 0 ↔ b = true) := by
  subst h
  cases b
  · exact ⟨⟨fun _ => rfl, fun _ => rfl⟩, ⟨fun h => absurd rfl h, fun h => absurd h (by decide)⟩⟩
  · exact ⟨⟨fun h => absurd h (by decide), fun h => absurd h (by decide)⟩, ⟨fun _ => rfl, fun _ => by decide⟩⟩
/-- a boolean's narrowing changes nothing -/
theorem fa_bool_and {r : Int32} (h : r = 0 ∨ r = 1) : r &&& 1 = r := by
  rcases h with rfl | rfl
  · decide
  · decide
theorem fa_bool_prop {c : Prop} [Decidable c] {r : Int32} (h : r = if c then 1 else 0) : (r = 0 ↔ ¬ c) ∧ (¬ r = 0 ↔ c) := by
  subst h
  by_cases hc : c
  · rw [if_pos hc]
    exact ⟨⟨fun h => absurd h (by decide), fun h => absurd hc h⟩, ⟨fun _ => hc, fun _ => by decide⟩⟩
  · rw [if_neg hc]
    exact ⟨⟨fun _ => hc, fun _ => rfl⟩, ⟨fun h => absurd rfl h, fun h => absurd h hc⟩⟩

/-! plain facts to paste, each family by itself; over the kit's nI, lN and upd -/
/-! ===== drawers: more things than places ===== -/
theorem fb_holes : ∀ (m n : Nat) (f : Nat → Nat), (∀ i, i < n → f i < m) → (∀ i j, i < j → j < n → f i ≠ f j) → n ≤ m := by
  intro m
  induction m with
  | zero =>
    intro n f h1 _
    rcases Nat.eq_zero_or_pos n with h | h
    · omega
    · exact absurd (h1 0 h) (Nat.not_lt_zero _)
  | succ m ih =>
    intro n f h1 h2
    by_cases hx : ∃ i, i < n ∧ f i = m
    · obtain ⟨a, ha, hfa⟩ := hx
      have hg := ih (n - 1) (fun i => if i < a then f i else f (i + 1)) (by
        intro i hi
        by_cases q : i < a
        · simp only [if_pos q]
          have b1 := h1 i (by omega)
          have b2 := h2 i a q ha
          omega
        · simp only [if_neg q]
          have b1 := h1 (i + 1) (by omega)
          have b2 := h2 a (i + 1) (by omega) (by omega)
          omega) (by
        intro i j hij hj
        by_cases q : i < a
        · by_cases r : j < a
          · simp only [if_pos q, if_pos r]
            exact h2 i j hij (by omega)
          · simp only [if_pos q, if_neg r]
            exact h2 i (j + 1) (by omega) (by omega)
        · have r : ¬ j < a := by omega
          simp only [if_neg q, if_neg r]
          exact h2 (i + 1) (j + 1) (by omega) (by omega))
      omega
    · have hg := ih n f (fun i hi => by
        have b1 := h1 i hi
        have b2 : f i ≠ m := fun e => hx ⟨i, hi, e⟩
        omega) h2
      omega
/-- two of them in one place -/
theorem fb_twice {m n : Nat} {f : Nat → Nat} (h : ∀ i, i < n → f i < m) (hm : m < n) : ∃ i j, i < j ∧ j < n ∧ f i = f j := by
  refine Classical.byContradiction fun hx => ?_
  have := fb_holes m n f h (fun i j hij hj e => hx ⟨i, j, hij, hj, e⟩)
  omega
/-- as many as places, none twice: each place is taken -/
theorem fb_onto {n : Nat} {f : Nat → Nat} (h : ∀ i, i < n → f i < n) (h2 : ∀ i j, i < j → j < n → f i ≠ f j) {y : Nat} (hy : y < n) : ∃ i, i < n ∧ f i = y := by
  refine Classical.byContradiction fun hx => ?_
  have hne : ∀ i, i < n → f i ≠ y := fun i hi e => hx ⟨i, hi, e⟩
  have := fb_holes (n - 1) n (fun i => if f i < y then f i else f i - 1) (by
    intro i hi
    have b1 := h i hi
    have b2 := hne i hi
    by_cases q : f i < y
    · simp only [if_pos q]; omega
    · simp only [if_neg q]; omega) (by
    intro i j hij hj
    have b1 := hne i (by omega)
    have b2 := hne j hj
    have b3 := h2 i j hij hj
    by_cases q : f i < y
    · by_cases r : f j < y
      · simp only [if_pos q, if_pos r]; exact b3
      · simp only [if_pos q, if_neg r]; omega
    · by_cases r : f j < y
      · simp only [if_neg q, if_pos r]; omega
      · simp only [if_neg q, if_neg r]; omega)
  omega
/-! ===== how many places have a property ===== -/
def fb_ct (p : Nat → Bool) : Nat → Nat
  | 0 => 0
  | n + 1 => fb_ct p n + (if p n then 1 else 0)
theorem fb_ct_succ (p : Nat → Bool) (n : Nat) : fb_ct p (n + 1) = fb_ct p n + (if p n then 1 else 0) := rfl
theorem fb_ct_le (p : Nat → Bool) : ∀ n, fb_ct p n ≤ n
  | 0 => Nat.le_refl _
  | n + 1 => by
    have h := fb_ct_le p n
    rw [fb_ct_succ]
    split <;> omega
theorem fb_ct_step (p : Nat → Bool) (m : Nat) : ∀ n, fb_ct p m ≤ fb_ct p (m + n)
  | 0 => Nat.le_refl _
  | n + 1 => by
    have h := fb_ct_step p m n
    show fb_ct p m ≤ fb_ct p (m + n + 1)
    rw [fb_ct_succ]
    omega
theorem fb_ct_mono (p : Nat → Bool) {m n : Nat} (h : m ≤ n) : fb_ct p m ≤ fb_ct p n := by
  have := fb_ct_step p m (n - m)
  rwa [Nat.add_sub_cancel' h] at this
theorem fb_ct_cong {p q : Nat → Bool} : ∀ {n : Nat}, (∀ k, k < n → p k = q k) → fb_ct p n = fb_ct q n
  | 0, _ => rfl
  | n + 1, h => by
    rw [fb_ct_succ, fb_ct_succ, fb_ct_cong (fun k hk => h k (by omega)), h n (by omega)]
/-- one place changed -/
theorem fb_ct_out (p : Nat → Bool) (b : Bool) {i n : Nat} (h : n ≤ i) : fb_ct (fun k => if k = i then b else p k) n = fb_ct p n :=
  fb_ct_cong fun k hk => if_neg (by omega)
theorem fb_ct_upd (p : Nat → Bool) (b : Bool) {i : Nat} : ∀ {n : Nat}, i < n → fb_ct (fun k => if k = i then b else p k) n + (if p i then 1 else 0) = fb_ct p n + (if b then 1 else 0)
  | 0, h => absurd h (Nat.not_lt_zero i)
  | n + 1, h => by
    rw [fb_ct_succ, fb_ct_succ]
    rcases Nat.lt_or_ge i n with q | q
    · have := fb_ct_upd p b q
      have e : (if n = i then b else p n) = p n := if_neg (by omega)
      rw [e]
      omega
    · have e : i = n := by omega
      subst e
      rw [fb_ct_out p b (Nat.le_refl _)]
      simp only [if_true]
      omega
theorem fb_ct_sub {p q : Nat → Bool} : ∀ {n : Nat}, (∀ k, k < n → p k = true → q k = true) → fb_ct p n ≤ fb_ct q n
  | 0, _ => Nat.le_refl _
  | n + 1, h => by
    have h1 := fb_ct_sub (n := n) (p := p) (q := q) (fun k hk => h k (by omega))
    have h2 := h n (by omega)
    rw [fb_ct_succ, fb_ct_succ]
    cases hp : p n <;> cases hq : q n <;> simp_all <;> omega
theorem fb_ct_or {p q : Nat → Bool} : ∀ {n : Nat}, (∀ k, k < n → ¬ (p k = true ∧ q k = true)) → fb_ct (fun k => p k || q k) n = fb_ct p n + fb_ct q n
  | 0, _ => rfl
  | n + 1, h => by
    have h1 := fb_ct_or (n := n) (p := p) (q := q) (fun k hk => h k (by omega))
    have h2 := h n (by omega)
    rw [fb_ct_succ, fb_ct_succ, fb_ct_succ, h1]
    cases hp : p n <;> cases hq : q n <;> simp_all <;> omega
theorem fb_ct_not (p : Nat → Bool) : ∀ n, fb_ct p n + fb_ct (fun k => !p k) n = n
  | 0 => rfl
  | n + 1 => by
    have h := fb_ct_not p n
    rw [fb_ct_succ, fb_ct_succ]
    cases p n <;> simp <;> omega
theorem fb_ct_split (p : Nat → Bool) (m : Nat) : ∀ n, fb_ct p (m + n) = fb_ct p m + fb_ct (fun k => p (m + k)) n
  | 0 => rfl
  | n + 1 => by
    have h := fb_ct_split p m n
    show fb_ct p (m + n + 1) = _
    rw [fb_ct_succ, fb_ct_succ, h, Nat.add_assoc]
theorem fb_ct_zero {p : Nat → Bool} : ∀ {n : Nat}, fb_ct p n = 0 ↔ ∀ k, k < n → p k = false
  | 0 => ⟨fun _ k hk => absurd hk (Nat.not_lt_zero k), fun _ => rfl⟩
  | n + 1 => by
    have h := fb_ct_zero (p := p) (n := n)
    rw [fb_ct_succ]
    constructor
    · intro e k hk
      have e1 : fb_ct p n = 0 := by omega
      rcases Nat.lt_or_ge k n with q | q
      · exact h.mp e1 k q
      · have ek : k = n := by omega
        subst ek
        cases hp : p k
        · rfl
        · simp [hp] at e
    · intro a
      rw [h.mpr (fun k hk => a k (by omega)), a n (by omega)]
      rfl
theorem fb_ct_pos {p : Nat → Bool} {n : Nat} : 0 < fb_ct p n ↔ ∃ k, k < n ∧ p k = true := by
  constructor
  · intro h
    refine Classical.byContradiction fun hx => ?_
    have := fb_ct_zero.mpr (fun k hk => by
      cases hp : p k
      · rfl
      · exact absurd ⟨k, hk, hp⟩ hx : ∀ k, k < n → p k = false)
    omega
  · rintro ⟨k, hk, hp⟩
    rcases Nat.eq_zero_or_pos (fb_ct p n) with e | e
    · have := fb_ct_zero.mp e k hk
      rw [this] at hp
      cases hp
    · exact e
theorem fb_ct_all {p : Nat → Bool} {n : Nat} : fb_ct p n = n ↔ ∀ k, k < n → p k = true := by
  have h := fb_ct_not p n
  constructor
  · intro e k hk
    have z : fb_ct (fun k => !p k) n = 0 := by omega
    have := fb_ct_zero.mp z k hk
    cases hp : p k
    · simp [hp] at this
    · rfl
  · intro a
    have z : fb_ct (fun k => !p k) n = 0 := fb_ct_zero.mpr (fun k hk => by simp [a k hk])
    omega
/-- the k-th place with the property -/
theorem fb_ct_kth {p : Nat → Bool} {k : Nat} : ∀ {n : Nat}, k < fb_ct p n → ∃ i, i < n ∧ p i = true ∧ fb_ct p i = k
  | 0, h => absurd h (Nat.not_lt_zero k)
  | n + 1, h => by
    rcases Nat.lt_or_ge k (fb_ct p n) with q | q
    · obtain ⟨i, h1, h2⟩ := fb_ct_kth q
      exact ⟨i, by omega, h2⟩
    · rw [fb_ct_succ] at h
      cases hp : p n
      · simp [hp] at h; omega
      · simp [hp] at h
        exact ⟨n, by omega, hp, by omega⟩
theorem fb_ct_kth_one {p : Nat → Bool} {i j : Nat} (hi : p i = true) (hj : p j = true) (e : fb_ct p i = fb_ct p j) : i = j := by
  have key : ∀ a b : Nat, a < b → p a = true → fb_ct p a < fb_ct p b := by
    intro a b hab ha
    have h := fb_ct_mono p (show a + 1 ≤ b from hab)
    rw [fb_ct_succ, ha] at h
    simp at h
    omega
  rcases Nat.lt_trichotomy i j with q | q | q
  · have := key i j q hi; omega
  · exact q
  · have := key j i q hj; omega
/-! ===== sums over a range: one place changed, parts, bounds ===== -/
def fb_sm (f : Nat → Nat) : Nat → Nat
  | 0 => 0
  | n + 1 => fb_sm f n + f n
theorem fb_sm_succ (f : Nat → Nat) (n : Nat) : fb_sm f (n + 1) = fb_sm f n + f n := rfl
theorem fb_sm_cong {f g : Nat → Nat} : ∀ {n : Nat}, (∀ k, k < n → f k = g k) → fb_sm f n = fb_sm g n
  | 0, _ => rfl
  | n + 1, h => by rw [fb_sm_succ, fb_sm_succ, fb_sm_cong (fun k hk => h k (by omega)), h n (by omega)]
theorem fb_sm_out (f : Nat → Nat) (v : Nat) {i n : Nat} (h : n ≤ i) : fb_sm (fun k => if k = i then v else f k) n = fb_sm f n :=
  fb_sm_cong fun k hk => if_neg (by omega)
theorem fb_sm_upd (f : Nat → Nat) (v : Nat) {i : Nat} : ∀ {n : Nat}, i < n → fb_sm (fun k => if k = i then v else f k) n + f i = fb_sm f n + v
  | 0, h => absurd h (Nat.not_lt_zero i)
  | n + 1, h => by
    rw [fb_sm_succ, fb_sm_succ]
    rcases Nat.lt_or_ge i n with q | q
    · have := fb_sm_upd f v q
      have e : (if n = i then v else f n) = f n := if_neg (by omega)
      rw [e]
      omega
    · have e : i = n := by omega
      subst e
      rw [fb_sm_out f v (Nat.le_refl _)]
      simp only [if_true]
      omega
theorem fb_sm_add (f g : Nat → Nat) : ∀ n, fb_sm (fun k => f k + g k) n = fb_sm f n + fb_sm g n
  | 0 => rfl
  | n + 1 => by
    have h := fb_sm_add f g n
    rw [fb_sm_succ, fb_sm_succ, fb_sm_succ, h]
    omega
theorem fb_sm_le {f g : Nat → Nat} : ∀ {n : Nat}, (∀ k, k < n → f k ≤ g k) → fb_sm f n ≤ fb_sm g n
  | 0, _ => Nat.le_refl _
  | n + 1, h => by
    have h1 := fb_sm_le (n := n) (f := f) (g := g) (fun k hk => h k (by omega))
    have h2 := h n (by omega)
    rw [fb_sm_succ, fb_sm_succ]
    omega
theorem fb_sm_const (c : Nat) : ∀ n, fb_sm (fun _ => c) n = n * c
  | 0 => by rw [Nat.zero_mul]; rfl
  | n + 1 => by rw [fb_sm_succ, fb_sm_const c n, Nat.succ_mul]
theorem fb_sm_bound {f : Nat → Nat} {c n : Nat} (h : ∀ k, k < n → f k ≤ c) : fb_sm f n ≤ n * c := by
  rw [← fb_sm_const c n]
  exact fb_sm_le h
theorem fb_sm_mono (f : Nat → Nat) (m : Nat) : ∀ n, fb_sm f m ≤ fb_sm f (m + n)
  | 0 => Nat.le_refl _
  | n + 1 => by
    have h := fb_sm_mono f m n
    show fb_sm f m ≤ fb_sm f (m + n + 1)
    rw [fb_sm_succ]
    omega
theorem fb_sm_part (f : Nat → Nat) {i n : Nat} (h : i < n) : fb_sm f i + f i ≤ fb_sm f n := by
  have := fb_sm_mono f (i + 1) (n - (i + 1))
  rw [fb_sm_succ, show i + 1 + (n - (i + 1)) = n by omega] at this
  exact this
theorem fb_sm_split (f : Nat → Nat) (m : Nat) : ∀ n, fb_sm f (m + n) = fb_sm f m + fb_sm (fun k => f (m + k)) n
  | 0 => rfl
  | n + 1 => by
    have h := fb_sm_split f m n
    show fb_sm f (m + n + 1) = _
    rw [fb_sm_succ, fb_sm_succ, h, Nat.add_assoc]
theorem fb_sm_zero {f : Nat → Nat} {n : Nat} (h : fb_sm f n = 0) : ∀ k, k < n → f k = 0 := fun k hk => by
  have := fb_sm_part f hk
  omega
/-- the same over whole numbers -/
def fb_si (f : Nat → Int) : Nat → Int
  | 0 => 0
  | n + 1 => fb_si f n + f n
theorem fb_si_succ (f : Nat → Int) (n : Nat) : fb_si f (n + 1) = fb_si f n + f n := rfl
theorem fb_si_cong {f g : Nat → Int} : ∀ {n : Nat}, (∀ k, k < n → f k = g k) → fb_si f n = fb_si g n
  | 0, _ => rfl
  | n + 1, h => by rw [fb_si_succ, fb_si_succ, fb_si_cong (fun k hk => h k (by omega)), h n (by omega)]
theorem fb_si_out (f : Nat → Int) (v : Int) {i n : Nat} (h : n ≤ i) : fb_si (fun k => if k = i then v else f k) n = fb_si f n :=
  fb_si_cong fun k hk => if_neg (by omega)
theorem fb_si_upd (f : Nat → Int) (v : Int) {i : Nat} : ∀ {n : Nat}, i < n → fb_si (fun k => if k = i then v else f k) n = fb_si f n - f i + v
  | 0, h => absurd h (Nat.not_lt_zero i)
  | n + 1, h => by
    rw [fb_si_succ, fb_si_succ]
    rcases Nat.lt_or_ge i n with q | q
    · have := fb_si_upd f v q
      have e : (if n = i then v else f n) = f n := if_neg (by omega)
      rw [e]
      omega
    · have e : i = n := by omega
      subst e
      rw [fb_si_out f v (Nat.le_refl _)]
      simp only [if_true]
      omega
theorem fb_si_add (f g : Nat → Int) : ∀ n, fb_si (fun k => f k + g k) n = fb_si f n + fb_si g n
  | 0 => rfl
  | n + 1 => by
    have h := fb_si_add f g n
    rw [fb_si_succ, fb_si_succ, fb_si_succ, h]
    omega
theorem fb_si_sub (f g : Nat → Int) : ∀ n, fb_si (fun k => f k - g k) n = fb_si f n - fb_si g n
  | 0 => rfl
  | n + 1 => by
    have h := fb_si_sub f g n
    rw [fb_si_succ, fb_si_succ, fb_si_succ, h]
    omega
theorem fb_si_mul (c : Int) (f : Nat → Int) : ∀ n, fb_si (fun k => c * f k) n = c * fb_si f n
  | 0 => (Int.mul_zero c).symm
  | n + 1 => by
    have h := fb_si_mul c f n
    rw [fb_si_succ, fb_si_succ, h, Int.mul_add]
theorem fb_si_split (f : Nat → Int) (m : Nat) : ∀ n, fb_si f (m + n) = fb_si f m + fb_si (fun k => f (m + k)) n
  | 0 => (Int.add_zero _).symm
  | n + 1 => by
    have h := fb_si_split f m n
    show fb_si f (m + n + 1) = _
    rw [fb_si_succ, fb_si_succ, h, Int.add_assoc]
theorem fb_si_nat (f : Nat → Nat) : ∀ n, fb_si (fun k => (f k : Int)) n = (fb_sm f n : Int)
  | 0 => rfl
  | n + 1 => by
    have h := fb_si_nat f n
    rw [fb_si_succ, fb_sm_succ, h]
    omega
theorem fb_si_bound {f : Nat → Int} {c : Int} (hc : 0 ≤ c) : ∀ {n : Nat}, (∀ k, k < n → -c ≤ f k ∧ f k ≤ c) → -(n * c) ≤ fb_si f n ∧ fb_si f n ≤ n * c
  | 0, _ => by simp [fb_si]
  | n + 1, h => by
    have h1 := fb_si_bound (n := n) (f := f) hc (fun k hk => h k (by omega))
    have h2 := h n (by omega)
    have e : ((n + 1 : Nat) : Int) * c = n * c + c := by rw [Int.natCast_add, Int.add_mul]; simp
    rw [fb_si_succ, e]
    omega
/-! ===== bits of a long that isn't negative ===== -/
theorem fb_andL (a b : Nat) : lN a &&& lN b = lN (a &&& b) := by
  apply Int64.toBitVec_inj.1
  show BitVec.ofNat 64 a &&& BitVec.ofNat 64 b = BitVec.ofNat 64 (a &&& b)
  apply BitVec.eq_of_getLsbD_eq
  intro i hi
  simp [hi]
theorem fb_orL (a b : Nat) : lN a ||| lN b = lN (a ||| b) := by
  apply Int64.toBitVec_inj.1
  show BitVec.ofNat 64 a ||| BitVec.ofNat 64 b = BitVec.ofNat 64 (a ||| b)
  apply BitVec.eq_of_getLsbD_eq
  intro i hi
  simp [hi]
theorem fb_xorL (a b : Nat) : lN a ^^^ lN b = lN (a ^^^ b) := by
  apply Int64.toBitVec_inj.1
  show BitVec.ofNat 64 a ^^^ BitVec.ofNat 64 b = BitVec.ofNat 64 (a ^^^ b)
  apply BitVec.eq_of_getLsbD_eq
  intro i hi
  simp [hi]
theorem fb_xorI (a b : Nat) : nI a ^^^ nI b = nI (a ^^^ b) := by
  apply Int32.toBitVec_inj.1
  show BitVec.ofNat 32 a ^^^ BitVec.ofNat 32 b = BitVec.ofNat 32 (a ^^^ b)
  apply BitVec.eq_of_getLsbD_eq
  intro i hi
  simp [hi]
theorem fb_maskL (n k : Nat) : lN n &&& lN (2 ^ k - 1) = lN (n % 2 ^ k) := by rw [fb_andL, Nat.and_two_pow_sub_one_eq_mod]
theorem fb_or_sumL {a k : Nat} (b : Nat) (h : a < 2 ^ k) : lN (2 ^ k * b) ||| lN a = lN (2 ^ k * b + a) := by rw [fb_orL, Nat.two_pow_add_eq_or_of_lt h]
theorem fb_lN_inj {a b : Nat} (ha : a < 2 ^ 63) (hb : b < 2 ^ 63) : lN a = lN b ↔ a = b := by
  constructor
  · intro h
    have h1 : (BitVec.ofNat 64 a).toNat = (BitVec.ofNat 64 b).toNat := congrArg (fun x : Int64 => x.toBitVec.toNat) h
    rw [BitVec.toNat_ofNat, BitVec.toNat_ofNat, Nat.mod_eq_of_lt (by omega), Nat.mod_eq_of_lt (by omega)] at h1
    exact h1
  · rintro rfl; rfl
theorem fb_bit_nat (n j : Nat) : n &&& 2 ^ j = 0 ↔ n.testBit j = false := by
  constructor
  · intro h
    have h1 : (n &&& 2 ^ j).testBit j = false := by rw [h]; simp
    rw [Nat.testBit_and] at h1
    simpa using h1
  · intro h
    apply Nat.eq_of_testBit_eq
    intro i
    rw [Nat.testBit_and]
    by_cases hi : j = i
    · subst hi; simp [h]
    · first | (simp [Nat.testBit_two_pow, hi]; done) | (simp [Nat.testBit_two_pow_of_ne hi]; done)
/-- one bit of a long -/
theorem fb_bitL {n j : Nat} (hj : j < 63) : lN n &&& lN (2 ^ j) = 0 ↔ n.testBit j = false := by
  have h2 : (2 : Nat) ^ j < 2 ^ 63 := Nat.pow_lt_pow_right (by decide) hj
  have hle : n &&& 2 ^ j ≤ 2 ^ j := Nat.and_le_right
  rw [fb_andL, ← fb_bit_nat, show (0 : Int64) = lN 0 from rfl]
  exact fb_lN_inj (by omega) (by decide)
/-- a bit set, a bit taken off -/
theorem fb_bit_set (n j i : Nat) : (n ||| 2 ^ j).testBit i = (n.testBit i || decide (i = j)) := by
  rw [Nat.testBit_or]
  by_cases h : j = i
  · subst h; simp
  · have h2 : ¬ i = j := fun e => h e.symm
    first | (simp [Nat.testBit_two_pow, h, h2]; done) | (simp [Nat.testBit_two_pow_of_ne h, h2]; done)
theorem fb_bit_flip (n j i : Nat) : (n ^^^ 2 ^ j).testBit i = (n.testBit i ^^ decide (i = j)) := by
  rw [Nat.testBit_xor]
  by_cases h : j = i
  · subst h; simp
  · have h2 : ¬ i = j := fun e => h e.symm
    first | (simp [Nat.testBit_two_pow, h, h2]; done) | (simp [Nat.testBit_two_pow_of_ne h, h2]; done)
/-! ===== a stretch of an array written over by a function ===== -/
def fb_put {α : Type} (f g : Nat → α) (a n : Nat) : Nat → α := fun k => if a ≤ k ∧ k < a + n then g (k - a) else f k
theorem fb_put_0 {α : Type} (f g : Nat → α) (a : Nat) : fb_put f g a 0 = f := funext fun k => if_neg (by omega)
theorem fb_put_in {α : Type} {f g : Nat → α} {a n k : Nat} (h1 : a ≤ k) (h2 : k < a + n) : fb_put f g a n k = g (k - a) := if_pos ⟨h1, h2⟩
theorem fb_put_out {α : Type} {f g : Nat → α} {a n k : Nat} (h : k < a ∨ a + n ≤ k) : fb_put f g a n k = f k := if_neg (by omega)
theorem fb_put_succ (f g : Nat → Int32) (a n : Nat) : upd (fb_put f g a n) (a + n) (g n) = fb_put f g a (n + 1) := by
  funext k
  by_cases h : k = a + n
  · subst h
    simp [upd, fb_put]
  · by_cases h1 : a ≤ k ∧ k < a + n
    · have h2 : a ≤ k ∧ k < a + (n + 1) := by omega
      simp only [upd, fb_put, if_neg h, if_pos h1, if_pos h2]
    · have h2 : ¬ (a ≤ k ∧ k < a + (n + 1)) := by omega
      simp only [upd, fb_put, if_neg h, if_neg h1, if_neg h2]
/-- .. from the far end down -/
theorem fb_put_down (f g : Nat → Int32) {a n m : Nat} (h : m < n) : upd (fb_put f (fun k => g (k + (m + 1))) (a + (m + 1)) (n - (m + 1))) (a + m) (g m) = fb_put f (fun k => g (k + m)) (a + m) (n - m) := by
  funext k
  by_cases h0 : k = a + m
  · subst h0
    simp only [upd, if_true]
    rw [fb_put_in (by omega) (by omega)]
    exact congrArg g (by omega)
  · simp only [upd, if_neg h0]
    by_cases h1 : a + (m + 1) ≤ k ∧ k < a + (m + 1) + (n - (m + 1))
    · rw [fb_put_in h1.1 h1.2, fb_put_in (by omega) (by omega)]
      exact congrArg g (by omega)
    · rw [fb_put_out (by omega), fb_put_out (by omega)]
theorem fb_put_cong {α : Type} {f f2 g g2 : Nat → α} {a n : Nat} (hf : ∀ k, (k < a ∨ a + n ≤ k) → f k = f2 k) (hg : ∀ k, k < n → g k = g2 k) : fb_put f g a n = fb_put f2 g2 a n := by
  funext k
  by_cases h : a ≤ k ∧ k < a + n
  · rw [fb_put_in h.1 h.2, fb_put_in h.1 h.2, hg _ (by omega)]
  · rw [fb_put_out (by omega), fb_put_out (by omega), hf _ (by omega)]
/-! ===== the least, the first, the best so far; that there is one alone ===== -/
theorem fb_first {p : Nat → Prop} [DecidablePred p] : ∀ {n : Nat}, (∃ i, i < n ∧ p i) → ∃ i, i < n ∧ p i ∧ ∀ j, j < i → ¬ p j
  | 0, h => by obtain ⟨i, hi, -⟩ := h; exact absurd hi (Nat.not_lt_zero i)
  | n + 1, h => by
    by_cases q : ∃ i, i < n ∧ p i
    · obtain ⟨i, h1, h2⟩ := fb_first q
      exact ⟨i, by omega, h2⟩
    · obtain ⟨i, h1, h2⟩ := h
      have e : i = n := by
        rcases Nat.lt_or_ge i n with r | r
        · exact absurd ⟨i, r, h2⟩ q
        · omega
      subst e
      exact ⟨i, by omega, h2, fun j hj hp => q ⟨j, hj, hp⟩⟩
theorem fb_first_one {p : Nat → Prop} {i j : Nat} (hi : p i) (hi2 : ∀ k, k < i → ¬ p k) (hj : p j) (hj2 : ∀ k, k < j → ¬ p k) : i = j := by
  rcases Nat.lt_trichotomy i j with q | q | q
  · exact absurd hi (hj2 i q)
  · exact q
  · exact absurd hj (hi2 j q)
theorem fb_last {p : Nat → Prop} [DecidablePred p] : ∀ {n : Nat}, (∃ i, i < n ∧ p i) → ∃ i, i < n ∧ p i ∧ ∀ j, i < j → j < n → ¬ p j
  | 0, h => by obtain ⟨i, hi, -⟩ := h; exact absurd hi (Nat.not_lt_zero i)
  | n + 1, h => by
    by_cases q : p n
    · exact ⟨n, by omega, q, fun j h1 h2 => by omega⟩
    · obtain ⟨i, h1, h2⟩ := h
      have hi : i < n := by
        rcases Nat.lt_or_ge i n with r | r
        · exact r
        · have e : i = n := by omega
          subst e
          exact absurd h2 q
      obtain ⟨i2, a1, a2, a3⟩ := fb_last (n := n) ⟨i, hi, h2⟩
      refine ⟨i2, by omega, a2, fun j b1 b2 => ?_⟩
      rcases Nat.lt_or_ge j n with r | r
      · exact a3 j b1 r
      · have e : j = n := by omega
        subst e
        exact q
/-- the first greatest -/
theorem fb_best (f : Nat → Int) : ∀ {n : Nat}, 0 < n → ∃ i, i < n ∧ (∀ j, j < n → f j ≤ f i) ∧ ∀ j, j < i → f j < f i
  | 0, h => absurd h (Nat.lt_irrefl 0)
  | 1, _ => ⟨0, by omega, fun j hj => by have e : j = 0 := by omega
                                         subst e; exact Int.le_refl _, fun j hj => absurd hj (Nat.not_lt_zero j)⟩
  | n + 2, _ => by
    obtain ⟨i, h1, h2, h3⟩ := fb_best f (n := n + 1) (by omega)
    by_cases q : f i < f (n + 1)
    · refine ⟨n + 1, by omega, fun j hj => ?_, fun j hj => ?_⟩
      · rcases Nat.lt_or_ge j (n + 1) with r | r
        · have := h2 j r; omega
        · have e : j = n + 1 := by omega
          subst e; exact Int.le_refl _
      · have := h2 j hj; omega
    · refine ⟨i, by omega, fun j hj => ?_, h3⟩
      rcases Nat.lt_or_ge j (n + 1) with r | r
      · exact h2 j r
      · have e : j = n + 1 := by omega
        subst e; omega
theorem fb_best_one {f : Nat → Int} {n i j : Nat} (hi : i < n) (hi2 : ∀ k, k < n → f k ≤ f i) (hi3 : ∀ k, k < i → f k < f i) (hj : j < n) (hj2 : ∀ k, k < n → f k ≤ f j) (hj3 : ∀ k, k < j → f k < f j) : i = j := by
  rcases Nat.lt_trichotomy i j with q | q | q
  · have a := hj3 i q
    have b := hi2 j hj
    omega
  · exact q
  · have a := hi3 j q
    have b := hj2 i hi
    omega
/-- the first least -/
theorem fb_low (f : Nat → Int) {n : Nat} (h : 0 < n) : ∃ i, i < n ∧ (∀ j, j < n → f i ≤ f j) ∧ ∀ j, j < i → f i < f j := by
  obtain ⟨i, h1, h2, h3⟩ := fb_best (fun k => -f k) h
  exact ⟨i, h1, fun j hj => by have := h2 j hj; omega, fun j hj => by have := h3 j hj; omega⟩
/-! ===== signed ints as whole numbers, within bounds ===== -/
theorem fb_rng (x : Int32) : -2147483648 ≤ x.toInt ∧ x.toInt < 2147483648 := by
  have h1 := Int32.le_toInt x
  have h2 := Int32.toInt_lt x
  omega
theorem fb_bmod {z : Int} (h1 : -2147483648 ≤ z) (h2 : z < 2147483648) : z.bmod (2 ^ 32) = z := by
  rw [Int.bmod_eq_of_le (by omega) (by omega)]
theorem fb_addI {x y : Int32} (h1 : -2147483648 ≤ x.toInt + y.toInt) (h2 : x.toInt + y.toInt < 2147483648) : (x + y).toInt = x.toInt + y.toInt := by
  rw [Int32.toInt_add, fb_bmod h1 h2]
theorem fb_subI {x y : Int32} (h1 : -2147483648 ≤ x.toInt - y.toInt) (h2 : x.toInt - y.toInt < 2147483648) : (x - y).toInt = x.toInt - y.toInt := by
  rw [Int32.toInt_sub, fb_bmod h1 h2]
theorem fb_mulI {x y : Int32} (h1 : -2147483648 ≤ x.toInt * y.toInt) (h2 : x.toInt * y.toInt < 2147483648) : (x * y).toInt = x.toInt * y.toInt := by
  rw [Int32.toInt_mul, fb_bmod h1 h2]
theorem fb_negI {x : Int32} (h : x.toInt ≠ -2147483648) : (-x).toInt = -x.toInt := by
  have := fb_rng x
  rw [Int32.toInt_neg, fb_bmod (by omega) (by omega)]
theorem fb_ofI {z : Int} (h1 : -2147483648 ≤ z) (h2 : z < 2147483648) : (Int32.ofInt z).toInt = z := by
  rw [Int32.toInt_ofInt, fb_bmod h1 h2]
theorem fb_asI (x : Int32) : Int32.ofInt x.toInt = x := Int32.ofInt_toInt x
theorem fb_rngL (x : Int64) : -9223372036854775808 ≤ x.toInt ∧ x.toInt < 9223372036854775808 := by
  have h1 := Int64.le_toInt x
  have h2 := Int64.toInt_lt x
  omega
theorem fb_bmodL {z : Int} (h1 : -9223372036854775808 ≤ z) (h2 : z < 9223372036854775808) : z.bmod (2 ^ 64) = z := by
  rw [Int.bmod_eq_of_le (by omega) (by omega)]
theorem fb_addL {x y : Int64} (h1 : -9223372036854775808 ≤ x.toInt + y.toInt) (h2 : x.toInt + y.toInt < 9223372036854775808) : (x + y).toInt = x.toInt + y.toInt := by
  rw [Int64.toInt_add, fb_bmodL h1 h2]
theorem fb_subL {x y : Int64} (h1 : -9223372036854775808 ≤ x.toInt - y.toInt) (h2 : x.toInt - y.toInt < 9223372036854775808) : (x - y).toInt = x.toInt - y.toInt := by
  rw [Int64.toInt_sub, fb_bmodL h1 h2]
theorem fb_mulL {x y : Int64} (h1 : -9223372036854775808 ≤ x.toInt * y.toInt) (h2 : x.toInt * y.toInt < 9223372036854775808) : (x * y).toInt = x.toInt * y.toInt := by
  rw [Int64.toInt_mul, fb_bmodL h1 h2]
/-! ===== cuts of what is narrow already ===== -/
theorem fb_byte {x : Int32} (h1 : -128 ≤ x.toInt) (h2 : x.toInt < 128) : x.toInt8.toInt32 = x := by
  apply Int32.toInt_inj.1
  rw [Int8.toInt_toInt32, Int32.toInt_toInt8, Int.bmod_eq_of_le (by omega) (by omega)]
theorem fb_short {x : Int32} (h1 : -32768 ≤ x.toInt) (h2 : x.toInt < 32768) : x.toInt16.toInt32 = x := by
  apply Int32.toInt_inj.1
  rw [Int16.toInt_toInt32, Int32.toInt_toInt16, Int.bmod_eq_of_le (by omega) (by omega)]
theorem fb_byte_rng (x : Int32) : -128 ≤ x.toInt8.toInt32.toInt ∧ x.toInt8.toInt32.toInt < 128 := by
  rw [Int8.toInt_toInt32]
  have h1 := Int8.le_toInt x.toInt8
  have h2 := Int8.toInt_lt x.toInt8
  omega
theorem fb_short_rng (x : Int32) : -32768 ≤ x.toInt16.toInt32.toInt ∧ x.toInt16.toInt32.toInt < 32768 := by
  rw [Int16.toInt_toInt32]
  have h1 := Int16.le_toInt x.toInt16
  have h2 := Int16.toInt_lt x.toInt16
  omega
theorem fb_byte_twice (x : Int32) : x.toInt8.toInt32.toInt8.toInt32 = x.toInt8.toInt32 := fb_byte (fb_byte_rng x).1 (fb_byte_rng x).2
theorem fb_short_twice (x : Int32) : x.toInt16.toInt32.toInt16.toInt32 = x.toInt16.toInt32 := fb_short (fb_short_rng x).1 (fb_short_rng x).2
theorem fb_char {n : Nat} (h : n < 65536) : (nI n).toUInt32.toUInt16.toUInt32.toInt32 = nI n := by
  apply Int32.toBitVec_inj.1
  apply BitVec.eq_of_toNat_eq
  have e1 : (nI n).toBitVec.toNat = n := by
    show (BitVec.ofNat 32 n).toNat = n
    rw [BitVec.toNat_ofNat, Nat.mod_eq_of_lt (by omega)]
  have e2 : ((nI n).toUInt32.toUInt16.toUInt32).toNat = n := by
    rw [UInt16.toNat_toUInt32, UInt32.toNat_toUInt16]
    show (nI n).toBitVec.toNat % 2 ^ 16 = n
    rw [e1, Nat.mod_eq_of_lt (by omega)]
  rw [e1]
  exact e2
end
section
/-! bits: the class's sets hold place j at bit 29 - j -/
def onl (j : Nat) : Int32 := nI (2 ^ (29 - j))
theorem b_onl : ∀ j, j < 30 → ∀ i, i < 32 → bt (onl j) i = decide (i = 29 - j) := by decide +kernel
theorem only_eq : ∀ j, j < 30 → (1 : Int32) <<< ((29 - nI j) &&& 31) = onl j := by decide +kernel
theorem sub29 : ∀ j, j < 30 → (29 : Int32) - nI j = nI (29 - j) := by decide +kernel
theorem b_1 : ∀ i, i < 32 → bt 1 i = decide (i = 0) := by decide +kernel
theorem b_and1 (y : Int32) : y &&& 1 = 0 ↔ bt y 0 = false := by
  constructor
  · intro h
    have h1 : bt (y &&& 1) 0 = false := by rw [h]; exact b_0 0
    rw [b_and, b_1 0 (by decide)] at h1
    simpa using h1
  · intro h
    apply b_ext
    intro i hi
    rw [b_and, b_1 i hi, b_0]
    by_cases h0 : i = 0
    · subst h0; rw [h]; rfl
    · simp [h0]
theorem has_eq (x : Int32) {j : Nat} (hj : j < 30) : ((x.toUInt32 >>> ((29 - nI j).toUInt32 &&& Int32.toUInt32 31)).toInt32 &&& 1 = 0) ↔ bt x (29 - j) = false := by
  rw [b_and1, sub29 j hj, b_ushr (29 - j) (by omega) x 0]
  rfl
theorem b_not (x : Int32) {i : Nat} (hi : i < 32) : bt (x ^^^ (-1)) i = !bt x i := by
  rw [b_xor, b_m1 i hi]
  cases bt x i <;> rfl
/-- the lowest bit -/
theorem low_ex {x : Int32} (h : x ≠ 0) : ∃ k, k < 32 ∧ bt x k = true ∧ ∀ i, i < k → bt x i = false := by
  have h1 : ∃ k, k < 32 ∧ bt x k = true := by
    apply Classical.byContradiction
    intro hn
    apply h
    apply b_ext
    intro i hi
    rw [b_0]
    cases hb : bt x i with
    | false => rfl
    | true => exact absurd ⟨i, hi, hb⟩ hn
  obtain ⟨k, hk, hk2⟩ := pk_least (fun k => k < 32 ∧ bt x k = true) h1
  exact ⟨k, hk.1, hk.2, fun i hi => by
    cases hb : bt x i with
    | false => rfl
    | true => exact absurd ⟨by omega, hb⟩ (hk2 i hi)⟩
theorem bt_nI (n i : Nat) : bt (nI n) i = (decide (i < 32) && n.testBit i) := by
  unfold bt nI
  show (BitVec.ofNat 32 n).getLsbD i = _
  rw [BitVec.getLsbD_ofNat]
theorem nI_ex (x : Int32) : ∃ n, n < 2 ^ 32 ∧ x = nI n := ⟨x.toBitVec.toNat, x.toBitVec.isLt, by
  apply Int32.toBitVec_inj.mp
  show x.toBitVec = BitVec.ofNat 32 x.toBitVec.toNat
  simp⟩
theorem b_sub1 {x : Int32} {k : Nat} (hk : k < 32) (h1 : bt x k = true) (h2 : ∀ i, i < k → bt x i = false) : ∀ i, i < 32 → bt (x - 1) i = if i < k then true else if i = k then false else bt x i := by
  obtain ⟨n, hn, rfl⟩ := nI_ex x
  have t1 : n.testBit k = true := by rw [bt_nI] at h1; simpa [hk] using h1
  have t2 : ∀ i, i < k → n.testBit i = false := fun i hi => by
    have := h2 i hi
    rw [bt_nI] at this
    simpa [show i < 32 by omega] using this
  have hm : n % 2 ^ k = 0 := by
    apply Nat.eq_of_testBit_eq
    intro i
    rw [Nat.testBit_mod_two_pow, Nat.zero_testBit]
    by_cases hi : i < k
    · simp [t2 i hi]
    · simp [hi]
  have hd : n / 2 ^ k % 2 = 1 := by
    have := t1
    rw [Nat.testBit_eq_decide_div_mod_eq] at this
    simpa using this
  have hp : 0 < 2 ^ k := Nat.two_pow_pos k
  have hn1 : n = 2 ^ k * (n / 2 ^ k) := by
    have := Nat.div_add_mod n (2 ^ k)
    omega
  have hpos : 0 < n := by
    rcases Nat.eq_zero_or_pos n with h0 | h0
    · rw [h0] at hd; simp at hd
    · exact h0
  have hs : nI n - 1 = nI (n - 1) := by
    have := nI_pred (n - 1)
    rw [show n - 1 + 1 = n by omega] at this
    exact this
  have key : n - 1 = 2 ^ k * (n / 2 ^ k - 1) + (2 ^ k - 1) := by
    have h3 : 1 ≤ n / 2 ^ k := by
      rcases Nat.eq_zero_or_pos (n / 2 ^ k) with h0 | h0
      · rw [h0] at hd; simp at hd
      · exact h0
    have h4 : 2 ^ k * (n / 2 ^ k - 1) + 2 ^ k = 2 ^ k * (n / 2 ^ k) := by
      rw [← Nat.mul_succ]
      congr 1
      omega
    omega
  intro i hi
  rw [hs, bt_nI, bt_nI, key, Nat.testBit_two_pow_mul_add _ (by omega)]
  simp only [hi, decide_true, Bool.true_and]
  by_cases h5 : i < k
  · rw [if_pos h5, if_pos h5, Nat.testBit_two_pow_sub_one]
    simp [h5]
  · rw [if_neg h5, if_neg h5]
    by_cases h6 : i = k
    · subst h6
      rw [if_pos rfl, Nat.sub_self, Nat.testBit_eq_decide_div_mod_eq]
      simp
      omega
    · rw [if_neg h6]
      conv => rhs; rw [hn1, Nat.testBit_two_pow_mul]
      have h7 : k ≤ i := by omega
      simp only [ge_iff_le, h7, decide_true, Bool.true_and]
      have h8 : i - k = (i - k - 1) + 1 := by omega
      have h9 : (n / 2 ^ k - 1) / 2 = n / 2 ^ k / 2 := by
        generalize n / 2 ^ k = q at hd
        omega
      rw [h8, Nat.testBit_succ, Nat.testBit_succ, h9]
theorem neg_eq (x : Int32) : -x = (x - 1) ^^^ (-1) := by
  apply b_ext
  intro i hi
  rw [b_not _ hi]
  by_cases h0 : x = 0
  · subst h0
    exact (by decide +kernel : ∀ i, i < 32 → bt (-0) i = !bt (0 - 1) i) i hi
  · unfold bt
    have e : (-x).toBitVec = ~~~ (x - 1).toBitVec := by
      have e1 : (-x).toBitVec = -x.toBitVec := rfl
      have e2 : (x - 1).toBitVec = x.toBitVec - 1#32 := rfl
      rw [e1, e2, BitVec.neg_eq_not_add]
      apply BitVec.eq_of_toNat_eq
      simp
      have := x.toBitVec.isLt
      omega
    rw [e, BitVec.getLsbD_not]
    simp [hi]
theorem b_low {x : Int32} {k : Nat} (hk : k < 32) (h1 : bt x k = true) (h2 : ∀ i, i < k → bt x i = false) : x &&& -x = nI (2 ^ k) := by
  apply b_ext
  intro i hi
  rw [b_and, neg_eq, b_not _ hi, b_sub1 hk h1 h2 i hi, bt_nI, Nat.testBit_two_pow]
  simp only [hi, decide_true, Bool.true_and]
  by_cases h3 : i < k
  · rw [if_pos h3, h2 i h3]
    simp
    omega
  · rw [if_neg h3]
    by_cases h4 : i = k
    · subst h4; simp [h1]
    · rw [if_neg h4]
      have : ¬ k = i := by omega
      cases hb : bt x i <;> simp [this]
theorem b_clear {x : Int32} {k : Nat} (hk : k < 32) (h1 : bt x k = true) (h2 : ∀ i, i < k → bt x i = false) {i : Nat} (hi : i < 32) : bt (x &&& (x - 1)) i = (bt x i && !decide (i = k)) := by
  rw [b_and, b_sub1 hk h1 h2 i hi]
  by_cases h3 : i < k
  · rw [if_pos h3, h2 i h3]; rfl
  · rw [if_neg h3]
    by_cases h4 : i = k
    · subst h4; simp
    · simp [h4]
/-- Integer.bitCount, as it is computed -/
def ush (x : Int32) (s : Int32) : Int32 := (x.toUInt32 >>> (s.toUInt32 &&& Int32.toUInt32 31)).toInt32
def bc1 (x : Int32) : Int32 := x - (ush x 1 &&& 1431655765)
def bc2 (x : Int32) : Int32 := (x &&& 858993459) + (ush x 2 &&& 858993459)
def bc3 (x : Int32) : Int32 := (x + ush x 4) &&& 252645135
def bc4 (x : Int32) : Int32 := x + ush x 8
def bc5 (x : Int32) : Int32 := x + ush x 16
def bcI (x : Int32) : Int32 := bc5 (bc4 (bc3 (bc2 (bc1 x)))) &&& 63
theorem bcI_low : ∀ k, k < 32 → bcI (nI (2 ^ k) - 1) = nI k := by decide +kernel
theorem first_eq {p : Nat → Bool} {n j : Nat} (hj : j < n) (h1 : p j = true) (h2 : ∀ i, i < j → p i = false) : fa_first p n = j := by
  rcases Nat.lt_trichotomy (fa_first p n) j with q | q | q
  · have h3 := fa_first_yes p n (by omega)
    rw [h2 _ q] at h3
    cases h3
  · exact q
  · have h3 := fa_first_no p n j q
    rw [h1] at h3
    cases h3
theorem first_none {p : Nat → Bool} {n : Nat} (h : ∀ i, i < n → p i = false) : fa_first p n = n := by
  rcases Nat.lt_or_ge (fa_first p n) n with q | q
  · have h3 := fa_first_yes p n q
    rw [h _ q] at h3
    cases h3
  · have := fa_first_le p n
    omega
theorem first_cong {p q : Nat → Bool} {n : Nat} (h : ∀ i, i < n → p i = q i) : fa_first p n = fa_first q n := by
  rcases Nat.lt_or_ge (fa_first p n) n with c | c
  · exact (first_eq c (by rw [← h _ c]; exact fa_first_yes p n c) (fun i hi => by rw [← h i (by omega)]; exact fa_first_no p n i hi)).symm
  · have hp : fa_first p n = n := by have := fa_first_le p n; omega
    rw [hp]
    exact (first_none (fun i hi => by rw [← h i hi]; exact fa_first_no p n i (by omega))).symm
end
section
/-! the class's sets, and the JDK's small methods -/
theorem c_isWithin {E : Wd} (h : Hp) (v lo hi : Int32) : Cd E 0 m_DC_isWithin [.int v, .int lo, .int hi] h (some (.int (if lo ≤ v ∧ v ≤ hi then 1 else 0))) h := by
  refine Cd_of ok_DC_isWithin rfl (Nat.le_of_ble_eq_true rfl) (L := [some (.int v), some (.int lo), some (.int hi)]) rfl ?_
  refine V_iload_n d_DC_isWithin_0 rfl ?_
  refine V_iload_n d_DC_isWithin_1 rfl ?_
  refine V_icmp_lt (tgt := 14) d_DC_isWithin_2 (by decide) (fun b2 => ?_) (fun b2 => ?_)
  · refine V_iconst (v := 0) d_DC_isWithin_14 (by decide) ?_
    refine V_zret d_DC_isWithin_15 rfl (by first | rfl | decide | assumption) ?_
    exact ⟨by rw [if_neg (fun q => (fa_of_lt b2).2.1 q.1)], rfl⟩
  · refine V_iload_n d_DC_isWithin_5 rfl ?_
    refine V_iload_n d_DC_isWithin_6 rfl ?_
    refine V_icmp_gt (tgt := 14) d_DC_isWithin_7 (by decide) (fun b7 => ?_) (fun b7 => ?_)
    · refine V_iconst (v := 0) d_DC_isWithin_14 (by decide) ?_
      refine V_zret d_DC_isWithin_15 rfl (by first | rfl | decide | assumption) ?_
      exact ⟨by rw [if_neg (fun q => (fa_of_lt b7).2.1 q.2)], rfl⟩
    · refine V_iconst (v := 1) d_DC_isWithin_10 (by decide) ?_
      refine V_goto (tgt := 15) d_DC_isWithin_11 (by decide) ?_
      refine V_zret d_DC_isWithin_15 rfl (by first | rfl | decide | assumption) ?_
      exact ⟨by rw [if_pos ⟨fa_of_nlt b2, fa_of_nlt b7⟩], rfl⟩
theorem c_compare {E : Wd} (h : Hp) (x y : Int32) : Cd E 0 m_Integer_compare_7cf53 [.int x, .int y] h (some (.int (if x < y then -1 else if x = y then 0 else 1))) h := by
  refine Cd_of ok_Integer_compare_7cf53 rfl (Nat.le_of_ble_eq_true rfl) (L := [some (.int x), some (.int y)]) rfl ?_
  refine V_iload_n d_Integer_compare_7cf53_0 rfl ?_
  refine V_iload_n d_Integer_compare_7cf53_1 rfl ?_
  refine V_icmp_ge (tgt := 9) d_Integer_compare_7cf53_2 (by decide) (fun b2 => ?_) (fun b2 => ?_)
  · refine V_iload_n d_Integer_compare_7cf53_9 rfl ?_
    refine V_iload_n d_Integer_compare_7cf53_10 rfl ?_
    refine V_icmp_ne (tgt := 18) d_Integer_compare_7cf53_11 (by decide) (fun b11 => ?_) (fun b11 => ?_)
    · refine V_iconst (v := 1) d_Integer_compare_7cf53_18 (by decide) ?_
      refine V_iret d_Integer_compare_7cf53_19 rfl ?_
      exact ⟨by rw [if_neg (fun q => (fa_of_lt q).2.1 b2), if_neg b11], rfl⟩
    · refine V_iconst (v := 0) d_Integer_compare_7cf53_14 (by decide) ?_
      refine V_goto (tgt := 19) d_Integer_compare_7cf53_15 (by decide) ?_
      refine V_iret d_Integer_compare_7cf53_19 rfl ?_
      exact ⟨by rw [if_neg (fun q => (fa_of_lt q).2.1 b2), if_pos b11], rfl⟩
  · refine V_iconst (v := -1) d_Integer_compare_7cf53_5 (by decide) ?_
    refine V_goto (tgt := 19) d_Integer_compare_7cf53_6 (by decide) ?_
    refine V_iret d_Integer_compare_7cf53_19 rfl ?_
    exact ⟨by rw [if_pos (fa_of_nle b2)], rfl⟩
theorem c_bitCount {E : Wd} (h : Hp) (x : Int32) : Cd E 0 m_Integer_bitCount_0f7a4 [.int x] h (some (.int (bcI x))) h := by
  refine Cd_of ok_Integer_bitCount_0f7a4 rfl (Nat.le_of_ble_eq_true rfl) (L := [some (.int x)]) rfl ?_
  refine V_iload_n d_Integer_bitCount_0f7a4_0 rfl ?_
  refine V_iload_n d_Integer_bitCount_0f7a4_1 rfl ?_
  refine V_iconst (v := 1) d_Integer_bitCount_0f7a4_2 (by decide) ?_
  refine V_iushr d_Integer_bitCount_0f7a4_3 rfl ?_
  refine V_ldc_w d_Integer_bitCount_0f7a4_4 v_Integer_265 rfl ?_
  refine V_iand d_Integer_bitCount_0f7a4_7 ?_
  refine V_isub d_Integer_bitCount_0f7a4_8 ?_
  refine V_istore_n d_Integer_bitCount_0f7a4_9 (by decide) ?_
  dsimp only [List.set]
  refine V_iload_n d_Integer_bitCount_0f7a4_10 rfl ?_
  refine V_ldc_w d_Integer_bitCount_0f7a4_11 v_Integer_266 rfl ?_
  refine V_iand d_Integer_bitCount_0f7a4_14 ?_
  refine V_iload_n d_Integer_bitCount_0f7a4_15 rfl ?_
  refine V_iconst (v := 2) d_Integer_bitCount_0f7a4_16 (by decide) ?_
  refine V_iushr d_Integer_bitCount_0f7a4_17 rfl ?_
  refine V_ldc_w d_Integer_bitCount_0f7a4_18 v_Integer_266 rfl ?_
  refine V_iand d_Integer_bitCount_0f7a4_21 ?_
  refine V_iadd d_Integer_bitCount_0f7a4_22 ?_
  refine V_istore_n d_Integer_bitCount_0f7a4_23 (by decide) ?_
  dsimp only [List.set]
  refine V_iload_n d_Integer_bitCount_0f7a4_24 rfl ?_
  refine V_iload_n d_Integer_bitCount_0f7a4_25 rfl ?_
  refine V_iconst (v := 4) d_Integer_bitCount_0f7a4_26 (by decide) ?_
  refine V_iushr d_Integer_bitCount_0f7a4_27 rfl ?_
  refine V_iadd d_Integer_bitCount_0f7a4_28 ?_
  refine V_ldc_w d_Integer_bitCount_0f7a4_29 v_Integer_267 rfl ?_
  refine V_iand d_Integer_bitCount_0f7a4_32 ?_
  refine V_istore_n d_Integer_bitCount_0f7a4_33 (by decide) ?_
  dsimp only [List.set]
  refine V_iload_n d_Integer_bitCount_0f7a4_34 rfl ?_
  refine V_iload_n d_Integer_bitCount_0f7a4_35 rfl ?_
  refine V_bipush (v := 8) d_Integer_bitCount_0f7a4_36 (by decide) ?_
  refine V_iushr d_Integer_bitCount_0f7a4_38 rfl ?_
  refine V_iadd d_Integer_bitCount_0f7a4_39 ?_
  refine V_istore_n d_Integer_bitCount_0f7a4_40 (by decide) ?_
  dsimp only [List.set]
  refine V_iload_n d_Integer_bitCount_0f7a4_41 rfl ?_
  refine V_iload_n d_Integer_bitCount_0f7a4_42 rfl ?_
  refine V_bipush (v := 16) d_Integer_bitCount_0f7a4_43 (by decide) ?_
  refine V_iushr d_Integer_bitCount_0f7a4_45 rfl ?_
  refine V_iadd d_Integer_bitCount_0f7a4_46 ?_
  refine V_istore_n d_Integer_bitCount_0f7a4_47 (by decide) ?_
  dsimp only [List.set]
  refine V_iload_n d_Integer_bitCount_0f7a4_48 rfl ?_
  refine V_bipush (v := 63) d_Integer_bitCount_0f7a4_49 (by decide) ?_
  refine V_iand d_Integer_bitCount_0f7a4_51 ?_
  refine V_iret d_Integer_bitCount_0f7a4_52 rfl ?_
  exact ⟨rfl, rfl⟩
theorem c_only {E : Wd} (h : Hp) {j : Nat} (hj : j < 30) : Cd E 0 m_Sets_only [.int (nI j)] h (some (.int (onl j))) h := by
  refine Cd_of ok_Sets_only rfl (Nat.le_of_ble_eq_true rfl) (L := [some (.int (nI j))]) rfl ?_
  refine V_iconst (v := 1) d_Sets_only_0 (by decide) ?_
  refine V_bipush (v := 29) d_Sets_only_1 (by decide) ?_
  refine V_iload_n d_Sets_only_3 rfl ?_
  refine V_isub d_Sets_only_4 ?_
  refine V_ishl d_Sets_only_5 ?_
  refine V_iret d_Sets_only_6 rfl ?_
  exact ⟨by rw [only_eq j hj], rfl⟩
theorem c_has {E : Wd} (h : Hp) (x : Int32) {j : Nat} (hj : j < 30) : Cd E 0 m_Sets_has [.int x, .int (nI j)] h (some (.int (if bt x (29 - j) then 1 else 0))) h := by
  refine Cd_of ok_Sets_has rfl (Nat.le_of_ble_eq_true rfl) (L := [some (.int x), some (.int (nI j))]) rfl ?_
  refine V_iload_n d_Sets_has_0 rfl ?_
  refine V_bipush (v := 29) d_Sets_has_1 (by decide) ?_
  refine V_iload_n d_Sets_has_3 rfl ?_
  refine V_isub d_Sets_has_4 ?_
  refine V_iushr d_Sets_has_5 rfl ?_
  refine V_iconst (v := 1) d_Sets_has_6 (by decide) ?_
  refine V_iand d_Sets_has_7 ?_
  refine V_if_eq (tgt := 15) d_Sets_has_8 (by decide) (fun b8 => ?_) (fun b8 => ?_)
  · refine V_iconst (v := 0) d_Sets_has_15 (by decide) ?_
    refine V_zret d_Sets_has_16 rfl (by first | rfl | decide | assumption) ?_
    exact ⟨by rw [(has_eq x hj).mp b8]; rfl, rfl⟩
  · refine V_iconst (v := 1) d_Sets_has_11 (by decide) ?_
    refine V_goto (tgt := 16) d_Sets_has_12 (by decide) ?_
    refine V_zret d_Sets_has_16 rfl (by first | rfl | decide | assumption) ?_
    have : bt x (29 - j) = true := by
      cases hb : bt x (29 - j) with
      | true => rfl
      | false => exact absurd ((has_eq x hj).mpr hb) b8
    exact ⟨by rw [this]; rfl, rfl⟩
/-- the least place of a set, -1 if there is none -/
def fsI (x : Int32) : Int32 := if fa_first (fun j => bt x (29 - j)) 30 < 30 then nI (fa_first (fun j => bt x (29 - j)) 30) else -1
theorem c_first {E : Wd} (h : Hp) (x : Int32) : Cd E 1 m_Sets_first [.int x] h (some (.int (fsI x))) h := by
  refine Cd_of ok_Sets_first rfl (Nat.le_of_ble_eq_true rfl) (L := [some (.int x), none]) rfl ?_
  refine V_iconst (v := 0) d_Sets_first_0 (by decide) ?_
  refine V_istore_n d_Sets_first_1 (by decide) ?_
  dsimp only [List.set]
  have loop : ∀ n j, j + n = 30 → (∀ i, i < j → bt x (29 - i) = false) → V E 1 m_Sets_first (fun v' h' => v' = some (.int (fsI x)) ∧ h' = h) 2 [some (.int x), some (.int (nI j))] [] h := by
    intro n
    induction n with
    | zero =>
      intro j hj hno
      have hj : j = 30 := by omega
      subst hj
      refine V_iload_n d_Sets_first_2 rfl ?_
      refine V_bipush (v := 30) d_Sets_first_3 (by decide) ?_
      refine V_icmp_ge (tgt := 24) d_Sets_first_5 (by decide) (fun b5 => ?_) (fun b5 => ?_)
      · refine V_iconst (v := -1) d_Sets_first_24 (by decide) ?_
        refine V_iret d_Sets_first_25 rfl ?_
        refine ⟨?_, rfl⟩
        unfold fsI
        rw [first_none hno, if_neg (Nat.lt_irrefl _)]
      · exact absurd (by decide) b5
    | succ n ih =>
      intro j hj hno
      refine V_iload_n d_Sets_first_2 rfl ?_
      refine V_bipush (v := 30) d_Sets_first_3 (by decide) ?_
      refine V_icmp_ge (tgt := 24) d_Sets_first_5 (by decide) (fun b5 => ?_) (fun b5 => ?_)
      · exact absurd b5 (by rw [show (30 : Int32) = nI 30 from rfl, nI_leI (by omega) (by omega)]; omega)
      · refine V_iload_n d_Sets_first_8 rfl ?_
        refine V_iload_n d_Sets_first_9 rfl ?_
        refine V_callS1 d_Sets_first_10 k_Sets_9 rfl (c_has h x (show j < 30 by omega)) rfl (by first | decide | omega) rfl (Nat.le_of_ble_eq_true rfl) ?_
        refine V_if_eq (tgt := 18) d_Sets_first_13 (by decide) (fun b13 => ?_) (fun b13 => ?_)
        · refine V_iincw (w := 1) d_Sets_first_18 rfl (by decide) (by decide) ?_
          dsimp only [List.set]
          refine V_goto (tgt := 2) d_Sets_first_21 (by decide) ?_
          rw [nI_1]
          refine ih (j + 1) (by omega) (fun i hi => ?_)
          rcases Nat.lt_or_ge i j with q | q
          · exact hno i q
          · have : i = j := by omega
            subst this
            cases hb : bt x (29 - i) with
            | false => rfl
            | true => rw [hb] at b13; exact absurd b13 (by decide)
        · refine V_iload_n d_Sets_first_16 rfl ?_
          refine V_iret d_Sets_first_17 rfl ?_
          have hb : bt x (29 - j) = true := by
            cases hb : bt x (29 - j) with
            | true => rfl
            | false => rw [hb] at b13; exact absurd rfl b13
          refine ⟨?_, rfl⟩
          unfold fsI
          rw [first_eq (show j < 30 by omega) hb hno, if_pos (by omega)]
  exact loop 30 0 rfl (fun i hi => absurd hi (Nat.not_lt_zero i))
/-- no bits beyond the places -/
def hi0 (x : Int32) : Prop := ∀ i, 30 ≤ i → bt x i = false
theorem c_last {E : Wd} (h : Hp) {x : Int32} {k : Nat} (hk : k < 30) (h1 : bt x k = true) (h2 : ∀ i, i < k → bt x i = false) : Cd E 1 m_Sets_last [.int x] h (some (.int (nI (29 - k)))) h := by
  refine Cd_of ok_Sets_last rfl (Nat.le_of_ble_eq_true rfl) (L := [some (.int x)]) rfl ?_
  refine V_bipush (v := 29) d_Sets_last_0 (by decide) ?_
  refine V_iload_n d_Sets_last_2 rfl ?_
  refine V_iload_n d_Sets_last_3 rfl ?_
  refine V_ineg d_Sets_last_4 ?_
  refine V_iand d_Sets_last_5 ?_
  refine V_iconst (v := 1) d_Sets_last_6 (by decide) ?_
  refine V_isub d_Sets_last_7 ?_
  rw [b_low (by omega) h1 h2]
  refine V_callS1 d_Sets_last_8 k_Sets_15 rfl (c_bitCount h _) rfl (by first | decide | omega) rfl (Nat.le_of_ble_eq_true rfl) ?_
  rw [bcI_low k (by omega)]
  refine V_isub d_Sets_last_11 ?_
  refine V_iret d_Sets_last_12 rfl ?_
  exact ⟨by rw [sub29 k hk], rfl⟩
/-- the sum of a row over the places of a set -/
def smP (f : Nat → Int32) (P : Nat → Bool) : Nat → Int32
  | 0 => 0
  | n + 1 => smP f P n + if P n then f n else 0
theorem smP_cong {f : Nat → Int32} {P P' : Nat → Bool} : ∀ {n : Nat}, (∀ i, i < n → P i = P' i) → smP f P n = smP f P' n
  | 0, _ => rfl
  | n + 1, h => by rw [smP, smP, smP_cong (fun i hi => h i (by omega)), h n (by omega)]
theorem smP_none {f : Nat → Int32} {P : Nat → Bool} : ∀ {n : Nat}, (∀ i, i < n → P i = false) → smP f P n = 0
  | 0, _ => rfl
  | n + 1, h => by rw [smP, smP_none (fun i hi => h i (by omega)), h n (by omega)]; rfl
/-- without one place -/
theorem smP_take {f : Nat → Int32} {P : Nat → Bool} {j : Nat} (hP : P j = true) : ∀ {n : Nat}, j < n → smP f P n = smP f (fun i => P i && !decide (i = j)) n + f j
  | 0, h => absurd h (Nat.not_lt_zero j)
  | n + 1, h => by
    rw [smP, smP]
    rcases Nat.lt_or_ge j n with q | q
    · rw [smP_take hP q]
      have : (P n && !decide (n = j)) = P n := by simp [show ¬ n = j by omega]
      rw [this, Int32.add_assoc, Int32.add_assoc, Int32.add_comm (f j)]
    · have : n = j := by omega
      subst this
      have e1 : smP f (fun i => P i && !decide (i = n)) n = smP f P n := smP_cong (fun i hi => by simp [show ¬ i = n by omega])
      rw [e1, hP]
      simp
def cs (x : Int32) : Nat → Bool := fun j => bt x (29 - j)
/-- how many bits below n -/
def pop (x : Int32) (n : Nat) : Nat := fa_cnt (bt x) n
theorem pop_le (x : Int32) (n : Nat) : pop x n ≤ n := fa_cnt_le _ n
theorem pop_pos {x : Int32} {k n : Nat} (hk : k < n) (h : bt x k = true) : 0 < pop x n := by
  induction n with
  | zero => omega
  | succ n ih =>
    unfold pop fa_cnt
    rcases Nat.lt_or_ge k n with q | q
    · have := ih q
      unfold pop at this
      omega
    · have : k = n := by omega
      subst this
      rw [h]
      simp
theorem cnt_take {p : Nat → Bool} {j : Nat} (hP : p j = true) : ∀ {n : Nat}, j < n → fa_cnt p n = fa_cnt (fun i => p i && !decide (i = j)) n + 1
  | 0, h => absurd h (Nat.not_lt_zero j)
  | n + 1, h => by
    rw [fa_cnt, fa_cnt]
    rcases Nat.lt_or_ge j n with q | q
    · rw [cnt_take hP q]
      have : (p n && !decide (n = j)) = p n := by simp [show ¬ n = j by omega]
      rw [this]
      omega
    · have : n = j := by omega
      subst this
      have e1 : fa_cnt (fun i => p i && !decide (i = n)) n = fa_cnt p n := fa_cnt_cong (fun i hi => by simp [show ¬ i = n by omega])
      rw [e1, hP]
      simp
theorem low30 {x : Int32} (hx : hi0 x) (h : x ≠ 0) : ∃ k, k < 30 ∧ bt x k = true ∧ ∀ i, i < k → bt x i = false := by
  obtain ⟨k, hk, h1, h2⟩ := low_ex h
  refine ⟨k, ?_, h1, h2⟩
  rcases Nat.lt_or_ge k 30 with q | q
  · exact q
  · rw [hx k q] at h1; cases h1
theorem clear_bt {x : Int32} {k : Nat} (hk : k < 30) (h1 : bt x k = true) (h2 : ∀ i, i < k → bt x i = false) (i : Nat) : bt (x &&& (x - 1)) i = (bt x i && !decide (i = k)) := by
  rcases Nat.lt_or_ge i 32 with q | q
  · exact b_clear (by omega) h1 h2 q
  · rw [b_big q, b_big q]; rfl
theorem clear_hi {x : Int32} {k : Nat} (hx : hi0 x) (hk : k < 30) (h1 : bt x k = true) (h2 : ∀ i, i < k → bt x i = false) : hi0 (x &&& (x - 1)) := fun i hi => by rw [clear_bt hk h1 h2, hx i hi]; rfl
theorem clear_pop {x : Int32} {k : Nat} (hk : k < 30) (h1 : bt x k = true) (h2 : ∀ i, i < k → bt x i = false) : pop x 30 = pop (x &&& (x - 1)) 30 + 1 := by
  unfold pop
  rw [cnt_take h1 hk]
  congr 1
  exact fa_cnt_cong (fun i _ => (clear_bt hk h1 h2 i).symm)
theorem clear_sum {f : Nat → Int32} {x : Int32} {k : Nat} (hk : k < 30) (h1 : bt x k = true) (h2 : ∀ i, i < k → bt x i = false) : smP f (cs x) 30 = smP f (cs (x &&& (x - 1))) 30 + f (29 - k) := by
  have e : smP f (fun i => cs x i && !decide (i = 29 - k)) 30 = smP f (cs (x &&& (x - 1))) 30 := by
    apply smP_cong
    intro i hi
    unfold cs
    rw [clear_bt hk h1 h2, show decide (i = 29 - k) = decide (29 - i = k) from decide_eq_decide.mpr (by omega)]
  rw [smP_take (P := cs x) (j := 29 - k) (by unfold cs; rw [show 29 - (29 - k) = k by omega]; exact h1) (by omega), e]
theorem sum_0 (f : Nat → Int32) : smP f (cs 0) 30 = 0 := smP_none (fun i _ => b_0 _)
theorem c_sum {E : Wd} (h : Hp) {r : Nat} (hr : shp[r]? = some (.inl (false, 30))) {x : Int32} (hx : hi0 x) : Cd E 2 m_Sets_sum [.ref r, .int x] h (some (.int (smP (h r) (cs x) 30))) h := by
  refine Cd_of ok_Sets_sum rfl (Nat.le_of_ble_eq_true rfl) (L := [some (.ref r), some (.int x), none, none, none]) rfl ?_
  refine V_iconst (v := 0) d_Sets_sum_0 (by decide) ?_
  refine V_istore_n d_Sets_sum_1 (by decide) ?_
  dsimp only [List.set]
  refine V_iload_n d_Sets_sum_2 rfl ?_
  refine V_istore_n d_Sets_sum_3 (by decide) ?_
  dsimp only [List.set]
  refine V_iconst (v := 0) d_Sets_sum_4 (by decide) ?_
  refine V_istore d_Sets_sum_5 (by decide) ?_
  dsimp only [List.set]
  have loop : ∀ n i (s o : Int32), i + n = 30 → hi0 o → pop o 30 ≤ n → s + smP (h r) (cs o) 30 = smP (h r) (cs x) 30 → V E 2 m_Sets_sum (fun v' h' => v' = some (.int (smP (h r) (cs x) 30)) ∧ h' = h) 7 [some (.ref r), some (.int x), some (.int s), some (.int o), some (.int (nI i))] [] h := by
    intro n
    induction n with
    | zero =>
      intro i s o hi ho hp hs
      have hi : i = 30 := by omega
      subst hi
      refine V_iload d_Sets_sum_7 rfl ?_
      refine V_bipush (v := 30) d_Sets_sum_9 (by decide) ?_
      refine V_icmp_ge (tgt := 39) d_Sets_sum_11 (by decide) (fun b11 => ?_) (fun b11 => ?_)
      · refine V_iload_n d_Sets_sum_39 rfl ?_
        refine V_iret d_Sets_sum_40 rfl ?_
        refine ⟨?_, rfl⟩
        have h0 : o = 0 := by
          apply Classical.byContradiction
          intro hn
          obtain ⟨k, hk, h1, h2⟩ := low30 ho hn
          have := pop_pos hk h1
          omega
        rw [← hs, h0, sum_0, Int32.add_zero]
      · exact absurd (by decide) b11
    | succ n ih =>
      intro i s o hi ho hp hs
      refine V_iload d_Sets_sum_7 rfl ?_
      refine V_bipush (v := 30) d_Sets_sum_9 (by decide) ?_
      refine V_icmp_ge (tgt := 39) d_Sets_sum_11 (by decide) (fun b11 => ?_) (fun b11 => ?_)
      · exact absurd b11 (by rw [show (30 : Int32) = nI 30 from rfl, nI_leI (by omega) (by omega)]; omega)
      · refine V_iload_n d_Sets_sum_14 rfl ?_
        refine V_if_eq (tgt := 39) d_Sets_sum_15 (by decide) (fun b15 => ?_) (fun b15 => ?_)
        · refine V_iload_n d_Sets_sum_39 rfl ?_
          refine V_iret d_Sets_sum_40 rfl ?_
          refine ⟨?_, rfl⟩
          rw [← hs, b15, sum_0, Int32.add_zero]
        · obtain ⟨k, hk, h1, h2⟩ := low30 ho b15
          refine V_iload_n d_Sets_sum_18 rfl ?_
          refine V_aload_n d_Sets_sum_19 rfl ?_
          refine V_iload_n d_Sets_sum_20 rfl ?_
          refine V_callS1 d_Sets_sum_21 k_Sets_21 rfl (c_last h hk h1 h2) rfl (by first | decide | omega) rfl (Nat.le_of_ble_eq_true rfl) ?_
          refine V_iald d_Sets_sum_24 (by first | rfl | assumption) (by first | assumption | exact vp_in_nI (by omega) (by omega)) ?_
          refine V_iadd d_Sets_sum_25 ?_
          refine V_istore_n d_Sets_sum_26 (by decide) ?_
          dsimp only [List.set]
          refine V_iload_n d_Sets_sum_27 rfl ?_
          refine V_iload_n d_Sets_sum_28 rfl ?_
          refine V_iconst (v := 1) d_Sets_sum_29 (by decide) ?_
          refine V_isub d_Sets_sum_30 ?_
          refine V_iand d_Sets_sum_31 ?_
          refine V_istore_n d_Sets_sum_32 (by decide) ?_
          dsimp only [List.set]
          refine V_iincw (w := 1) d_Sets_sum_33 rfl (by decide) (by decide) ?_
          dsimp only [List.set]
          refine V_goto (tgt := 7) d_Sets_sum_36 (by decide) ?_
          rw [nI_1]
          refine ih (i + 1) _ _ (by omega) (clear_hi ho hk h1 h2) ?_ ?_
          · have := clear_pop hk h1 h2
            omega
          · rw [← hs, clear_sum (f := h r) hk h1 h2, nI_clamp (by omega), Int32.add_assoc, Int32.add_comm (h r (29 - k))]
  exact loop 30 0 0 x rfl hx (pop_le _ _) (Int32.zero_add _)
end
section
/-! sets as numbers; what one comes to -/
def encN (P : Nat → Bool) : Nat → Nat
  | 0 => 0
  | n + 1 => encN P n + if P n then 2 ^ n else 0
theorem encN_lt (P : Nat → Bool) : ∀ n, encN P n < 2 ^ n
  | 0 => by simp [encN]
  | n + 1 => by
    have := encN_lt P n
    rw [encN, Nat.pow_succ]
    split <;> omega
theorem encN_bit (P : Nat → Bool) (i : Nat) : ∀ n, (encN P n).testBit i = (decide (i < n) && P i)
  | 0 => by simp [encN]
  | n + 1 => by
    have h1 := encN_bit P i n
    have h2 := encN_lt P n
    rw [encN]
    cases hp : P n with
    | false =>
      simp only [Bool.false_eq_true, if_false, Nat.add_zero]
      rw [h1]
      by_cases q : i = n
      · subst q; simp [hp]
      · rw [show decide (i < n + 1) = decide (i < n) from decide_eq_decide.mpr (by omega)]
    | true =>
      simp only [if_true]
      rw [Nat.add_comm, show 2 ^ n + encN P n = 2 ^ n * 1 + encN P n by omega, Nat.testBit_two_pow_mul_add _ h2]
      rcases Nat.lt_trichotomy i n with q | q | q
      · rw [if_pos q, h1]; simp [q, show i < n + 1 by omega]
      · subst q; simp [hp]
      · rw [if_neg (by omega)]
        have h9 : i - n = (i - n - 1) + 1 := by omega
        rw [h9, Nat.testBit_succ]
        simp [show ¬ i < n + 1 by omega]
/-- the class's number of a set of places; the model's -/
def cI (P : Nat → Bool) : Int32 := nI (encN (fun i => P (29 - i)) 30)
def mI (P : Nat → Bool) : Int32 := nI (encN P 30)
theorem cI_bit (P : Nat → Bool) (i : Nat) : bt (cI P) i = (decide (i < 30) && P (29 - i)) := by
  unfold cI
  rw [bt_nI, encN_bit]
  by_cases h : i < 30
  · simp [h, show i < 32 by omega]
  · simp [h]
theorem mI_bit (P : Nat → Bool) (i : Nat) : bt (mI P) i = (decide (i < 30) && P i) := by
  unfold mI
  rw [bt_nI, encN_bit]
  by_cases h : i < 30
  · simp [h, show i < 32 by omega]
  · simp [h]
theorem cI_hi (P : Nat → Bool) : hi0 (cI P) := fun i hi => by rw [cI_bit]; simp [show ¬ i < 30 by omega]
theorem mI_hi (P : Nat → Bool) : hi0 (mI P) := fun i hi => by rw [mI_bit]; simp [show ¬ i < 30 by omega]
theorem cI_cs (P : Nat → Bool) {j : Nat} (hj : j < 30) : cs (cI P) j = P j := by
  unfold cs
  rw [cI_bit, show 29 - (29 - j) = j by omega]
  simp [show 29 - j < 30 by omega]
theorem cI_of {x : Int32} (hx : hi0 x) : x = cI (cs x) := by
  apply b_ext
  intro i hi
  rw [cI_bit]
  unfold cs
  by_cases h : i < 30
  · rw [show 29 - (29 - i) = i by omega]; simp [h]
  · rw [hx i (by omega)]; simp [h]
theorem cI_eq {x : Int32} (hx : hi0 x) {P : Nat → Bool} (h : ∀ j, j < 30 → cs x j = P j) : x = cI P := by
  rw [cI_of hx]
  apply b_ext
  intro i hi
  rw [cI_bit, cI_bit]
  by_cases q : i < 30
  · rw [h _ (by omega)]
  · simp [q]
theorem cI_cong {P P' : Nat → Bool} (h : ∀ j, j < 30 → P j = P' j) : cI P = cI P' := cI_eq (cI_hi P) (fun j hj => by rw [cI_cs P hj, h j hj])
theorem mI_eq {x : Int32} (hx : hi0 x) {P : Nat → Bool} (h : ∀ j, j < 30 → bt x j = P j) : x = mI P := by
  apply b_ext
  intro i hi
  rw [mI_bit]
  by_cases q : i < 30
  · rw [h i q]; simp [q]
  · rw [hx i (by omega)]; simp [q]
theorem mI_cong {P P' : Nat → Bool} (h : ∀ j, j < 30 → P j = P' j) : mI P = mI P' := mI_eq (mI_hi P) (fun j hj => by rw [mI_bit]; simp [hj, h j hj])
theorem cI_inj {P P' : Nat → Bool} (h : cI P = cI P') {j : Nat} (hj : j < 30) : P j = P' j := by rw [← cI_cs P hj, h, cI_cs P' hj]
theorem mI_inj {P P' : Nat → Bool} (h : mI P = mI P') {j : Nat} (hj : j < 30) : P j = P' j := by
  have h1 : bt (mI P) j = bt (mI P') j := by rw [h]
  rw [mI_bit, mI_bit] at h1
  simpa [hj] using h1
/-- a set that holds what X has of S, and with each place its neighbours in S -/
def cloP (N : Nat → Nat → Bool) (S X T : Nat → Bool) : Prop := (∀ j, j < 30 → X j = true → S j = true → T j = true) ∧ ∀ i j, i < 30 → j < 30 → T i = true → S j = true → N i j = true → T j = true
noncomputable def cloB (N : Nat → Nat → Bool) (S X : Nat → Bool) : Nat → Bool := fun j => @decide (∀ T, cloP N S X T → T j = true) (Classical.propDecidable _)
theorem cloB_iff {N : Nat → Nat → Bool} {S X : Nat → Bool} {j : Nat} : cloB N S X j = true ↔ ∀ T, cloP N S X T → T j = true := by
  unfold cloB
  exact @decide_eq_true_iff _ (Classical.propDecidable _)
/-- what is closed, and has nothing that it need not, is the closure -/
theorem cloB_eq {N : Nat → Nat → Bool} {S X F : Nat → Bool} (h1 : cloP N S X F) (h2 : ∀ T, cloP N S X T → ∀ j, j < 30 → F j = true → T j = true) {j : Nat} (hj : j < 30) : F j = cloB N S X j := by
  cases hF : F j with
  | true => exact (cloB_iff.mpr (fun T hT => h2 T hT j hj hF)).symm
  | false =>
    cases hc : cloB N S X j with
    | false => rfl
    | true => rw [cloB_iff.mp hc F h1] at hF; cases hF
theorem pop_or {x y : Int32} : ∀ {n : Nat}, (∀ i, i < n → ¬ (bt x i = true ∧ bt y i = true)) → pop (x ||| y) n = pop x n + pop y n
  | 0, _ => rfl
  | n + 1, h => by
    have ih := pop_or (x := x) (y := y) (n := n) (fun i hi => h i (by omega))
    unfold pop at ih ⊢
    rw [fa_cnt, fa_cnt, fa_cnt, ih, b_or]
    have := h n (by omega)
    cases h1 : bt x n <;> cases h2 : bt y n <;> simp_all <;> omega
theorem pop_0 {x : Int32} (hx : hi0 x) (h : pop x 30 = 0) : x = 0 := by
  apply Classical.byContradiction
  intro hn
  obtain ⟨k, hk, h1, h2⟩ := low30 hx hn
  have := pop_pos hk h1
  omega
theorem cs_and (x y : Int32) (j : Nat) : cs (x &&& y) j = (cs x j && cs y j) := b_and _ _ _
theorem cs_or (x y : Int32) (j : Nat) : cs (x ||| y) j = (cs x j || cs y j) := b_or _ _ _
theorem cs_not (x : Int32) (j : Nat) : cs (x ^^^ (-1)) j = !cs x j := b_not _ (by omega)
theorem hi_or {x y : Int32} (hx : hi0 x) (hy : hi0 y) : hi0 (x ||| y) := fun i hi => by rw [b_or, hx i hi, hy i hi]; rfl
theorem hi_and {x y : Int32} (hx : hi0 x) : hi0 (x &&& y) := fun i hi => by rw [b_and, hx i hi]; rfl
theorem hi_and' {x y : Int32} (hy : hi0 y) : hi0 (x &&& y) := fun i hi => by rw [b_and, hy i hi, Bool.and_false]
theorem cs_clear {x : Int32} {k : Nat} (hk : k < 30) (h1 : bt x k = true) (h2 : ∀ i, i < k → bt x i = false) {j : Nat} (hj : j < 30) : cs (x &&& (x - 1)) j = (cs x j && !decide (j = 29 - k)) := by
  unfold cs
  rw [clear_bt hk h1 h2, show decide (29 - j = k) = decide (j = 29 - k) from decide_eq_decide.mpr (by omega)]
/-- spread(next, set, start) -/
theorem c_spread {E : Wd} (h : Hp) {r : Nat} (hr : shp[r]? = some (.inl (false, 30))) (S X : Int32) (hS : hi0 S) :
    Cd E 1 m_Sets_spread [.ref r, .int S, .int X] h (some (.int (cI (cloB (fun i j => cs (h r i) j) (cs S) (cs X))))) h := by
  refine Cd_of ok_Sets_spread rfl (Nat.le_of_ble_eq_true rfl) (L := [some (.ref r), some (.int S), some (.int X), none, none, none, none, none]) rfl ?_
  refine V_iload_n d_Sets_spread_0 rfl ?_
  refine V_iload_n d_Sets_spread_1 rfl ?_
  refine V_iand d_Sets_spread_2 ?_
  refine V_istore_n d_Sets_spread_3 (by decide) ?_
  dsimp only [List.set]
  refine V_iload_n d_Sets_spread_4 rfl ?_
  refine V_istore d_Sets_spread_5 (by decide) ?_
  dsimp only [List.set]
  refine V_iconst (v := 0) d_Sets_spread_7 (by decide) ?_
  refine V_istore d_Sets_spread_8 (by decide) ?_
  dsimp only [List.set]
  have loop : ∀ n i (F O : Int32) (u7 u8 : Option Value), i + n = 30 → hi0 F → hi0 O → pop F 30 = pop O 30 + i → (∀ j, j < 30 → cs O j = true → cs F j = true) → (∀ j, j < 30 → cs F j = true → cs S j = true) →
      (∀ j, j < 30 → cs X j = true → cs S j = true → cs F j = true) → (∀ T, cloP (fun i j => cs (h r i) j) (cs S) (cs X) T → ∀ j, j < 30 → cs F j = true → T j = true) →
      (∀ a b, a < 30 → b < 30 → cs F a = true → cs O a = false → cs S b = true → cs (h r a) b = true → cs F b = true) →
      V E 1 m_Sets_spread (fun v' h' => v' = some (.int (cI (cloB (fun i j => cs (h r i) j) (cs S) (cs X)))) ∧ h' = h) 10 [some (.ref r), some (.int S), some (.int X), some (.int F), some (.int O), some (.int (nI i)), u7, u8] [] h := by
    intro n
    induction n with
    | zero =>
      intro i F O u7 u8 hi hF hO hp hOF hFS hXF hmin hcl
      have hi : i = 30 := by omega
      subst hi
      have h0 : O = 0 := by
        apply pop_0 hO
        have := pop_le F 30
        omega
      refine V_iload d_Sets_spread_10 rfl ?_
      refine V_bipush (v := 30) d_Sets_spread_12 (by decide) ?_
      refine V_icmp_ge (tgt := 73) d_Sets_spread_14 (by decide) (fun b14 => ?_) (fun b14 => ?_)
      · refine V_iload_n d_Sets_spread_73 rfl ?_
        refine V_iret d_Sets_spread_74 rfl ?_
        refine ⟨?_, rfl⟩
        rw [cI_eq hF (fun j hj => cloB_eq ⟨hXF, fun a b ha hb h1 h2 h3 => hcl a b ha hb h1 (by rw [h0]; exact b_0 _) h2 h3⟩ hmin hj)]
      · exact absurd (by decide) b14
    | succ n ih =>
      intro i F O u7 u8 hi hF hO hp hOF hFS hXF hmin hcl
      refine V_iload d_Sets_spread_10 rfl ?_
      refine V_bipush (v := 30) d_Sets_spread_12 (by decide) ?_
      refine V_icmp_ge (tgt := 73) d_Sets_spread_14 (by decide) (fun b14 => ?_) (fun b14 => ?_)
      · exact absurd b14 (by rw [show (30 : Int32) = nI 30 from rfl, nI_leI (by omega) (by omega)]; omega)
      · refine V_iload d_Sets_spread_17 rfl ?_
        refine V_if_eq (tgt := 73) d_Sets_spread_19 (by decide) (fun b19 => ?_) (fun b19 => ?_)
        · refine V_iload_n d_Sets_spread_73 rfl ?_
          refine V_iret d_Sets_spread_74 rfl ?_
          refine ⟨?_, rfl⟩
          rw [cI_eq hF (fun j hj => cloB_eq ⟨hXF, fun a b ha hb h1 h2 h3 => hcl a b ha hb h1 (by rw [b19]; exact b_0 _) h2 h3⟩ hmin hj)]
        · obtain ⟨k, hk, h1, h2⟩ := low30 hO b19
          refine V_bipush (v := 29) d_Sets_spread_22 (by decide) ?_
          refine V_iload d_Sets_spread_24 rfl ?_
          refine V_iload d_Sets_spread_26 rfl ?_
          refine V_ineg d_Sets_spread_28 ?_
          refine V_iand d_Sets_spread_29 ?_
          refine V_iconst (v := 1) d_Sets_spread_30 (by decide) ?_
          refine V_isub d_Sets_spread_31 ?_
          rw [b_low (by omega) h1 h2]
          refine V_callS1 d_Sets_spread_32 k_Sets_15 rfl (c_bitCount h _) rfl (by first | decide | omega) rfl (Nat.le_of_ble_eq_true rfl) ?_
          rw [bcI_low k (by omega)]
          refine V_isub d_Sets_spread_35 ?_
          rw [sub29 k hk]
          refine V_istore d_Sets_spread_36 (by decide) ?_
          dsimp only [List.set]
          refine V_aload_n d_Sets_spread_38 rfl ?_
          refine V_iload d_Sets_spread_39 rfl ?_
          refine V_iald d_Sets_spread_41 (by first | rfl | assumption) (by first | assumption | exact vp_in_nI (by omega) (by omega)) ?_
          refine V_iload_n d_Sets_spread_42 rfl ?_
          refine V_iand d_Sets_spread_43 ?_
          refine V_iload_n d_Sets_spread_44 rfl ?_
          refine V_iconst (v := -1) d_Sets_spread_45 (by decide) ?_
          refine V_ixor d_Sets_spread_46 ?_
          refine V_iand d_Sets_spread_47 ?_
          refine V_istore d_Sets_spread_48 (by decide) ?_
          dsimp only [List.set]
          refine V_iload_n d_Sets_spread_50 rfl ?_
          refine V_iload d_Sets_spread_51 rfl ?_
          refine V_ior d_Sets_spread_53 ?_
          refine V_istore_n d_Sets_spread_54 (by decide) ?_
          dsimp only [List.set]
          refine V_iload d_Sets_spread_55 rfl ?_
          refine V_iload d_Sets_spread_57 rfl ?_
          refine V_iconst (v := 1) d_Sets_spread_59 (by decide) ?_
          refine V_isub d_Sets_spread_60 ?_
          refine V_iand d_Sets_spread_61 ?_
          refine V_iload d_Sets_spread_62 rfl ?_
          refine V_ior d_Sets_spread_64 ?_
          refine V_istore d_Sets_spread_65 (by decide) ?_
          dsimp only [List.set]
          refine V_iincw (w := 1) d_Sets_spread_67 rfl (by decide) (by decide) ?_
          dsimp only [List.set]
          refine V_goto (tgt := 10) d_Sets_spread_70 (by decide) ?_
          rw [nI_clamp (by omega), nI_1]
          have hfr : ∀ j, cs (h r (29 - k) &&& S &&& (F ^^^ -1)) j = (cs (h r (29 - k)) j && cs S j && !cs F j) := fun j => by rw [cs_and, cs_and, cs_not]
          generalize hg : h r (29 - k) &&& S &&& (F ^^^ -1) = G at hfr ⊢
          have hG : hi0 G := by rw [← hg]; exact hi_and (hi_and' hS)
          have hka : cs O (29 - k) = true := by unfold cs; rw [show 29 - (29 - k) = k by omega]; exact h1
          have hdis : ∀ j, j < 30 → cs G j = true → cs F j = false := fun j hj hgj => by
            rw [hfr] at hgj
            simp at hgj
            exact hgj.2
          have bits : ∀ {x y : Int32}, (∀ j, j < 30 → cs x j = true → cs y j = false) → ∀ i, i < 30 → ¬ (bt y i = true ∧ bt x i = true) := by
            intro x y hxy i hi q
            have := hxy (29 - i) (by omega) (by unfold cs; rw [show 29 - (29 - i) = i by omega]; exact q.2)
            unfold cs at this
            rw [show 29 - (29 - i) = i by omega, q.1] at this
            cases this
          refine ih (i + 1) _ _ _ _ (by omega) (hi_or hF hG) (hi_or (clear_hi hO hk h1 h2) hG) ?_ ?_ ?_ ?_ ?_ ?_
          · rw [pop_or (bits hdis), pop_or (bits (fun j hj hgj => ?_))]
            · have := clear_pop hk h1 h2
              omega
            · rw [cs_clear hk h1 h2 hj]
              cases ho : cs O j with
              | false => rfl
              | true => have := hOF j hj ho; rw [hdis j hj hgj] at this; cases this
          · intro j hj q
            rw [cs_or, cs_clear hk h1 h2 hj] at q
            rw [cs_or]
            cases hgj : cs G j with
            | true => simp
            | false =>
              rw [hgj] at q
              simp at q
              simp [hOF j hj q.1]
          · intro j hj q
            rw [cs_or] at q
            cases hfj : cs F j with
            | true => exact hFS j hj hfj
            | false =>
              rw [hfj, hfr] at q
              simp at q
              exact q.1.2
          · intro j hj q1 q2
            rw [cs_or, hXF j hj q1 q2]
            rfl
          · intro T hT j hj q
            rw [cs_or] at q
            cases hfj : cs F j with
            | true => exact hmin T hT j hj hfj
            | false =>
              rw [hfj, hfr] at q
              simp at q
              exact hT.2 (29 - k) j (by omega) hj (hmin T hT _ (by omega) (hOF _ (by omega) hka)) q.1.2 q.1.1
          · intro a b ha hb q1 q2 q3 q4
            rw [cs_or]
            rw [cs_or] at q1 q2
            rw [cs_clear hk h1 h2 ha] at q2
            have hga : cs G a = false := by
              cases hx : cs G a with
              | false => rfl
              | true => rw [hx, Bool.or_true] at q2; cases q2
            rw [hga, Bool.or_false] at q1 q2
            by_cases hak : a = 29 - k
            · subst hak
              cases hfb : cs F b with
              | true => rfl
              | false => rw [hfr, q4, q3, hfb]; rfl
            · simp [hak] at q2
              rw [hcl a b ha hb q1 q2 q3 q4]
              rfl
  refine loop 30 0 _ _ _ _ rfl (hi_and' hS) (hi_and' hS) rfl (fun j _ q => q) ?_ ?_ ?_ ?_
  · intro j hj q
    rw [cs_and] at q
    simp at q
    exact q.2
  · intro j hj q1 q2
    rw [cs_and, q1, q2]
    rfl
  · intro T hT j hj q
    rw [cs_and] at q
    simp at q
    exact hT.1 j hj q.1 q.2
  · intro a b ha hb q1 q2
    rw [q1] at q2
    cases q2
end
section
/-! rows, loops, and Parting -/
theorem up_ind (N : Nat) {P : Nat → Prop} (h : ∀ i, i ≤ N → (i < N → P (i + 1)) → P i) : ∀ i, i ≤ N → P i := by
  have key : ∀ m i, i + m = N → P i := by
    intro m
    induction m with
    | zero => intro i hi; exact h i (by omega) (fun q => by omega)
    | succ m ih => intro i hi; exact h i (by omega) (fun _ => ih (i + 1) (by omega))
  intro i hi
  exact key (N - i) i (by omega)
theorem le_nI {x y : Int32} (a b : Nat) (hx : x = nI a) (hy : y = nI b) (ha : a < 2 ^ 31) (hb : b < 2 ^ 31) : x ≤ y ↔ a ≤ b := by rw [hx, hy]; exact nI_leI ha hb
theorem lt_nI {x y : Int32} (a b : Nat) (hx : x = nI a) (hy : y = nI b) (ha : a < 2 ^ 31) (hb : b < 2 ^ 31) : x < y ↔ a < b := by rw [hx, hy]; exact nI_ltI ha hb
theorem eq_nI {x y : Int32} (a b : Nat) (hx : x = nI a) (hy : y = nI b) (ha : a < 2 ^ 31) (hb : b < 2 ^ 31) : x = y ↔ a = b := by rw [hx, hy]; exact nI_eq ha hb
theorem hup_hrow (h : Hp) (o i : Nat) (f : Nat → Int32) (x : Int32) : hup (hrow h o f) o i x = hrow h o (upd f i x) := by
  rw [hup_row, hrow_twice, hrow_same]
theorem hup_ne {h : Hp} {o q i : Nat} {x : Int32} (hq : q ≠ o) : hup h o i x q = h q := by simp [hup, hq]
theorem hup_same (h : Hp) (o i : Nat) (x : Int32) : hup h o i x o = upd (h o) i x := by simp [hup]
theorem c_fill {E : Wd} (h : Hp) {a n : Nat} (hn : n < 2 ^ 31) (ha : shp[a]? = some (.inl (false, n))) (v : Int32) : Cd E 0 m_Arrays_fill_53178 [.ref a, .int v] h none (hrow h a (fa_fill (fun _ => v) (h a) n)) := by
  refine Cd_of ok_Arrays_fill_53178 rfl (Nat.le_of_ble_eq_true rfl) (L := [some (.ref a), some (.int v), none, none]) rfl ?_
  refine V_iconst (v := 0) d_Arrays_fill_53178_0 (by decide) ?_
  refine V_istore_n d_Arrays_fill_53178_1 (by decide) ?_
  dsimp only [List.set]
  refine V_aload_n d_Arrays_fill_53178_2 rfl ?_
  refine V_alen d_Arrays_fill_53178_3 (by first | rfl | assumption) rfl ?_
  refine V_istore_n d_Arrays_fill_53178_4 (by decide) ?_
  dsimp only [List.set]
  have loop : ∀ i, i ≤ n → V E 0 m_Arrays_fill_53178 (fun v' h' => v' = none ∧ h' = hrow h a (fa_fill (fun _ => v) (h a) n)) 5 [some (.ref a), some (.int v), some (.int (nI i)), some (.int (Int32.ofNat n))] [] (hrow h a (fa_fill (fun _ => v) (h a) i)) := by
    refine up_ind n ?_
    intro i hi ih
    refine V_iload_n d_Arrays_fill_53178_5 rfl ?_
    refine V_iload_n d_Arrays_fill_53178_6 rfl ?_
    refine V_icmp_ge (tgt := 20) d_Arrays_fill_53178_7 (by decide) (fun b7 => ?_) (fun b7 => ?_)
    · have hin : i = n := by
        have := (le_nI n i rfl rfl hn (by omega)).mp b7
        omega
      subst hin
      refine V_vret d_Arrays_fill_53178_20 rfl ?_
      exact ⟨rfl, rfl⟩
    · have hin : i < n := by
        rcases Nat.lt_or_ge i n with q | q
        · exact q
        · exact absurd ((le_nI n i rfl rfl hn (by omega)).mpr q) b7
      refine V_aload_n d_Arrays_fill_53178_10 rfl ?_
      refine V_iload_n d_Arrays_fill_53178_11 rfl ?_
      refine V_iload_n d_Arrays_fill_53178_12 rfl ?_
      refine V_iast d_Arrays_fill_53178_13 (by first | rfl | assumption) (by first | assumption | exact vp_in_nI (by omega) (by omega)) ?_
      refine V_iincw (w := 1) d_Arrays_fill_53178_14 rfl (by decide) (by decide) ?_
      dsimp only [List.set]
      refine V_goto (tgt := 5) d_Arrays_fill_53178_17 (by decide) ?_
      rw [nI_clamp (by omega), hup_hrow, show upd (fa_fill (fun _ => v) (h a) i) i v = fa_fill (fun _ => v) (h a) (i + 1) from fa_fill_succ (fun _ => v) (h a) i, nI_1]
      exact ih hin
  have h0 := loop 0 (Nat.zero_le n)
  rw [fa_fill_0, hrow_self] at h0
  exact h0
/-- a Parting's cells -/
def isPt (o : Nat) : Prop := shp[o]? = some (.inr (6, [some (o + 1), some (o + 2)])) ∧ shp[o + 1]? = some (.inl (false, 30)) ∧ shp[o + 2]? = some (.inl (false, 6))
theorem pt_14 : isPt 14 := ⟨rfl, rfl, rfl⟩
theorem pt_w : isPt 31 := ⟨rfl, rfl, rfl⟩
theorem pt_t : isPt 36 := ⟨rfl, rfl, rfl⟩
theorem pt_b : isPt 39 := ⟨rfl, rfl, rfl⟩
/-- where[j] = ds j; sets[d] = the places j of A with ds j = d -/
def PartW (h : Hp) (o : Nat) (A : Nat → Bool) (ds : Nat → Nat) : Prop := (∀ j, j < 30 → ds j < 6 ∧ h (o + 1) j = nI (ds j)) ∧ ∀ d, d < 6 → h (o + 2) d = cI (fun j => A j && decide (ds j = d))
theorem PartW.cong {h h' : Hp} {o : Nat} {A A' : Nat → Bool} {ds ds' : Nat → Nat} (hw : PartW h o A ds) (e1 : h' (o + 1) = h (o + 1)) (e2 : h' (o + 2) = h (o + 2)) (hA : ∀ j, j < 30 → A j = A' j) (hd : ∀ j, j < 30 → ds j = ds' j) : PartW h' o A' ds' := by
  refine ⟨fun j hj => ?_, fun d hd6 => ?_⟩
  · rw [e1, ← hd j hj]; exact hw.1 j hj
  · rw [e2, hw.2 d hd6]
    exact cI_cong (fun j hj => by rw [hA j hj, hd j hj])
def setA (A : Nat → Bool) (p : Nat) : Nat → Bool := fun j => decide (j = p) || A j
def setN (ds : Nat → Nat) (p d : Nat) : Nat → Nat := fun j => if j = p then d else ds j
theorem cs_onl {p j : Nat} (hp : p < 30) (hj : j < 30) : cs (onl p) j = decide (j = p) := by
  unfold cs
  rw [b_onl p hp (29 - j) (by omega)]
  exact decide_eq_decide.mpr (by omega)
theorem onl_hi {p : Nat} (hp : p < 30) : hi0 (onl p) := fun i hi => by
  rcases Nat.lt_or_ge i 32 with q | q
  · rw [b_onl p hp i q]; simp; omega
  · exact b_big q
theorem c_move {E : Wd} (h : Hp) {o : Nat} (ho : isPt o) {A : Nat → Bool} {ds : Nat → Nat} (hw : PartW h o A ds) {p d : Nat} (hp : p < 30) (hd : d < 6) :
    Cq E 1 m_Parting_move [.ref o, .int (nI p), .int (nI d)] h (fun v h' => v = none ∧ PartW h' o (setA A p) (setN ds p d) ∧ ∀ q, q ≠ o + 1 → q ≠ o + 2 → h' q = h q) := by
  obtain ⟨ho0, ho1, ho2⟩ := ho
  refine Cq_of2 ok_Parting_move rfl (Nat.le_of_ble_eq_true rfl) (L := [some (.ref o), some (.int (nI p)), some (.int (nI d))]) rfl ?_
  have hin : vp_in (nI p) 30 := vp_in_nI hp (by omega)
  have hin2 : vp_in (nI d) 6 := vp_in_nI hd (by omega)
  refine V_aload_n d_Parting_move_0 rfl ?_
  refine V_getR d_Parting_move_1 f_Parting_15 rfl (by first | rfl | assumption) (by first | rfl | assumption) ?_
  refine V_aload_n d_Parting_move_4 rfl ?_
  refine V_getR d_Parting_move_5 f_Parting_9 rfl (by first | rfl | assumption) (by first | rfl | assumption) ?_
  refine V_iload_n d_Parting_move_8 rfl ?_
  refine V_iald d_Parting_move_9 (by first | rfl | assumption) (by first | assumption | exact vp_in_nI (by omega) (by omega)) ?_
  rw [nI_clamp (by omega), (hw.1 p hp).2]
  have hin3 : vp_in (nI (ds p)) 6 := vp_in_nI (hw.1 p hp).1 (by omega)
  refine V_dup2 d_Parting_move_10 rfl rfl ?_
  refine V_iald d_Parting_move_11 (by first | rfl | assumption) (by first | assumption | exact vp_in_nI (by omega) (by omega)) ?_
  refine V_iload_n d_Parting_move_12 rfl ?_
  refine V_callS1 d_Parting_move_13 k_Parting_18 rfl (c_only h hp) rfl (by first | decide | omega) rfl (Nat.le_of_ble_eq_true rfl) ?_
  refine V_iconst (v := -1) d_Parting_move_16 (by decide) ?_
  refine V_ixor d_Parting_move_17 ?_
  refine V_iand d_Parting_move_18 ?_
  refine V_iast d_Parting_move_19 (by first | rfl | assumption) (by first | assumption | exact vp_in_nI (by omega) (by omega)) ?_
  refine V_aload_n d_Parting_move_20 rfl ?_
  refine V_getR d_Parting_move_21 f_Parting_15 rfl (by first | rfl | assumption) (by first | rfl | assumption) ?_
  refine V_iload_n d_Parting_move_24 rfl ?_
  refine V_dup2 d_Parting_move_25 rfl rfl ?_
  refine V_iald d_Parting_move_26 (by first | rfl | assumption) (by first | assumption | exact vp_in_nI (by omega) (by omega)) ?_
  refine V_iload_n d_Parting_move_27 rfl ?_
  refine V_callS1 d_Parting_move_28 k_Parting_18 rfl (c_only _ hp) rfl (by first | decide | omega) rfl (Nat.le_of_ble_eq_true rfl) ?_
  refine V_ior d_Parting_move_31 ?_
  refine V_iast d_Parting_move_32 (by first | rfl | assumption) (by first | assumption | exact vp_in_nI (by omega) (by omega)) ?_
  refine V_aload_n d_Parting_move_33 rfl ?_
  refine V_getR d_Parting_move_34 f_Parting_9 rfl (by first | rfl | assumption) (by first | rfl | assumption) ?_
  refine V_iload_n d_Parting_move_37 rfl ?_
  refine V_iload_n d_Parting_move_38 rfl ?_
  refine V_iast d_Parting_move_39 (by first | rfl | assumption) (by first | assumption | exact vp_in_nI (by omega) (by omega)) ?_
  refine V_vret d_Parting_move_40 rfl ?_
  have h6 := (hw.1 p hp).1
  rw [nI_clamp (by omega), nI_clamp (by omega), nI_clamp (by omega)]
  refine ⟨rfl, ⟨fun j hj => ?_, fun e he => ?_⟩, fun q h1 h2 => ?_⟩
  · rw [hup_same, hup_ne (by omega), hup_ne (by omega)]
    unfold setN upd
    by_cases hjp : j = p
    · rw [if_pos hjp, if_pos hjp]; exact ⟨hd, rfl⟩
    · rw [if_neg hjp, if_neg hjp]; exact hw.1 j hj
  · rw [hup_ne (by omega), hup_same, hup_same]
    have base : ∀ e, e < 6 → upd (h (o + 2)) (ds p) (h (o + 2) (ds p) &&& (onl p ^^^ -1)) e = cI (fun j => A j && decide (ds j = e) && !decide (j = p)) := by
      intro e he
      unfold upd
      by_cases h1 : e = ds p
      · rw [if_pos h1, h1, hw.2 _ h6]
        refine cI_eq (hi_and (cI_hi _)) (fun j hj => ?_)
        rw [cs_and, cs_not, cI_cs _ hj, cs_onl hp hj]
      · rw [if_neg h1, hw.2 e he]
        apply cI_cong
        intro j hj
        by_cases h2 : j = p
        · subst h2
          simp [show ¬ ds j = e by omega]
        · simp [h2]
    unfold upd
    by_cases h1 : e = d
    · rw [if_pos h1, h1]
      have := base d hd
      unfold upd at this
      rw [this]
      refine cI_eq (hi_or (cI_hi _) (onl_hi hp)) (fun j hj => ?_)
      rw [cs_or, cI_cs _ hj, cs_onl hp hj]
      unfold setA setN
      by_cases h2 : j = p
      · simp [h2]
      · simp [h2]
    · rw [if_neg h1]
      have := base e he
      unfold upd at this
      rw [this]
      apply cI_cong
      intro j hj
      unfold setA setN
      by_cases h2 : j = p
      · simp [h2]; omega
      · simp [h2]
  · rw [hup_ne h1, hup_ne h2, hup_ne h2]
theorem c_gather {E : Wd} (h : Hp) {o : Nat} (ho : isPt o) (A : Nat → Bool) :
    Cq E 1 m_Parting_gather [.ref o, .int (cI A)] h (fun v h' => v = none ∧ PartW h' o A (fun _ => 0) ∧ ∀ q, q ≠ o + 1 → q ≠ o + 2 → h' q = h q) := by
  obtain ⟨ho0, ho1, ho2⟩ := ho
  refine Cq_of2 ok_Parting_gather rfl (Nat.le_of_ble_eq_true rfl) (L := [some (.ref o), some (.int (cI A))]) rfl ?_
  refine V_aload_n d_Parting_gather_0 rfl ?_
  refine V_getR d_Parting_gather_1 f_Parting_9 rfl (by first | rfl | assumption) (by first | rfl | assumption) ?_
  refine V_iconst (v := 0) d_Parting_gather_4 (by decide) ?_
  refine V_callS0 d_Parting_gather_5 k_Parting_24 rfl (c_fill h (by omega) ho1 0) rfl (by first | decide | omega) rfl (Nat.le_of_ble_eq_true rfl) ?_
  refine V_aload_n d_Parting_gather_8 rfl ?_
  refine V_getR d_Parting_gather_9 f_Parting_15 rfl (by first | rfl | assumption) (by first | rfl | assumption) ?_
  refine V_iconst (v := 0) d_Parting_gather_12 (by decide) ?_
  refine V_callS0 d_Parting_gather_13 k_Parting_24 rfl (c_fill _ (by omega) ho2 0) rfl (by first | decide | omega) rfl (Nat.le_of_ble_eq_true rfl) ?_
  have hin : vp_in 0 6 := vp_in_nI (n := 0) (by omega) (by omega)
  refine V_aload_n d_Parting_gather_16 rfl ?_
  refine V_getR d_Parting_gather_17 f_Parting_15 rfl (by first | rfl | assumption) (by first | rfl | assumption) ?_
  refine V_iconst (v := 0) d_Parting_gather_20 (by decide) ?_
  refine V_iload_n d_Parting_gather_21 rfl ?_
  refine V_iast d_Parting_gather_22 (by first | rfl | assumption) (by first | assumption | exact vp_in_nI (by omega) (by omega)) ?_
  refine V_vret d_Parting_gather_23 rfl ?_
  refine ⟨rfl, ⟨fun j hj => ?_, fun e he => ?_⟩, fun q h1 h2 => ?_⟩
  · rw [hup_ne (by omega), hrow_ne (by omega), hrow_same, fa_fill_in hj]
    exact ⟨show 0 < 6 by omega, rfl⟩
  · rw [hup_same, hrow_same]
    unfold upd
    by_cases h1 : e = 0
    · rw [if_pos (by rw [h1]; rfl), h1]
      exact cI_cong (fun j hj => by simp)
    · rw [if_neg (fun q => h1 (q.trans (by rfl))), fa_fill_in he]
      have : (0 : Int32) = cI (fun _ => false) := by decide +kernel
      rw [this]
      exact cI_cong (fun j hj => by simp [Ne.symm h1])
  · rw [hup_ne h2, hrow_ne h2, hrow_ne h1]
theorem c_deal {E : Wd} (h : Hp) {o : Nat} (ho : isPt o) (S : Int32) {d : Nat} (hd : d < 6) :
    Cd E 1 m_Parting_deal [.ref o, .int (nI d), .int S] h none (hrow (hup h (o + 2) d S) (o + 1) (fun j => if j < 30 ∧ cs S j = true then nI d else h (o + 1) j)) := by
  obtain ⟨ho0, ho1, ho2⟩ := ho
  refine Cd_of ok_Parting_deal rfl (Nat.le_of_ble_eq_true rfl) (L := [some (.ref o), some (.int (nI d)), some (.int S), none]) rfl ?_
  have hin2 : vp_in (nI d) 6 := vp_in_nI hd (by omega)
  refine V_aload_n d_Parting_deal_0 rfl ?_
  refine V_getR d_Parting_deal_1 f_Parting_15 rfl (by first | rfl | assumption) (by first | rfl | assumption) ?_
  refine V_iload_n d_Parting_deal_4 rfl ?_
  refine V_iload_n d_Parting_deal_5 rfl ?_
  refine V_iast d_Parting_deal_6 (by first | rfl | assumption) (by first | assumption | exact vp_in_nI (by omega) (by omega)) ?_
  refine V_iconst (v := 0) d_Parting_deal_7 (by decide) ?_
  refine V_istore_n d_Parting_deal_8 (by decide) ?_
  dsimp only [List.set]
  rw [nI_clamp (by omega)]
  have loop : ∀ i, i ≤ 30 → V E 1 m_Parting_deal (fun v' h' => v' = none ∧ h' = hrow (hup h (o + 2) d S) (o + 1) (fun j => if j < 30 ∧ cs S j = true then nI d else h (o + 1) j)) 9 [some (.ref o), some (.int (nI d)), some (.int S), some (.int (nI i))] [] (hrow (hup h (o + 2) d S) (o + 1) (fun j => if j < i ∧ cs S j = true then nI d else h (o + 1) j)) := by
    refine up_ind 30 ?_
    intro i hi ih
    refine V_iload_n d_Parting_deal_9 rfl ?_
    refine V_bipush (v := 30) d_Parting_deal_10 (by decide) ?_
    refine V_icmp_ge (tgt := 36) d_Parting_deal_12 (by decide) (fun b12 => ?_) (fun b12 => ?_)
    · have hin : i = 30 := by
        have := (le_nI 30 i rfl rfl (by omega) (by omega)).mp b12
        omega
      subst hin
      refine V_vret d_Parting_deal_36 rfl ?_
      exact ⟨rfl, rfl⟩
    · have hin : i < 30 := by
        rcases Nat.lt_or_ge i 30 with q | q
        · exact q
        · exact absurd ((le_nI 30 i rfl rfl (by omega) (by omega)).mpr q) b12
      have ih := ih hin
      refine V_iload_n d_Parting_deal_15 rfl ?_
      refine V_iload_n d_Parting_deal_16 rfl ?_
      refine V_callS1 d_Parting_deal_17 k_Parting_30 rfl (c_has _ S hin) rfl (by first | decide | omega) rfl (Nat.le_of_ble_eq_true rfl) ?_
      refine V_if_eq (tgt := 30) d_Parting_deal_20 (by decide) (fun b20 => ?_) (fun b20 => ?_)
      · refine V_iincw (w := 1) d_Parting_deal_30 rfl (by decide) (by decide) ?_
        dsimp only [List.set]
        refine V_goto (tgt := 9) d_Parting_deal_33 (by decide) ?_
        have hb : cs S i = false := by
          unfold cs
          cases hb : bt S (29 - i) with
          | false => rfl
          | true => rw [hb] at b20; exact absurd b20 (by decide)
        rw [nI_1]
        have e : (fun j => if j < i + 1 ∧ cs S j = true then nI d else h (o + 1) j) = (fun j => if j < i ∧ cs S j = true then nI d else h (o + 1) j) := by
          funext j
          by_cases hj : j = i
          · subst hj; simp [hb]
          · simp only [show (j < i + 1) = (j < i) from propext ⟨fun _ => by omega, fun _ => by omega⟩]
        rw [e] at ih
        exact ih
      · have hb : cs S i = true := by
          unfold cs
          cases hb : bt S (29 - i) with
          | true => rfl
          | false => rw [hb] at b20; exact absurd rfl b20
        refine V_aload_n d_Parting_deal_23 rfl ?_
        refine V_getR d_Parting_deal_24 f_Parting_9 rfl (by first | rfl | assumption) (by first | rfl | assumption) ?_
        refine V_iload_n d_Parting_deal_27 rfl ?_
        refine V_iload_n d_Parting_deal_28 rfl ?_
        refine V_iast d_Parting_deal_29 (by first | rfl | assumption) (by first | assumption | exact vp_in_nI (by omega) (by omega)) ?_
        refine V_iincw (w := 1) d_Parting_deal_30 rfl (by decide) (by decide) ?_
        dsimp only [List.set]
        refine V_goto (tgt := 9) d_Parting_deal_33 (by decide) ?_
        rw [nI_clamp (by omega), hup_hrow, nI_1]
        have e : upd (fun j => if j < i ∧ cs S j = true then nI d else h (o + 1) j) i (nI d) = (fun j => if j < i + 1 ∧ cs S j = true then nI d else h (o + 1) j) := by
          funext j
          unfold upd
          by_cases hj : j = i
          · subst hj; simp [hb]
          · rw [if_neg hj]
            simp only [show (j < i + 1) = (j < i) from propext ⟨fun _ => by omega, fun _ => by omega⟩]
        rw [e]
        exact ih
  have h0 := loop 0 (by omega)
  have e : (fun j => if j < 0 ∧ cs S j = true then nI d else h (o + 1) j) = (hup h (o + 2) d S) (o + 1) := by
    funext j
    rw [hup_ne (by omega), if_neg (fun q => Nat.not_lt_zero _ q.1)]
  rw [e, hrow_self] at h0
  exact h0
theorem c_become {E : Wd} (h : Hp) {o q : Nat} (ho : isPt o) (hq : isPt q) (hne : o ≠ q) (hne1 : o + 1 ≠ q + 2) (hne2 : o + 2 ≠ q + 1) {A : Nat → Bool} {ds : Nat → Nat} (hw : PartW h q A ds) :
    Cq E 1 m_Parting_become [.ref o, .ref q] h (fun v h' => v = none ∧ PartW h' o A ds ∧ ∀ z, z ≠ o + 1 → z ≠ o + 2 → h' z = h z) := by
  obtain ⟨ho0, ho1, ho2⟩ := ho
  obtain ⟨hq0, hq1, hq2⟩ := hq
  refine Cq_of2 ok_Parting_become rfl (Nat.le_of_ble_eq_true rfl) (L := [some (.ref o), some (.ref q)]) rfl ?_
  refine V_aload_n d_Parting_become_0 rfl ?_
  refine V_getR d_Parting_become_1 f_Parting_9 rfl (by first | rfl | assumption) (by first | rfl | assumption) ?_
  refine V_iconst (v := 0) d_Parting_become_4 (by decide) ?_
  refine V_aload_n d_Parting_become_5 rfl ?_
  refine V_getR d_Parting_become_6 f_Parting_9 rfl (by first | rfl | assumption) (by first | rfl | assumption) ?_
  refine V_iconst (v := 0) d_Parting_become_9 (by decide) ?_
  refine V_bipush (v := 30) d_Parting_become_10 (by decide) ?_
  refine V_copy d_Parting_become_12 kA_Parting_34 rfl (by first | rfl | assumption) (by first | rfl | assumption) (by first | decide | omega) (Nat.le_of_ble_eq_true rfl) (by decide) (by decide) (by decide) ?_
  refine V_aload_n d_Parting_become_15 rfl ?_
  refine V_getR d_Parting_become_16 f_Parting_15 rfl (by first | rfl | assumption) (by first | rfl | assumption) ?_
  refine V_iconst (v := 0) d_Parting_become_19 (by decide) ?_
  refine V_aload_n d_Parting_become_20 rfl ?_
  refine V_getR d_Parting_become_21 f_Parting_15 rfl (by first | rfl | assumption) (by first | rfl | assumption) ?_
  refine V_iconst (v := 0) d_Parting_become_24 (by decide) ?_
  refine V_bipush (v := 6) d_Parting_become_25 (by decide) ?_
  refine V_copy d_Parting_become_27 kA_Parting_34 rfl (by first | rfl | assumption) (by first | rfl | assumption) (by first | decide | omega) (Nat.le_of_ble_eq_true rfl) (by decide) (by decide) (by decide) ?_
  refine V_vret d_Parting_become_30 rfl ?_
  refine ⟨rfl, ⟨fun j hj => ?_, fun e he => ?_⟩, fun z h1 h2 => ?_⟩
  · rw [hrow_ne (by omega), hrow_same, pk_cpy_in (Nat.zero_le _) (by simpa using hj)]
    simpa using hw.1 j hj
  · rw [hrow_same, pk_cpy_in (Nat.zero_le _) (by simpa using he), hrow_ne (by omega)]
    simpa using hw.2 e he
  · rw [hrow_ne h2, hrow_ne h1]
end
section
/-! the land's and the law's data, and their cells -/
abbrev LD : Type := (Nat × Nat) × ((Nat → Int32) × (Nat → Int32) × (Nat → Int32) × (Nat → Int32) × (Nat → Nat)) × ((Nat → Nat) × (Nat → Nat) × (Nat → Int32))
def dN (D : LD) : Nat := D.1.1
def dB (D : LD) : Nat := D.1.2
def dPe (D : LD) : Nat → Int32 := D.2.1.1
def dZe (D : LD) : Nat → Int32 := D.2.1.2.1
def dOn (D : LD) : Nat → Int32 := D.2.1.2.2.1
def dAr (D : LD) : Nat → Int32 := D.2.1.2.2.2.1
def dTw (D : LD) : Nat → Nat := D.2.1.2.2.2.2
def dFr (D : LD) : Nat → Nat := D.2.2.1
def dTo (D : LD) : Nat → Nat := D.2.2.2.1
def dLn (D : LD) : Nat → Int32 := D.2.2.2.2
def nbB (fr to : Nat → Nat) : Nat → Nat → Nat → Bool
  | 0, _, _ => false
  | b + 1, i, j => nbB fr to b i j || (decide (fr b = i) && decide (to b = j)) || (decide (fr b = j) && decide (to b = i))
def dNb (D : LD) : Nat → Nat → Bool := nbB (dFr D) (dTo D) (dB D)
/-- a number from 0 to m -/
def upTo (m : Nat) (x : Int32) : Prop := ∃ q, q ≤ m ∧ x = nI q
def okLD (D : LD) : Prop := dN D ≤ 30 ∧ dB D ≤ 100 ∧ (∀ p, p < dN D → upTo 1000 (dPe D p) ∧ upTo 1000 (dZe D p) ∧ upTo 1000 (dOn D p) ∧ upTo 100 (dAr D p) ∧ dTw D p < 10) ∧ (∀ b, b < dB D → dFr D b < dN D ∧ dTo D b < dN D ∧ dFr D b ≠ dTo D b ∧ upTo 100 (dLn D b)) ∧ ∀ b c, b < c → c < dB D → ¬ ((dFr D b = dFr D c ∧ dTo D b = dTo D c) ∨ (dFr D b = dTo D c ∧ dTo D b = dFr D c))
def inN (D : LD) : Nat → Bool := fun j => decide (j < dN D)
def LandW (h : Hp) (D : LD) : Prop := h 1 0 = nI (dN D) ∧ h 1 1 = nI (dB D) ∧ h 1 2 = smP (dPe D) (fun _ => true) (dN D) ∧
  (∀ p, p < dN D → h 2 p = dPe D p ∧ h 3 p = dZe D p ∧ h 4 p = dOn D p ∧ h 5 p = dAr D p) ∧
  (∀ b, b < dB D → h 8 b = nI (dFr D b) ∧ h 9 b = nI (dTo D b) ∧ h 10 b = dLn D b) ∧
  (∀ i, i < 30 → h 6 i = cI (dNb D i)) ∧ (∀ t, t < 10 → h 7 t = cI (fun j => decide (j < dN D) && decide (dTw D j = t)))
theorem LandW.of {h h' : Hp} {D : LD} (hl : LandW h D) (e : ∀ q, 1 ≤ q → q ≤ 10 → h' q = h q) : LandW h' D := by
  unfold LandW
  rw [e 1 (by omega) (by omega), e 2 (by omega) (by omega), e 3 (by omega) (by omega), e 4 (by omega) (by omega), e 5 (by omega) (by omega), e 8 (by omega) (by omega), e 9 (by omega) (by omega), e 10 (by omega) (by omega), e 6 (by omega) (by omega), e 7 (by omega) (by omega)]
  exact hl
abbrev LW : Type := (Nat × Nat × Nat) × (Nat → Bool) × (Nat → Option Nat)
def wK (w : LW) : Nat := w.1.1
def wT (w : LW) : Nat := w.1.2.1
def wC (w : LW) : Nat := w.1.2.2
def wKp (w : LW) : Nat → Bool := w.2.1
def wFx (w : LW) : Nat → Option Nat := w.2.2
def fxI : Option Nat → Int32
  | none => -1
  | some d => nI d
def okLW (w : LW) : Prop := 1 ≤ wK w ∧ wK w ≤ 6 ∧ wT w ≤ 1000 ∧ wC w ≤ 10 ∧ ∀ p d, wFx w p = some d → d < wK w
def LawW (h : Hp) (w : LW) : Prop := h 11 0 = nI (wK w) ∧ h 11 1 = nI (wT w) ∧ h 11 2 = nI (wC w) ∧ (∀ t, t < 10 → h 12 t = if wKp w t then 1 else 0) ∧ ∀ p, p < 30 → h 13 p = fxI (wFx w p)
theorem LawW.of {h h' : Hp} {w : LW} (hl : LawW h w) (e : ∀ q, 11 ≤ q → q ≤ 13 → h' q = h q) : LawW h' w := by
  unfold LawW
  rw [e 11 (by omega) (by omega), e 12 (by omega) (by omega), e 13 (by omega) (by omega)]
  exact hl
theorem b2i {b : Bool} : ((if b then (1 : Int32) else 0) = 0) ↔ b = false := by cases b <;> decide
theorem sub1_nI {n : Nat} (hn : n ≤ 30) (x : Int32) : (0 ≤ x ∧ x ≤ nI n - 1) ↔ ∃ j, j < n ∧ x = nI j := by
  rcases Nat.eq_zero_or_pos n with h0 | h0
  · subst h0
    constructor
    · rintro ⟨h1, h2⟩
      exfalso
      have h3 : (nI 0 - 1 : Int32) = -1 := by decide
      rw [h3] at h2
      rw [fa_le] at h1 h2
      have e1 : (0 : Int32).toInt = 0 := by decide
      have e2 : (-1 : Int32).toInt = -1 := by decide
      omega
    · rintro ⟨j, hj, -⟩
      omega
  · have e : nI n - 1 = nI (n - 1) := by
      have := nI_pred (n - 1)
      rw [show n - 1 + 1 = n by omega] at this
      exact this
    rw [e]
    constructor
    · rintro ⟨h1, h2⟩
      obtain ⟨j, hj, rfl⟩ := nI_of (x := x) (fun q => (fa_of_lt q).2.1 h1)
      exact ⟨j, by have := (nI_leI hj (by omega)).mp h2; omega, rfl⟩
    · rintro ⟨j, hj, rfl⟩
      exact ⟨nI_pos' (by omega), nI_le (by omega) (by omega)⟩
noncomputable def isPl (n : Nat) (x : Int32) : Bool := @decide (∃ j, j < n ∧ x = nI j) (Classical.propDecidable _)
theorem isPl_iff {n : Nat} {x : Int32} : isPl n x = true ↔ ∃ j, j < n ∧ x = nI j := by
  unfold isPl
  exact @decide_eq_true_iff _ (Classical.propDecidable _)
theorem c_hasPlace {E : Wd} {h : Hp} {D : LD} (hl : LandW h D) (ok : okLD D) (x : Int32) : Cd E 1 m_Land_hasPlace [.ref 1, .int x] h (some (.int (if isPl (dN D) x then 1 else 0))) h := by
  refine Cd_of ok_Land_hasPlace rfl (Nat.le_of_ble_eq_true rfl) (L := [some (.ref 1), some (.int x)]) rfl ?_
  refine V_iload_n d_Land_hasPlace_0 rfl ?_
  refine V_iconst (v := 0) d_Land_hasPlace_1 (by decide) ?_
  refine V_aload_n d_Land_hasPlace_2 rfl ?_
  refine V_getI d_Land_hasPlace_3 f_Land_39 rfl (by first | rfl | assumption) (by first | rfl | assumption) ?_
  refine V_iconst (v := 1) d_Land_hasPlace_6 (by decide) ?_
  refine V_isub d_Land_hasPlace_7 ?_
  rw [hl.1]
  refine V_callN1 d_Land_hasPlace_8 k_Land_43 rfl (c_isWithin h _ _ _) rfl (by first | decide | omega) rfl (Nat.le_of_ble_eq_true rfl) ?_
  refine V_zret d_Land_hasPlace_11 rfl (by split <;> rfl) ⟨?_, rfl⟩
  cases hb : isPl (dN D) x with
  | true => rw [if_pos ((sub1_nI ok.1 x).mpr (isPl_iff.mp hb))]; rfl
  | false =>
    rw [if_neg (fun q => ?_)]
    · rfl
    · rw [isPl_iff.mpr ((sub1_nI ok.1 x).mp q)] at hb; cases hb
theorem c_hasDistrict {E : Wd} {h : Hp} {w : LW} (hl : LawW h w) (ok : okLW w) (x : Int32) : Cd E 1 m_Law_hasDistrict [.ref 11, .int x] h (some (.int (if isPl (wK w) x then 1 else 0))) h := by
  refine Cd_of ok_Law_hasDistrict rfl (Nat.le_of_ble_eq_true rfl) (L := [some (.ref 11), some (.int x)]) rfl ?_
  refine V_iload_n d_Law_hasDistrict_0 rfl ?_
  refine V_iconst (v := 0) d_Law_hasDistrict_1 (by decide) ?_
  refine V_aload_n d_Law_hasDistrict_2 rfl ?_
  refine V_getI d_Law_hasDistrict_3 f_Law_9 rfl (by first | rfl | assumption) (by first | rfl | assumption) ?_
  refine V_iconst (v := 1) d_Law_hasDistrict_6 (by decide) ?_
  refine V_isub d_Law_hasDistrict_7 ?_
  rw [hl.1]
  refine V_callN1 d_Law_hasDistrict_8 k_Law_35 rfl (c_isWithin h _ _ _) rfl (by first | decide | omega) rfl (Nat.le_of_ble_eq_true rfl) ?_
  have h6 := ok.2.1
  refine V_zret d_Law_hasDistrict_11 rfl (by split <;> rfl) ⟨?_, rfl⟩
  cases hb : isPl (wK w) x with
  | true => rw [if_pos ((sub1_nI (by omega) x).mpr (isPl_iff.mp hb))]; rfl
  | false =>
    rw [if_neg (fun q => ?_)]
    · rfl
    · rw [isPl_iff.mpr ((sub1_nI (by omega) x).mp q)] at hb; cases hb
theorem c_everywhere {E : Wd} {h : Hp} {D : LD} (hl : LandW h D) (ok : okLD D) : Cd E 1 m_Land_everywhere [.ref 1] h (some (.int (cI (inN D)))) h := by
  refine Cd_of ok_Land_everywhere rfl (Nat.le_of_ble_eq_true rfl) (L := [some (.ref 1), none, none]) rfl ?_
  refine V_iconst (v := 0) d_Land_everywhere_0 (by decide) ?_
  refine V_istore_n d_Land_everywhere_1 (by decide) ?_
  dsimp only [List.set]
  refine V_iconst (v := 0) d_Land_everywhere_2 (by decide) ?_
  refine V_istore_n d_Land_everywhere_3 (by decide) ?_
  dsimp only [List.set]
  have hn := ok.1
  have loop : ∀ i, i ≤ dN D → V E 1 m_Land_everywhere (fun v' h' => v' = some (.int (cI (inN D))) ∧ h' = h) 4 [some (.ref 1), some (.int (cI (fun j => decide (j < i)))), some (.int (nI i))] [] h := by
    refine up_ind (dN D) ?_
    intro i hi ih
    refine V_iload_n d_Land_everywhere_4 rfl ?_
    refine V_aload_n d_Land_everywhere_5 rfl ?_
    refine V_getI d_Land_everywhere_6 f_Land_39 rfl (by first | rfl | assumption) (by first | rfl | assumption) ?_
    rw [hl.1]
    refine V_icmp_ge (tgt := 25) d_Land_everywhere_9 (by decide) (fun b9 => ?_) (fun b9 => ?_)
    · have hin : i = dN D := by
        have := (le_nI (dN D) i rfl rfl (by omega) (by omega)).mp b9
        omega
      subst hin
      refine V_iload_n d_Land_everywhere_25 rfl ?_
      refine V_iret d_Land_everywhere_26 rfl ?_
      exact ⟨rfl, rfl⟩
    · have hin : i < dN D := by
        rcases Nat.lt_or_ge i (dN D) with q | q
        · exact q
        · exact absurd ((le_nI (dN D) i rfl rfl (by omega) (by omega)).mpr q) b9
      refine V_iload_n d_Land_everywhere_12 rfl ?_
      refine V_iload_n d_Land_everywhere_13 rfl ?_
      refine V_callS1 d_Land_everywhere_14 k_Land_50 rfl (c_only h (show i < 30 by omega)) rfl (by first | decide | omega) rfl (Nat.le_of_ble_eq_true rfl) ?_
      refine V_ior d_Land_everywhere_17 ?_
      refine V_istore_n d_Land_everywhere_18 (by decide) ?_
      dsimp only [List.set]
      refine V_iincw (w := 1) d_Land_everywhere_19 rfl (by decide) (by decide) ?_
      dsimp only [List.set]
      refine V_goto (tgt := 4) d_Land_everywhere_22 (by decide) ?_
      have e : cI (fun j => decide (j < i)) ||| onl i = cI (fun j => decide (j < i + 1)) := by
        refine cI_eq (hi_or (cI_hi _) (onl_hi (by omega))) (fun j hj => ?_)
        rw [cs_or, cI_cs _ hj, cs_onl (by omega) hj]
        by_cases h1 : j < i
        · simp [h1]; omega
        · by_cases h2 : j = i
          · simp [h2]
          · simp [h1, h2]; omega
      rw [e, nI_1]
      exact ih hin
  have h0 := loop 0 (Nat.zero_le _)
  rw [show cI (fun j => decide (j < 0)) = 0 by decide +kernel] at h0
  exact h0
theorem zin100 {D : LD} (ok : okLD D) {b : Nat} (hb : b < dB D) : vp_in (nI b) 100 := vp_in_nI (by have := ok.2.1; omega) (by omega)
theorem zin30 {D : LD} (ok : okLD D) {p : Nat} (hp : p < dN D) : vp_in (nI p) 30 := vp_in_nI (by have := ok.1; omega) (by omega)
theorem c_isInside {E : Wd} {h : Hp} {D : LD} (hl : LandW h D) (ok : okLD D) {b : Nat} (hb : b < dB D) (S : Int32) : Cd E 1 m_Land_isInside [.ref 1, .int (nI b), .int S] h (some (.int (if cs S (dFr D b) && cs S (dTo D b) then 1 else 0))) h := by
  have hin := zin100 ok hb
  have hbb := ok.2.2.2.1 b hb
  have hrow := hl.2.2.2.2.1 b hb
  have hn := ok.1
  have hb100 := ok.2.1
  refine Cd_of ok_Land_isInside rfl (Nat.le_of_ble_eq_true rfl) (L := [some (.ref 1), some (.int (nI b)), some (.int S)]) rfl ?_
  refine V_iload_n d_Land_isInside_0 rfl ?_
  refine V_aload_n d_Land_isInside_1 rfl ?_
  refine V_getR d_Land_isInside_2 f_Land_30 rfl (by first | rfl | assumption) (by first | rfl | assumption) ?_
  refine V_iload_n d_Land_isInside_5 rfl ?_
  refine V_iald d_Land_isInside_6 (by first | rfl | assumption) (by first | assumption | exact vp_in_nI (by omega) (by omega)) ?_
  rw [nI_clamp (by omega), hrow.1]
  refine V_callS1 d_Land_isInside_7 k_Land_59 rfl (c_has h S (show dFr D b < 30 by omega)) rfl (by first | decide | omega) rfl (Nat.le_of_ble_eq_true rfl) ?_
  refine V_if_eq (tgt := 30) d_Land_isInside_10 (by decide) (fun b10 => ?_) (fun b10 => ?_)
  · refine V_iconst (v := 0) d_Land_isInside_30 (by decide) ?_
    refine V_zret d_Land_isInside_31 rfl (by first | rfl | decide | assumption) ?_
    rw [b2i] at b10
    exact ⟨by unfold cs; rw [b10]; rfl, rfl⟩
  · refine V_iload_n d_Land_isInside_13 rfl ?_
    refine V_aload_n d_Land_isInside_14 rfl ?_
    refine V_getR d_Land_isInside_15 f_Land_33 rfl (by first | rfl | assumption) (by first | rfl | assumption) ?_
    refine V_iload_n d_Land_isInside_18 rfl ?_
    refine V_iald d_Land_isInside_19 (by first | rfl | assumption) (by first | assumption | exact vp_in_nI (by omega) (by omega)) ?_
    rw [nI_clamp (by omega), hrow.2.1]
    refine V_callS1 d_Land_isInside_20 k_Land_59 rfl (c_has h S (show dTo D b < 30 by omega)) rfl (by first | decide | omega) rfl (Nat.le_of_ble_eq_true rfl) ?_
    rw [b2i] at b10
    refine V_if_eq (tgt := 30) d_Land_isInside_23 (by decide) (fun b23 => ?_) (fun b23 => ?_)
    · rw [b2i] at b23
      refine V_iconst (v := 0) d_Land_isInside_30 (by decide) ?_
      refine V_zret d_Land_isInside_31 rfl (by first | rfl | decide | assumption) ?_
      exact ⟨by unfold cs; rw [b23, Bool.and_false]; rfl, rfl⟩
    · rw [b2i] at b23
      refine V_iconst (v := 1) d_Land_isInside_26 (by decide) ?_
      refine V_goto (tgt := 31) d_Land_isInside_27 (by decide) ?_
      refine V_zret d_Land_isInside_31 rfl (by first | rfl | decide | assumption) ?_
      exact ⟨by unfold cs; simp at b10 b23; rw [b10, b23]; rfl, rfl⟩
end
section
theorem zz_end : True := trivial
end
