-- ===== PART A: goes FIRST, ahead of the names: the tables' words, and 'selects' of the private methods out of them =====
/-- a private method of a class that the tables say can be made, by its rows of tables_1 -/
def lw_okq (q : MethodName × Nat) : Prop := (q.1.cls ≠ "java/lang/invoke/MethodHandle" ∧ q.1.cls ≠ "java/lang/invoke/VarHandle") ∧ Cond.instantiable q.1.cls q.2 ∈ tables_1 ∧ Cond.privateMethod q.1 ∈ tables_1 ∧ Cond.instanceMethod q.1 ∈ tables_1
theorem lw_p0 : lw_okq (⟨"BentPicture$Net", "beginCorner", "(III)V"⟩, 10) := ⟨⟨by decide +kernel, by decide +kernel⟩, List.mem_of_getElem? (i := 19) (by decide +kernel), List.mem_of_getElem? (i := 159) (by decide +kernel), List.mem_of_getElem? (i := 160) (by decide +kernel)⟩
theorem lw_p1 : lw_okq (⟨"BentPicture", "sumOfValues", "()I"⟩, 8) := ⟨⟨by decide +kernel, by decide +kernel⟩, List.mem_of_getElem? (i := 11) (by decide +kernel), List.mem_of_getElem? (i := 225) (by decide +kernel), List.mem_of_getElem? (i := 226) (by decide +kernel)⟩
theorem lw_p2 : lw_okq (⟨"BentPicture", "chart", "()V"⟩, 8) := ⟨⟨by decide +kernel, by decide +kernel⟩, List.mem_of_getElem? (i := 11) (by decide +kernel), List.mem_of_getElem? (i := 237) (by decide +kernel), List.mem_of_getElem? (i := 238) (by decide +kernel)⟩
theorem lw_p3 : lw_okq (⟨"BentPicture$Cover", "lay", "(LBentPicture$Net;LBentPicture$Points;I)V"⟩, 2) := ⟨⟨by decide +kernel, by decide +kernel⟩, List.mem_of_getElem? (i := 103) (by decide +kernel), List.mem_of_getElem? (i := 246) (by decide +kernel), List.mem_of_getElem? (i := 247) (by decide +kernel)⟩
theorem lw_p4 : lw_okq (⟨"BentPicture$Cover", "take", "(II)V"⟩, 2) := ⟨⟨by decide +kernel, by decide +kernel⟩, List.mem_of_getElem? (i := 103) (by decide +kernel), List.mem_of_getElem? (i := 287) (by decide +kernel), List.mem_of_getElem? (i := 288) (by decide +kernel)⟩
theorem lw_p5 : lw_okq (⟨"BentPicture", "dotNearSpot", "()I"⟩, 8) := ⟨⟨by decide +kernel, by decide +kernel⟩, List.mem_of_getElem? (i := 11) (by decide +kernel), List.mem_of_getElem? (i := 313) (by decide +kernel), List.mem_of_getElem? (i := 314) (by decide +kernel)⟩
theorem lw_p6 : lw_okq (⟨"BentPicture$Net", "isHome", "(II)Z"⟩, 10) := ⟨⟨by decide +kernel, by decide +kernel⟩, List.mem_of_getElem? (i := 19) (by decide +kernel), List.mem_of_getElem? (i := 329) (by decide +kernel), List.mem_of_getElem? (i := 330) (by decide +kernel)⟩
theorem lw_p7 : lw_okq (⟨"BentPicture$Net", "keepsSide", "(IIII)Z"⟩, 10) := ⟨⟨by decide +kernel, by decide +kernel⟩, List.mem_of_getElem? (i := 19) (by decide +kernel), List.mem_of_getElem? (i := 337) (by decide +kernel), List.mem_of_getElem? (i := 338) (by decide +kernel)⟩
theorem lw_p8 : lw_okq (⟨"BentPicture$Net", "linkOfHome", "(II)V"⟩, 10) := ⟨⟨by decide +kernel, by decide +kernel⟩, List.mem_of_getElem? (i := 19) (by decide +kernel), List.mem_of_getElem? (i := 341) (by decide +kernel), List.mem_of_getElem? (i := 342) (by decide +kernel)⟩
theorem lw_p9 : lw_okq (⟨"BentPicture$Net", "linkIfApart", "(IIII)V"⟩, 10) := ⟨⟨by decide +kernel, by decide +kernel⟩, List.mem_of_getElem? (i := 19) (by decide +kernel), List.mem_of_getElem? (i := 346) (by decide +kernel), List.mem_of_getElem? (i := 347) (by decide +kernel)⟩
theorem lw_p10 : lw_okq (⟨"BentPicture$Net", "link", "(II)V"⟩, 10) := ⟨⟨by decide +kernel, by decide +kernel⟩, List.mem_of_getElem? (i := 19) (by decide +kernel), List.mem_of_getElem? (i := 350) (by decide +kernel), List.mem_of_getElem? (i := 351) (by decide +kernel)⟩
theorem lw_p11 : lw_okq (⟨"BentPicture$Net", "foldsAt", "(II)Z"⟩, 10) := ⟨⟨by decide +kernel, by decide +kernel⟩, List.mem_of_getElem? (i := 19) (by decide +kernel), List.mem_of_getElem? (i := 354) (by decide +kernel), List.mem_of_getElem? (i := 355) (by decide +kernel)⟩
theorem lw_p12 : lw_okq (⟨"BentPicture$Net", "isFlat", "(III)Z"⟩, 10) := ⟨⟨by decide +kernel, by decide +kernel⟩, List.mem_of_getElem? (i := 19) (by decide +kernel), List.mem_of_getElem? (i := 403) (by decide +kernel), List.mem_of_getElem? (i := 404) (by decide +kernel)⟩
theorem lw_p13 : lw_okq (⟨"BentPicture$Net", "coverLink", "()V"⟩, 10) := ⟨⟨by decide +kernel, by decide +kernel⟩, List.mem_of_getElem? (i := 19) (by decide +kernel), List.mem_of_getElem? (i := 440) (by decide +kernel), List.mem_of_getElem? (i := 441) (by decide +kernel)⟩
theorem lw_p14 : lw_okq (⟨"BentPicture$Net", "turnsRising", "(II)I"⟩, 10) := ⟨⟨by decide +kernel, by decide +kernel⟩, List.mem_of_getElem? (i := 19) (by decide +kernel), List.mem_of_getElem? (i := 516) (by decide +kernel), List.mem_of_getElem? (i := 517) (by decide +kernel)⟩
theorem lw_p15 : lw_okq (⟨"BentPicture", "sumOfTakenValues", "()I"⟩, 8) := ⟨⟨by decide +kernel, by decide +kernel⟩, List.mem_of_getElem? (i := 11) (by decide +kernel), List.mem_of_getElem? (i := 521) (by decide +kernel), List.mem_of_getElem? (i := 522) (by decide +kernel)⟩
def lw_privs_1 : List (MethodName × Nat) := [(⟨"BentPicture$Net", "beginCorner", "(III)V"⟩, 10), (⟨"BentPicture", "sumOfValues", "()I"⟩, 8), (⟨"BentPicture", "chart", "()V"⟩, 8), (⟨"BentPicture$Cover", "lay", "(LBentPicture$Net;LBentPicture$Points;I)V"⟩, 2), (⟨"BentPicture$Cover", "take", "(II)V"⟩, 2), (⟨"BentPicture", "dotNearSpot", "()I"⟩, 8), (⟨"BentPicture$Net", "isHome", "(II)Z"⟩, 10), (⟨"BentPicture$Net", "keepsSide", "(IIII)Z"⟩, 10), (⟨"BentPicture$Net", "linkOfHome", "(II)V"⟩, 10), (⟨"BentPicture$Net", "linkIfApart", "(IIII)V"⟩, 10), (⟨"BentPicture$Net", "link", "(II)V"⟩, 10), (⟨"BentPicture$Net", "foldsAt", "(II)Z"⟩, 10), (⟨"BentPicture$Net", "isFlat", "(III)Z"⟩, 10), (⟨"BentPicture$Net", "coverLink", "()V"⟩, 10), (⟨"BentPicture$Net", "turnsRising", "(II)I"⟩, 10), (⟨"BentPicture", "sumOfTakenValues", "()I"⟩, 8)]
theorem lw_r1 : ∀ q ∈ lw_privs_1, lw_okq q := List.forall_mem_cons.mpr ⟨lw_p0, List.forall_mem_cons.mpr ⟨lw_p1, List.forall_mem_cons.mpr ⟨lw_p2, List.forall_mem_cons.mpr ⟨lw_p3, List.forall_mem_cons.mpr ⟨lw_p4, List.forall_mem_cons.mpr ⟨lw_p5, List.forall_mem_cons.mpr ⟨lw_p6, List.forall_mem_cons.mpr ⟨lw_p7, List.forall_mem_cons.mpr ⟨lw_p8, List.forall_mem_cons.mpr ⟨lw_p9, List.forall_mem_cons.mpr ⟨lw_p10, List.forall_mem_cons.mpr ⟨lw_p11, List.forall_mem_cons.mpr ⟨lw_p12, List.forall_mem_cons.mpr ⟨lw_p13, List.forall_mem_cons.mpr ⟨lw_p14, List.forall_mem_cons.mpr ⟨lw_p15, fun _ h => absurd h List.not_mem_nil⟩⟩⟩⟩⟩⟩⟩⟩⟩⟩⟩⟩⟩⟩⟩⟩
theorem lw_p16 : lw_okq (⟨"BentPicture", "measureByPlaces", "(II)V"⟩, 8) := ⟨⟨by decide +kernel, by decide +kernel⟩, List.mem_of_getElem? (i := 11) (by decide +kernel), List.mem_of_getElem? (i := 541) (by decide +kernel), List.mem_of_getElem? (i := 542) (by decide +kernel)⟩
theorem lw_p17 : lw_okq (⟨"BentPicture", "blendAbove", "()I"⟩, 8) := ⟨⟨by decide +kernel, by decide +kernel⟩, List.mem_of_getElem? (i := 11) (by decide +kernel), List.mem_of_getElem? (i := 569) (by decide +kernel), List.mem_of_getElem? (i := 570) (by decide +kernel)⟩
theorem lw_p18 : lw_okq (⟨"BentPicture", "valueOrZero", "(II)I"⟩, 8) := ⟨⟨by decide +kernel, by decide +kernel⟩, List.mem_of_getElem? (i := 11) (by decide +kernel), List.mem_of_getElem? (i := 573) (by decide +kernel), List.mem_of_getElem? (i := 574) (by decide +kernel)⟩
theorem lw_p19 : lw_okq (⟨"BentPicture", "countUses", "()V"⟩, 8) := ⟨⟨by decide +kernel, by decide +kernel⟩, List.mem_of_getElem? (i := 11) (by decide +kernel), List.mem_of_getElem? (i := 583) (by decide +kernel), List.mem_of_getElem? (i := 584) (by decide +kernel)⟩
theorem lw_p20 : lw_okq (⟨"BentPictureModel", "begins", "()V"⟩, 23) := ⟨⟨by decide +kernel, by decide +kernel⟩, List.mem_of_getElem? (i := 630) (by decide +kernel), List.mem_of_getElem? (i := 636) (by decide +kernel), List.mem_of_getElem? (i := 637) (by decide +kernel)⟩
theorem lw_p21 : lw_okq (⟨"BentPictureModel", "corner", "(III)V"⟩, 23) := ⟨⟨by decide +kernel, by decide +kernel⟩, List.mem_of_getElem? (i := 630) (by decide +kernel), List.mem_of_getElem? (i := 640) (by decide +kernel), List.mem_of_getElem? (i := 641) (by decide +kernel)⟩
theorem lw_p22 : lw_okq (⟨"BentPictureModel", "adds", "(III)V"⟩, 23) := ⟨⟨by decide +kernel, by decide +kernel⟩, List.mem_of_getElem? (i := 630) (by decide +kernel), List.mem_of_getElem? (i := 644) (by decide +kernel), List.mem_of_getElem? (i := 645) (by decide +kernel)⟩
theorem lw_p23 : lw_okq (⟨"BentPictureModel", "isDot", "(II)Z"⟩, 23) := ⟨⟨by decide +kernel, by decide +kernel⟩, List.mem_of_getElem? (i := 630) (by decide +kernel), List.mem_of_getElem? (i := 722) (by decide +kernel), List.mem_of_getElem? (i := 723) (by decide +kernel)⟩
theorem lw_p24 : lw_okq (⟨"BentPictureModel", "knotAt", "(II)I"⟩, 23) := ⟨⟨by decide +kernel, by decide +kernel⟩, List.mem_of_getElem? (i := 630) (by decide +kernel), List.mem_of_getElem? (i := 729) (by decide +kernel), List.mem_of_getElem? (i := 730) (by decide +kernel)⟩
theorem lw_p25 : lw_okq (⟨"BentPictureModel", "stays", "(IIII)Z"⟩, 23) := ⟨⟨by decide +kernel, by decide +kernel⟩, List.mem_of_getElem? (i := 630) (by decide +kernel), List.mem_of_getElem? (i := 733) (by decide +kernel), List.mem_of_getElem? (i := 734) (by decide +kernel)⟩
theorem lw_p26 : lw_okq (⟨"BentPictureModel", "keeps", "()V"⟩, 23) := ⟨⟨by decide +kernel, by decide +kernel⟩, List.mem_of_getElem? (i := 630) (by decide +kernel), List.mem_of_getElem? (i := 737) (by decide +kernel), List.mem_of_getElem? (i := 738) (by decide +kernel)⟩
theorem lw_p27 : lw_okq (⟨"BentPictureModel", "splitsNew", "(I)V"⟩, 23) := ⟨⟨by decide +kernel, by decide +kernel⟩, List.mem_of_getElem? (i := 630) (by decide +kernel), List.mem_of_getElem? (i := 741) (by decide +kernel), List.mem_of_getElem? (i := 742) (by decide +kernel)⟩
theorem lw_p28 : lw_okq (⟨"BentPictureModel", "has", "(IIIZ)Z"⟩, 23) := ⟨⟨by decide +kernel, by decide +kernel⟩, List.mem_of_getElem? (i := 630) (by decide +kernel), List.mem_of_getElem? (i := 745) (by decide +kernel), List.mem_of_getElem? (i := 746) (by decide +kernel)⟩
theorem lw_p29 : lw_okq (⟨"BentPictureModel", "shareOf", "(IIIIZ)I"⟩, 23) := ⟨⟨by decide +kernel, by decide +kernel⟩, List.mem_of_getElem? (i := 630) (by decide +kernel), List.mem_of_getElem? (i := 749) (by decide +kernel), List.mem_of_getElem? (i := 750) (by decide +kernel)⟩
theorem lw_p30 : lw_okq (⟨"BentPictureModel", "at", "(II)I"⟩, 23) := ⟨⟨by decide +kernel, by decide +kernel⟩, List.mem_of_getElem? (i := 630) (by decide +kernel), List.mem_of_getElem? (i := 753) (by decide +kernel), List.mem_of_getElem? (i := 754) (by decide +kernel)⟩
theorem lw_p31 : lw_okq (⟨"BentPictureModel", "drops", "(I)V"⟩, 23) := ⟨⟨by decide +kernel, by decide +kernel⟩, List.mem_of_getElem? (i := 630) (by decide +kernel), List.mem_of_getElem? (i := 760) (by decide +kernel), List.mem_of_getElem? (i := 761) (by decide +kernel)⟩
def lw_privs_2 : List (MethodName × Nat) := [(⟨"BentPicture", "measureByPlaces", "(II)V"⟩, 8), (⟨"BentPicture", "blendAbove", "()I"⟩, 8), (⟨"BentPicture", "valueOrZero", "(II)I"⟩, 8), (⟨"BentPicture", "countUses", "()V"⟩, 8), (⟨"BentPictureModel", "begins", "()V"⟩, 23), (⟨"BentPictureModel", "corner", "(III)V"⟩, 23), (⟨"BentPictureModel", "adds", "(III)V"⟩, 23), (⟨"BentPictureModel", "isDot", "(II)Z"⟩, 23), (⟨"BentPictureModel", "knotAt", "(II)I"⟩, 23), (⟨"BentPictureModel", "stays", "(IIII)Z"⟩, 23), (⟨"BentPictureModel", "keeps", "()V"⟩, 23), (⟨"BentPictureModel", "splitsNew", "(I)V"⟩, 23), (⟨"BentPictureModel", "has", "(IIIZ)Z"⟩, 23), (⟨"BentPictureModel", "shareOf", "(IIIIZ)I"⟩, 23), (⟨"BentPictureModel", "at", "(II)I"⟩, 23), (⟨"BentPictureModel", "drops", "(I)V"⟩, 23)]
theorem lw_r2 : ∀ q ∈ lw_privs_2, lw_okq q := List.forall_mem_cons.mpr ⟨lw_p16, List.forall_mem_cons.mpr ⟨lw_p17, List.forall_mem_cons.mpr ⟨lw_p18, List.forall_mem_cons.mpr ⟨lw_p19, List.forall_mem_cons.mpr ⟨lw_p20, List.forall_mem_cons.mpr ⟨lw_p21, List.forall_mem_cons.mpr ⟨lw_p22, List.forall_mem_cons.mpr ⟨lw_p23, List.forall_mem_cons.mpr ⟨lw_p24, List.forall_mem_cons.mpr ⟨lw_p25, List.forall_mem_cons.mpr ⟨lw_p26, List.forall_mem_cons.mpr ⟨lw_p27, List.forall_mem_cons.mpr ⟨lw_p28, List.forall_mem_cons.mpr ⟨lw_p29, List.forall_mem_cons.mpr ⟨lw_p30, List.forall_mem_cons.mpr ⟨lw_p31, fun _ h => absurd h List.not_mem_nil⟩⟩⟩⟩⟩⟩⟩⟩⟩⟩⟩⟩⟩⟩⟩⟩
theorem lw_p32 : lw_okq (⟨"BentPictureModel", "homeArea", "(III)I"⟩, 23) := ⟨⟨by decide +kernel, by decide +kernel⟩, List.mem_of_getElem? (i := 630) (by decide +kernel), List.mem_of_getElem? (i := 764) (by decide +kernel), List.mem_of_getElem? (i := 765) (by decide +kernel)⟩
theorem lw_p33 : lw_okq (⟨"BentPictureModel", "isFolded", "()Z"⟩, 23) := ⟨⟨by decide +kernel, by decide +kernel⟩, List.mem_of_getElem? (i := 630) (by decide +kernel), List.mem_of_getElem? (i := 768) (by decide +kernel), List.mem_of_getElem? (i := 769) (by decide +kernel)⟩
theorem lw_p34 : lw_okq (⟨"BentPictureModel", "areaOf", "(IZ)I"⟩, 23) := ⟨⟨by decide +kernel, by decide +kernel⟩, List.mem_of_getElem? (i := 630) (by decide +kernel), List.mem_of_getElem? (i := 772) (by decide +kernel), List.mem_of_getElem? (i := 773) (by decide +kernel)⟩
theorem lw_p35 : lw_okq (⟨"BentPictureModel", "placeArea", "(III)I"⟩, 23) := ⟨⟨by decide +kernel, by decide +kernel⟩, List.mem_of_getElem? (i := 630) (by decide +kernel), List.mem_of_getElem? (i := 776) (by decide +kernel), List.mem_of_getElem? (i := 777) (by decide +kernel)⟩
theorem lw_p36 : lw_okq (⟨"BentPictureModel", "comesBack", "()V"⟩, 23) := ⟨⟨by decide +kernel, by decide +kernel⟩, List.mem_of_getElem? (i := 630) (by decide +kernel), List.mem_of_getElem? (i := 780) (by decide +kernel), List.mem_of_getElem? (i := 781) (by decide +kernel)⟩
theorem lw_p37 : lw_okq (⟨"BentPictureModel", "sorts", "()V"⟩, 23) := ⟨⟨by decide +kernel, by decide +kernel⟩, List.mem_of_getElem? (i := 630) (by decide +kernel), List.mem_of_getElem? (i := 784) (by decide +kernel), List.mem_of_getElem? (i := 785) (by decide +kernel)⟩
theorem lw_p38 : lw_okq (⟨"BentPictureModel", "key", "(I)I"⟩, 23) := ⟨⟨by decide +kernel, by decide +kernel⟩, List.mem_of_getElem? (i := 630) (by decide +kernel), List.mem_of_getElem? (i := 788) (by decide +kernel), List.mem_of_getElem? (i := 789) (by decide +kernel)⟩
theorem lw_p39 : lw_okq (⟨"BentPictureModel", "changes", "(II)V"⟩, 23) := ⟨⟨by decide +kernel, by decide +kernel⟩, List.mem_of_getElem? (i := 630) (by decide +kernel), List.mem_of_getElem? (i := 792) (by decide +kernel), List.mem_of_getElem? (i := 793) (by decide +kernel)⟩
theorem lw_p40 : lw_okq (⟨"BentPictureModel", "whyNot", "(III)I"⟩, 23) := ⟨⟨by decide +kernel, by decide +kernel⟩, List.mem_of_getElem? (i := 630) (by decide +kernel), List.mem_of_getElem? (i := 800) (by decide +kernel), List.mem_of_getElem? (i := 801) (by decide +kernel)⟩
theorem lw_p41 : lw_okq (⟨"BentPictureModel", "isKnot", "(I)Z"⟩, 23) := ⟨⟨by decide +kernel, by decide +kernel⟩, List.mem_of_getElem? (i := 630) (by decide +kernel), List.mem_of_getElem? (i := 804) (by decide +kernel), List.mem_of_getElem? (i := 805) (by decide +kernel)⟩
theorem lw_p42 : lw_okq (⟨"BentPictureModel", "sides", "(II)I"⟩, 23) := ⟨⟨by decide +kernel, by decide +kernel⟩, List.mem_of_getElem? (i := 630) (by decide +kernel), List.mem_of_getElem? (i := 812) (by decide +kernel), List.mem_of_getElem? (i := 813) (by decide +kernel)⟩
theorem lw_p43 : lw_okq (⟨"BentPictureModel", "side", "(II)I"⟩, 23) := ⟨⟨by decide +kernel, by decide +kernel⟩, List.mem_of_getElem? (i := 630) (by decide +kernel), List.mem_of_getElem? (i := 816) (by decide +kernel), List.mem_of_getElem? (i := 817) (by decide +kernel)⟩
theorem lw_p44 : lw_okq (⟨"BentPictureModel", "isTurnable", "(II)Z"⟩, 23) := ⟨⟨by decide +kernel, by decide +kernel⟩, List.mem_of_getElem? (i := 630) (by decide +kernel), List.mem_of_getElem? (i := 820) (by decide +kernel), List.mem_of_getElem? (i := 821) (by decide +kernel)⟩
theorem lw_p45 : lw_okq (⟨"BentPictureModel", "third", "(III)I"⟩, 23) := ⟨⟨by decide +kernel, by decide +kernel⟩, List.mem_of_getElem? (i := 630) (by decide +kernel), List.mem_of_getElem? (i := 824) (by decide +kernel), List.mem_of_getElem? (i := 825) (by decide +kernel)⟩
theorem lw_p46 : lw_okq (⟨"BentPictureModel", "kindOf", "(I)I"⟩, 23) := ⟨⟨by decide +kernel, by decide +kernel⟩, List.mem_of_getElem? (i := 630) (by decide +kernel), List.mem_of_getElem? (i := 832) (by decide +kernel), List.mem_of_getElem? (i := 833) (by decide +kernel)⟩
theorem lw_p47 : lw_okq (⟨"BentPictureModel", "trianglesOf", "(I)I"⟩, 23) := ⟨⟨by decide +kernel, by decide +kernel⟩, List.mem_of_getElem? (i := 630) (by decide +kernel), List.mem_of_getElem? (i := 836) (by decide +kernel), List.mem_of_getElem? (i := 837) (by decide +kernel)⟩
def lw_privs_3 : List (MethodName × Nat) := [(⟨"BentPictureModel", "homeArea", "(III)I"⟩, 23), (⟨"BentPictureModel", "isFolded", "()Z"⟩, 23), (⟨"BentPictureModel", "areaOf", "(IZ)I"⟩, 23), (⟨"BentPictureModel", "placeArea", "(III)I"⟩, 23), (⟨"BentPictureModel", "comesBack", "()V"⟩, 23), (⟨"BentPictureModel", "sorts", "()V"⟩, 23), (⟨"BentPictureModel", "key", "(I)I"⟩, 23), (⟨"BentPictureModel", "changes", "(II)V"⟩, 23), (⟨"BentPictureModel", "whyNot", "(III)I"⟩, 23), (⟨"BentPictureModel", "isKnot", "(I)Z"⟩, 23), (⟨"BentPictureModel", "sides", "(II)I"⟩, 23), (⟨"BentPictureModel", "side", "(II)I"⟩, 23), (⟨"BentPictureModel", "isTurnable", "(II)Z"⟩, 23), (⟨"BentPictureModel", "third", "(III)I"⟩, 23), (⟨"BentPictureModel", "kindOf", "(I)I"⟩, 23), (⟨"BentPictureModel", "trianglesOf", "(I)I"⟩, 23)]
theorem lw_r3 : ∀ q ∈ lw_privs_3, lw_okq q := List.forall_mem_cons.mpr ⟨lw_p32, List.forall_mem_cons.mpr ⟨lw_p33, List.forall_mem_cons.mpr ⟨lw_p34, List.forall_mem_cons.mpr ⟨lw_p35, List.forall_mem_cons.mpr ⟨lw_p36, List.forall_mem_cons.mpr ⟨lw_p37, List.forall_mem_cons.mpr ⟨lw_p38, List.forall_mem_cons.mpr ⟨lw_p39, List.forall_mem_cons.mpr ⟨lw_p40, List.forall_mem_cons.mpr ⟨lw_p41, List.forall_mem_cons.mpr ⟨lw_p42, List.forall_mem_cons.mpr ⟨lw_p43, List.forall_mem_cons.mpr ⟨lw_p44, List.forall_mem_cons.mpr ⟨lw_p45, List.forall_mem_cons.mpr ⟨lw_p46, List.forall_mem_cons.mpr ⟨lw_p47, fun _ h => absurd h List.not_mem_nil⟩⟩⟩⟩⟩⟩⟩⟩⟩⟩⟩⟩⟩⟩⟩⟩
theorem lw_p48 : lw_okq (⟨"BentPictureModel", "joins", "(I)V"⟩, 23) := ⟨⟨by decide +kernel, by decide +kernel⟩, List.mem_of_getElem? (i := 630) (by decide +kernel), List.mem_of_getElem? (i := 840) (by decide +kernel), List.mem_of_getElem? (i := 841) (by decide +kernel)⟩
theorem lw_p49 : lw_okq (⟨"BentPictureModel", "comesUp", "(I)V"⟩, 23) := ⟨⟨by decide +kernel, by decide +kernel⟩, List.mem_of_getElem? (i := 630) (by decide +kernel), List.mem_of_getElem? (i := 844) (by decide +kernel), List.mem_of_getElem? (i := 845) (by decide +kernel)⟩
theorem lw_p50 : lw_okq (⟨"BentPictureModel", "moved", "()I"⟩, 23) := ⟨⟨by decide +kernel, by decide +kernel⟩, List.mem_of_getElem? (i := 630) (by decide +kernel), List.mem_of_getElem? (i := 852) (by decide +kernel), List.mem_of_getElem? (i := 853) (by decide +kernel)⟩
theorem lw_p51 : lw_okq (⟨"BentPictureModel", "isMoved", "(I)Z"⟩, 23) := ⟨⟨by decide +kernel, by decide +kernel⟩, List.mem_of_getElem? (i := 630) (by decide +kernel), List.mem_of_getElem? (i := 856) (by decide +kernel), List.mem_of_getElem? (i := 857) (by decide +kernel)⟩
theorem lw_p52 : lw_okq (⟨"BentPictureModel", "nearestOf", "(II)I"⟩, 23) := ⟨⟨by decide +kernel, by decide +kernel⟩, List.mem_of_getElem? (i := 630) (by decide +kernel), List.mem_of_getElem? (i := 864) (by decide +kernel), List.mem_of_getElem? (i := 865) (by decide +kernel)⟩
theorem lw_p53 : lw_okq (⟨"BentPictureModel", "finds", "(IIZ)V"⟩, 23) := ⟨⟨by decide +kernel, by decide +kernel⟩, List.mem_of_getElem? (i := 630) (by decide +kernel), List.mem_of_getElem? (i := 868) (by decide +kernel), List.mem_of_getElem? (i := 869) (by decide +kernel)⟩
theorem lw_p54 : lw_okq (⟨"BentPictureModel", "lies", "(IIZ)I"⟩, 23) := ⟨⟨by decide +kernel, by decide +kernel⟩, List.mem_of_getElem? (i := 630) (by decide +kernel), List.mem_of_getElem? (i := 872) (by decide +kernel), List.mem_of_getElem? (i := 873) (by decide +kernel)⟩
theorem lw_p55 : lw_okq (⟨"BentPictureModel", "sum", "()I"⟩, 23) := ⟨⟨by decide +kernel, by decide +kernel⟩, List.mem_of_getElem? (i := 630) (by decide +kernel), List.mem_of_getElem? (i := 891) (by decide +kernel), List.mem_of_getElem? (i := 892) (by decide +kernel)⟩
theorem lw_p56 : lw_okq (⟨"BentPictureModel", "dotsIn", "(I)I"⟩, 23) := ⟨⟨by decide +kernel, by decide +kernel⟩, List.mem_of_getElem? (i := 630) (by decide +kernel), List.mem_of_getElem? (i := 907) (by decide +kernel), List.mem_of_getElem? (i := 908) (by decide +kernel)⟩
theorem lw_p57 : lw_okq (⟨"BentPictureModel", "edges", "(Z)I"⟩, 23) := ⟨⟨by decide +kernel, by decide +kernel⟩, List.mem_of_getElem? (i := 630) (by decide +kernel), List.mem_of_getElem? (i := 922) (by decide +kernel), List.mem_of_getElem? (i := 923) (by decide +kernel)⟩
theorem lw_p58 : lw_okq (⟨"BentPictureModel", "takenSum", "()I"⟩, 23) := ⟨⟨by decide +kernel, by decide +kernel⟩, List.mem_of_getElem? (i := 630) (by decide +kernel), List.mem_of_getElem? (i := 926) (by decide +kernel), List.mem_of_getElem? (i := 927) (by decide +kernel)⟩
theorem lw_p59 : lw_okq (⟨"BentPictureModel", "shared", "()I"⟩, 23) := ⟨⟨by decide +kernel, by decide +kernel⟩, List.mem_of_getElem? (i := 630) (by decide +kernel), List.mem_of_getElem? (i := 930) (by decide +kernel), List.mem_of_getElem? (i := 931) (by decide +kernel)⟩
theorem lw_p60 : lw_okq (⟨"BentPictureModel", "told", "(IIIZ)I"⟩, 23) := ⟨⟨by decide +kernel, by decide +kernel⟩, List.mem_of_getElem? (i := 630) (by decide +kernel), List.mem_of_getElem? (i := 946) (by decide +kernel), List.mem_of_getElem? (i := 947) (by decide +kernel)⟩
theorem lw_p61 : lw_okq (⟨"BentPictureModel", "laysNearest", "()V"⟩, 23) := ⟨⟨by decide +kernel, by decide +kernel⟩, List.mem_of_getElem? (i := 630) (by decide +kernel), List.mem_of_getElem? (i := 970) (by decide +kernel), List.mem_of_getElem? (i := 971) (by decide +kernel)⟩
theorem lw_p62 : lw_okq (⟨"BentPictureModel", "between", "(III)I"⟩, 23) := ⟨⟨by decide +kernel, by decide +kernel⟩, List.mem_of_getElem? (i := 630) (by decide +kernel), List.mem_of_getElem? (i := 994) (by decide +kernel), List.mem_of_getElem? (i := 995) (by decide +kernel)⟩
theorem lw_p63 : lw_okq (⟨"BentPictureModel", "extreme", "(Z)I"⟩, 23) := ⟨⟨by decide +kernel, by decide +kernel⟩, List.mem_of_getElem? (i := 630) (by decide +kernel), List.mem_of_getElem? (i := 1002) (by decide +kernel), List.mem_of_getElem? (i := 1003) (by decide +kernel)⟩
def lw_privs_4 : List (MethodName × Nat) := [(⟨"BentPictureModel", "joins", "(I)V"⟩, 23), (⟨"BentPictureModel", "comesUp", "(I)V"⟩, 23), (⟨"BentPictureModel", "moved", "()I"⟩, 23), (⟨"BentPictureModel", "isMoved", "(I)Z"⟩, 23), (⟨"BentPictureModel", "nearestOf", "(II)I"⟩, 23), (⟨"BentPictureModel", "finds", "(IIZ)V"⟩, 23), (⟨"BentPictureModel", "lies", "(IIZ)I"⟩, 23), (⟨"BentPictureModel", "sum", "()I"⟩, 23), (⟨"BentPictureModel", "dotsIn", "(I)I"⟩, 23), (⟨"BentPictureModel", "edges", "(Z)I"⟩, 23), (⟨"BentPictureModel", "takenSum", "()I"⟩, 23), (⟨"BentPictureModel", "shared", "()I"⟩, 23), (⟨"BentPictureModel", "told", "(IIIZ)I"⟩, 23), (⟨"BentPictureModel", "laysNearest", "()V"⟩, 23), (⟨"BentPictureModel", "between", "(III)I"⟩, 23), (⟨"BentPictureModel", "extreme", "(Z)I"⟩, 23)]
theorem lw_r4 : ∀ q ∈ lw_privs_4, lw_okq q := List.forall_mem_cons.mpr ⟨lw_p48, List.forall_mem_cons.mpr ⟨lw_p49, List.forall_mem_cons.mpr ⟨lw_p50, List.forall_mem_cons.mpr ⟨lw_p51, List.forall_mem_cons.mpr ⟨lw_p52, List.forall_mem_cons.mpr ⟨lw_p53, List.forall_mem_cons.mpr ⟨lw_p54, List.forall_mem_cons.mpr ⟨lw_p55, List.forall_mem_cons.mpr ⟨lw_p56, List.forall_mem_cons.mpr ⟨lw_p57, List.forall_mem_cons.mpr ⟨lw_p58, List.forall_mem_cons.mpr ⟨lw_p59, List.forall_mem_cons.mpr ⟨lw_p60, List.forall_mem_cons.mpr ⟨lw_p61, List.forall_mem_cons.mpr ⟨lw_p62, List.forall_mem_cons.mpr ⟨lw_p63, fun _ h => absurd h List.not_mem_nil⟩⟩⟩⟩⟩⟩⟩⟩⟩⟩⟩⟩⟩⟩⟩⟩
def lw_privs : List (MethodName × Nat) := lw_privs_1 ++ (lw_privs_2 ++ (lw_privs_3 ++ (lw_privs_4)))
def lw_tbl : List Cond := k2_sels lw_privs ++ tables_1
theorem lw_privs_ok : ∀ q ∈ lw_privs, lw_okq q := by
  show ∀ q ∈ lw_privs_1 ++ (lw_privs_2 ++ (lw_privs_3 ++ (lw_privs_4))), lw_okq q
  exact List.forall_mem_append.mpr ⟨lw_r1, List.forall_mem_append.mpr ⟨lw_r2, List.forall_mem_append.mpr ⟨lw_r3, lw_r4⟩⟩⟩

def RX0 : String := "BentPicture$Cover"
def TX0 : u_T := fun k => match k with
  | 0 => ("BentPicture$Cover", "lies", "[I", true)
  | _ => ("BentPicture$Cover", "holders", "[I", true)
def tyX0 : Nat → FieldType := fun k => match k with
  | 0 => .array .int
  | _ => .array .int
abbrev wsX00 : List Cond := u_ws RX0 TX0 2
theorem nmX0 : ∀ a, a < 2 → ∀ b, b < 2 → a ≠ b → (TX0 a).2.1 ≠ (TX0 b).2.1 := by decide +kernel
theorem tyX0_ok : ∀ k, k < 2 → parseFieldDescriptor (TX0 k).2.2.1 = some (tyX0 k) := by decide +kernel
abbrev cX0_init : ByteArray := prog_2_method_1_code
def yX0_init : MethodName := ⟨RX0, "<init>", "()V"⟩
abbrev cX0_fill : ByteArray := prog_2_method_2_code
def yX0_fill : MethodName := ⟨RX0, "fill", "(LBentPicture$Net;)V"⟩
abbrev cX0_lay : ByteArray := prog_2_method_3_code
def yX0_lay : MethodName := ⟨RX0, "lay", "(LBentPicture$Net;LBentPicture$Points;I)V"⟩
abbrev cX0_least : ByteArray := prog_2_method_4_code
def yX0_least : MethodName := ⟨RX0, "least", "(III)I"⟩
abbrev cX0_greatest : ByteArray := prog_2_method_5_code
def yX0_greatest : MethodName := ⟨RX0, "greatest", "(III)I"⟩
abbrev cX0_take : ByteArray := prog_2_method_6_code
def yX0_take : MethodName := ⟨RX0, "take", "(II)V"⟩
abbrev cX0_dotsIn : ByteArray := prog_2_method_7_code
def yX0_dotsIn : MethodName := ⟨RX0, "dotsIn", "(II)I"⟩
abbrev cX0_dotsOfMany : ByteArray := prog_2_method_8_code
def yX0_dotsOfMany : MethodName := ⟨RX0, "dotsOfMany", "(I)I"⟩
def RX1 : String := "BentPicture$Net"
def TX1 : u_T := fun k => match k with
  | 0 => ("BentPicture$Net", "homes", "LBentPicture$Points;", true)
  | 1 => ("BentPicture$Net", "places", "LBentPicture$Points;", true)
  | 2 => ("BentPicture$Net", "way", "LBentPicture$Points;", true)
  | 3 => ("BentPicture$Net", "triangles", "LBentPicture$Triangles;", true)
  | 4 => ("BentPicture$Net", "linkFrom", "[I", true)
  | 5 => ("BentPicture$Net", "linkTo", "[I", true)
  | 6 => ("BentPicture$Net", "linked", "I", false)
  | 7 => ("BentPicture$Net", "knots", "I", false)
  | 8 => ("BentPicture$Net", "w", "I", false)
  | _ => ("BentPicture$Net", "h", "I", false)
def tyX1 : Nat → FieldType := fun k => match k with
  | 0 => .object "BentPicture$Points"
  | 1 => .object "BentPicture$Points"
  | 2 => .object "BentPicture$Points"
  | 3 => .object "BentPicture$Triangles"
  | 4 => .array .int
  | 5 => .array .int
  | 6 => .int
  | 7 => .int
  | 8 => .int
  | _ => .int
abbrev wsX10 : List Cond := u_ws RX1 TX1 10
theorem nmX1 : ∀ a, a < 10 → ∀ b, b < 10 → a ≠ b → (TX1 a).2.1 ≠ (TX1 b).2.1 := by decide +kernel
theorem tyX1_ok : ∀ k, k < 10 → parseFieldDescriptor (TX1 k).2.2.1 = some (tyX1 k) := by decide +kernel
abbrev cX1_init : ByteArray := prog_3_method_1_code
def yX1_init : MethodName := ⟨RX1, "<init>", "()V"⟩
abbrev cX1_begin : ByteArray := prog_3_method_2_code
def yX1_begin : MethodName := ⟨RX1, "begin", "(II)V"⟩
abbrev cX1_beginCorner : ByteArray := prog_3_method_3_code
def yX1_beginCorner : MethodName := ⟨RX1, "beginCorner", "(III)V"⟩
abbrev cX1_isDot : ByteArray := prog_3_method_4_code
def yX1_isDot : MethodName := ⟨RX1, "isDot", "(II)Z"⟩
abbrev cX1_dotNumber : ByteArray := prog_3_method_5_code
def yX1_dotNumber : MethodName := ⟨RX1, "dotNumber", "(II)I"⟩
abbrev cX1_dots : ByteArray := prog_3_method_6_code
def yX1_dots : MethodName := ⟨RX1, "dots", "()I"⟩
abbrev cX1_isKnot : ByteArray := prog_3_method_7_code
def yX1_isKnot : MethodName := ⟨RX1, "isKnot", "(I)Z"⟩
abbrev cX1_kindOf : ByteArray := prog_3_method_8_code
def yX1_kindOf : MethodName := ⟨RX1, "kindOf", "(I)I"⟩
abbrev cX1_trianglesOf : ByteArray := prog_3_method_9_code
def yX1_trianglesOf : MethodName := ⟨RX1, "trianglesOf", "(I)I"⟩
abbrev cX1_areaOf : ByteArray := prog_3_method_10_code
def yX1_areaOf : MethodName := ⟨RX1, "areaOf", "(LBentPicture$Points;I)I"⟩
abbrev cX1_holds : ByteArray := prog_3_method_11_code
def yX1_holds : MethodName := ⟨RX1, "holds", "(LBentPicture$Points;III)Z"⟩
abbrev cX1_leastHolder : ByteArray := prog_3_method_12_code
def yX1_leastHolder : MethodName := ⟨RX1, "leastHolder", "(LBentPicture$Points;II)I"⟩
abbrev cX1_edges : ByteArray := prog_3_method_13_code
def yX1_edges : MethodName := ⟨RX1, "edges", "()I"⟩
abbrev cX1_edgesToTurn : ByteArray := prog_3_method_14_code
def yX1_edgesToTurn : MethodName := ⟨RX1, "edgesToTurn", "()I"⟩
abbrev cX1_turnsRising : ByteArray := prog_3_method_15_code
def yX1_turnsRising : MethodName := ⟨RX1, "turnsRising", "(II)I"⟩
abbrev cX1_bentKnots : ByteArray := prog_3_method_16_code
def yX1_bentKnots : MethodName := ⟨RX1, "bentKnots", "()I"⟩
abbrev cX1_bentTriangles : ByteArray := prog_3_method_17_code
def yX1_bentTriangles : MethodName := ⟨RX1, "bentTriangles", "(I)I"⟩
abbrev cX1_extremeTriangle : ByteArray := prog_3_method_18_code
def yX1_extremeTriangle : MethodName := ⟨RX1, "extremeTriangle", "(Z)I"⟩
abbrev cX1_reasonToInsert : ByteArray := prog_3_method_19_code
def yX1_reasonToInsert : MethodName := ⟨RX1, "reasonToInsert", "(IIII)I"⟩
abbrev cX1_isHome : ByteArray := prog_3_method_20_code
def yX1_isHome : MethodName := ⟨RX1, "isHome", "(II)Z"⟩
abbrev cX1_keepsSide : ByteArray := prog_3_method_21_code
def yX1_keepsSide : MethodName := ⟨RX1, "keepsSide", "(IIII)Z"⟩
abbrev cX1_putKnot : ByteArray := prog_3_method_22_code
def yX1_putKnot : MethodName := ⟨RX1, "putKnot", "(IIII)I"⟩
abbrev cX1_linkOfHome : ByteArray := prog_3_method_23_code
def yX1_linkOfHome : MethodName := ⟨RX1, "linkOfHome", "(II)V"⟩
abbrev cX1_linkIfApart : ByteArray := prog_3_method_24_code
def yX1_linkIfApart : MethodName := ⟨RX1, "linkIfApart", "(IIII)V"⟩
abbrev cX1_link : ByteArray := prog_3_method_25_code
def yX1_link : MethodName := ⟨RX1, "link", "(II)V"⟩
abbrev cX1_foldsAt : ByteArray := prog_3_method_26_code
def yX1_foldsAt : MethodName := ⟨RX1, "foldsAt", "(II)Z"⟩
abbrev cX1_reasonToMove : ByteArray := prog_3_method_27_code
def yX1_reasonToMove : MethodName := ⟨RX1, "reasonToMove", "(III)I"⟩
abbrev cX1_linkOf : ByteArray := prog_3_method_28_code
def yX1_linkOf : MethodName := ⟨RX1, "linkOf", "(I)V"⟩
abbrev cX1_reasonByLink : ByteArray := prog_3_method_29_code
def yX1_reasonByLink : MethodName := ⟨RX1, "reasonByLink", "(III)I"⟩
abbrev cX1_isRoom : ByteArray := prog_3_method_30_code
def yX1_isRoom : MethodName := ⟨RX1, "isRoom", "(III)Z"⟩
abbrev cX1_reasonToTurn : ByteArray := prog_3_method_31_code
def yX1_reasonToTurn : MethodName := ⟨RX1, "reasonToTurn", "(II)I"⟩
abbrev cX1_isFlat : ByteArray := prog_3_method_32_code
def yX1_isFlat : MethodName := ⟨RX1, "isFlat", "(III)Z"⟩
abbrev cX1_turnEdge : ByteArray := prog_3_method_33_code
def yX1_turnEdge : MethodName := ⟨RX1, "turnEdge", "(II)V"⟩
abbrev cX1_reasonToTakeOut : ByteArray := prog_3_method_34_code
def yX1_reasonToTakeOut : MethodName := ⟨RX1, "reasonToTakeOut", "(I)I"⟩
abbrev cX1_takeOut : ByteArray := prog_3_method_35_code
def yX1_takeOut : MethodName := ⟨RX1, "takeOut", "(I)V"⟩
abbrev cX1_coverLink : ByteArray := prog_3_method_36_code
def yX1_coverLink : MethodName := ⟨RX1, "coverLink", "()V"⟩
def RX2 : String := "BentPicture$Points"
def TX2 : u_T := fun k => match k with
  | 0 => ("BentPicture$Points", "xs", "[I", true)
  | _ => ("BentPicture$Points", "ys", "[I", true)
def tyX2 : Nat → FieldType := fun k => match k with
  | 0 => .array .int
  | _ => .array .int
abbrev wsX20 : List Cond := u_ws RX2 TX2 2
theorem nmX2 : ∀ a, a < 2 → ∀ b, b < 2 → a ≠ b → (TX2 a).2.1 ≠ (TX2 b).2.1 := by decide +kernel
theorem tyX2_ok : ∀ k, k < 2 → parseFieldDescriptor (TX2 k).2.2.1 = some (tyX2 k) := by decide +kernel
abbrev cX2_init : ByteArray := prog_4_method_1_code
def yX2_init : MethodName := ⟨RX2, "<init>", "()V"⟩
abbrev cX2_put : ByteArray := prog_4_method_2_code
def yX2_put : MethodName := ⟨RX2, "put", "(III)V"⟩
abbrev cX2_isAt : ByteArray := prog_4_method_3_code
def yX2_isAt : MethodName := ⟨RX2, "isAt", "(III)Z"⟩
abbrev cX2_area : ByteArray := prog_4_method_4_code
def yX2_area : MethodName := ⟨RX2, "area", "(III)I"⟩
abbrev cX2_areaWith : ByteArray := prog_4_method_5_code
def yX2_areaWith : MethodName := ⟨RX2, "areaWith", "(IIII)I"⟩
abbrev cX2_squareOfLength : ByteArray := prog_4_method_6_code
def yX2_squareOfLength : MethodName := ⟨RX2, "squareOfLength", "(II)I"⟩
abbrev cX2_close : ByteArray := prog_4_method_7_code
def yX2_close : MethodName := ⟨RX2, "close", "(I)V"⟩
def RX3 : String := "BentPicture$Spot"
def TX3 : u_T := fun k => match k with
  | 0 => ("BentPicture$Spot", "lying", "I", false)
  | 1 => ("BentPicture$Spot", "first", "I", false)
  | 2 => ("BentPicture$Spot", "second", "I", false)
  | 3 => ("BentPicture$Spot", "third", "I", false)
  | 4 => ("BentPicture$Spot", "whole", "I", false)
  | 5 => ("BentPicture$Spot", "x", "I", false)
  | 6 => ("BentPicture$Spot", "y", "I", false)
  | _ => ("BentPicture$Spot", "below", "I", false)
def tyX3 : Nat → FieldType := fun k => match k with
  | 0 => .int
  | 1 => .int
  | 2 => .int
  | 3 => .int
  | 4 => .int
  | 5 => .int
  | 6 => .int
  | _ => .int
abbrev wsX30 : List Cond := u_ws RX3 TX3 8
theorem nmX3 : ∀ a, a < 8 → ∀ b, b < 8 → a ≠ b → (TX3 a).2.1 ≠ (TX3 b).2.1 := by decide +kernel
theorem tyX3_ok : ∀ k, k < 8 → parseFieldDescriptor (TX3 k).2.2.1 = some (tyX3 k) := by decide +kernel
abbrev cX3_init : ByteArray := prog_5_method_1_code
def yX3_init : MethodName := ⟨RX3, "<init>", "()V"⟩
abbrev cX3_measure : ByteArray := prog_5_method_2_code
def yX3_measure : MethodName := ⟨RX3, "measure", "(LBentPicture$Net;LBentPicture$Points;III)V"⟩
abbrev cX3_shortenShares : ByteArray := prog_5_method_3_code
def yX3_shortenShares : MethodName := ⟨RX3, "shortenShares", "()V"⟩
abbrev cX3_mix : ByteArray := prog_5_method_4_code
def yX3_mix : MethodName := ⟨RX3, "mix", "(LBentPicture$Net;LBentPicture$Points;)V"⟩
abbrev cX3_told : ByteArray := prog_5_method_5_code
def yX3_told : MethodName := ⟨RX3, "told", "(I)I"⟩
def RX4 : String := "BentPicture$Triangles"
def TX4 : u_T := fun k => match k with
  | 0 => ("BentPicture$Triangles", "packed", "[I", true)
  | _ => ("BentPicture$Triangles", "held", "I", false)
def tyX4 : Nat → FieldType := fun k => match k with
  | 0 => .array .int
  | _ => .int
abbrev wsX40 : List Cond := u_ws RX4 TX4 2
theorem nmX4 : ∀ a, a < 2 → ∀ b, b < 2 → a ≠ b → (TX4 a).2.1 ≠ (TX4 b).2.1 := by decide +kernel
theorem tyX4_ok : ∀ k, k < 2 → parseFieldDescriptor (TX4 k).2.2.1 = some (tyX4 k) := by decide +kernel
abbrev cX4_init : ByteArray := prog_6_method_1_code
def yX4_init : MethodName := ⟨RX4, "<init>", "()V"⟩
abbrev cX4_pack : ByteArray := prog_6_method_2_code
def yX4_pack : MethodName := ⟨RX4, "pack", "(III)I"⟩
abbrev cX4_isOne : ByteArray := prog_6_method_3_code
def yX4_isOne : MethodName := ⟨RX4, "isOne", "(I)Z"⟩
abbrev cX4_first : ByteArray := prog_6_method_4_code
def yX4_first : MethodName := ⟨RX4, "first", "(I)I"⟩
abbrev cX4_second : ByteArray := prog_6_method_5_code
def yX4_second : MethodName := ⟨RX4, "second", "(I)I"⟩
abbrev cX4_third : ByteArray := prog_6_method_6_code
def yX4_third : MethodName := ⟨RX4, "third", "(I)I"⟩
abbrev cX4_has : ByteArray := prog_6_method_7_code
def yX4_has : MethodName := ⟨RX4, "has", "(II)Z"⟩
abbrev cX4_add : ByteArray := prog_6_method_8_code
def yX4_add : MethodName := ⟨RX4, "add", "(III)V"⟩
abbrev cX4_remove : ByteArray := prog_6_method_9_code
def yX4_remove : MethodName := ⟨RX4, "remove", "(I)V"⟩
abbrev cX4_apex : ByteArray := prog_6_method_10_code
def yX4_apex : MethodName := ⟨RX4, "apex", "(II)I"⟩
abbrev cX4_holdersOf : ByteArray := prog_6_method_11_code
def yX4_holdersOf : MethodName := ⟨RX4, "holdersOf", "(II)I"⟩
abbrev cX4_close : ByteArray := prog_6_method_12_code
def yX4_close : MethodName := ⟨RX4, "close", "(I)V"⟩
abbrev cX4_closed : ByteArray := prog_6_method_13_code
def yX4_closed : MethodName := ⟨RX4, "closed", "(II)I"⟩
def RX5 : String := "BentPicture"
def TX5 : u_T := fun k => match k with
  | 0 => ("BentPicture", "net", "LBentPicture$Net;", true)
  | 1 => ("BentPicture", "cover", "LBentPicture$Cover;", true)
  | 2 => ("BentPicture", "spot", "LBentPicture$Spot;", true)
  | 3 => ("BentPicture", "values", "[I", true)
  | 4 => ("BentPicture", "near", "[I", true)
  | 5 => ("BentPicture", "useCounts", "[I", true)
  | 6 => ("BentPicture", "spare", "[I", true)
  | _ => ("BentPicture", "charted", "Z", false)
def tyX5 : Nat → FieldType := fun k => match k with
  | 0 => .object "BentPicture$Net"
  | 1 => .object "BentPicture$Cover"
  | 2 => .object "BentPicture$Spot"
  | 3 => .array .int
  | 4 => .array .int
  | 5 => .array .int
  | 6 => .array .int
  | _ => .boolean
abbrev wsX50 : List Cond := u_ws RX5 TX5 8
theorem nmX5 : ∀ a, a < 8 → ∀ b, b < 8 → a ≠ b → (TX5 a).2.1 ≠ (TX5 b).2.1 := by decide +kernel
theorem tyX5_ok : ∀ k, k < 8 → parseFieldDescriptor (TX5 k).2.2.1 = some (tyX5 k) := by decide +kernel
abbrev cX5_init : ByteArray := prog_1_method_1_code
def yX5_init : MethodName := ⟨RX5, "<init>", "()V"⟩
abbrev cX5_size : ByteArray := prog_1_method_2_code
def yX5_size : MethodName := ⟨RX5, "size", "(II)Z"⟩
abbrev cX5_paint : ByteArray := prog_1_method_3_code
def yX5_paint : MethodName := ⟨RX5, "paint", "(III)I"⟩
abbrev cX5_weave : ByteArray := prog_1_method_4_code
def yX5_weave : MethodName := ⟨RX5, "weave", "(I)I"⟩
abbrev cX5_value : ByteArray := prog_1_method_5_code
def yX5_value : MethodName := ⟨RX5, "value", "(IIZ)I"⟩
abbrev cX5_insert : ByteArray := prog_1_method_6_code
def yX5_insert : MethodName := ⟨RX5, "insert", "(IIII)I"⟩
abbrev cX5_move : ByteArray := prog_1_method_7_code
def yX5_move : MethodName := ⟨RX5, "move", "(III)I"⟩
abbrev cX5_turn : ByteArray := prog_1_method_8_code
def yX5_turn : MethodName := ⟨RX5, "turn", "(II)I"⟩
abbrev cX5_out : ByteArray := prog_1_method_9_code
def yX5_out : MethodName := ⟨RX5, "out", "(I)I"⟩
abbrev cX5_straight : ByteArray := prog_1_method_10_code
def yX5_straight : MethodName := ⟨RX5, "straight", "()I"⟩
abbrev cX5_carry : ByteArray := prog_1_method_11_code
def yX5_carry : MethodName := ⟨RX5, "carry", "()I"⟩
abbrev cX5_knot : ByteArray := prog_1_method_12_code
def yX5_knot : MethodName := ⟨RX5, "knot", "(II)I"⟩
abbrev cX5_triangle : ByteArray := prog_1_method_13_code
def yX5_triangle : MethodName := ⟨RX5, "triangle", "(II)I"⟩
abbrev cX5_edge : ByteArray := prog_1_method_14_code
def yX5_edge : MethodName := ⟨RX5, "edge", "(III)I"⟩
abbrev cX5_count : ByteArray := prog_1_method_15_code
def yX5_count : MethodName := ⟨RX5, "count", "(I)I"⟩
abbrev cX5_find : ByteArray := prog_1_method_16_code
def yX5_find : MethodName := ⟨RX5, "find", "(IIZ)I"⟩
abbrev cX5_share : ByteArray := prog_1_method_17_code
def yX5_share : MethodName := ⟨RX5, "share", "(III)I"⟩
abbrev cX5_from : ByteArray := prog_1_method_18_code
def yX5_from : MethodName := ⟨RX5, "from", "(III)I"⟩
abbrev cX5_to : ByteArray := prog_1_method_19_code
def yX5_to : MethodName := ⟨RX5, "to", "(III)I"⟩
abbrev cX5_nearest : ByteArray := prog_1_method_20_code
def yX5_nearest : MethodName := ⟨RX5, "nearest", "(II)I"⟩
abbrev cX5_blend : ByteArray := prog_1_method_21_code
def yX5_blend : MethodName := ⟨RX5, "blend", "(III)I"⟩
abbrev cX5_uses : ByteArray := prog_1_method_22_code
def yX5_uses : MethodName := ⟨RX5, "uses", "(II)I"⟩
abbrev cX5_lost : ByteArray := prog_1_method_23_code
def yX5_lost : MethodName := ⟨RX5, "lost", "()I"⟩
abbrev cX5_trace : ByteArray := prog_1_method_24_code
def yX5_trace : MethodName := ⟨RX5, "trace", "(III)I"⟩
abbrev cX5_loops : ByteArray := prog_1_method_25_code
def yX5_loops : MethodName := ⟨RX5, "loops", "()I"⟩
abbrev cX5_room : ByteArray := prog_1_method_26_code
def yX5_room : MethodName := ⟨RX5, "room", "(II)I"⟩
abbrev cX5_reach : ByteArray := prog_1_method_27_code
def yX5_reach : MethodName := ⟨RX5, "reach", "(III)I"⟩
abbrev cX5_bent : ByteArray := prog_1_method_28_code
def yX5_bent : MethodName := ⟨RX5, "bent", "(I)I"⟩
abbrev cX5_stretch : ByteArray := prog_1_method_29_code
def yX5_stretch : MethodName := ⟨RX5, "stretch", "(I)I"⟩
abbrev cX5_chart : ByteArray := prog_1_method_30_code
def yX5_chart : MethodName := ⟨RX5, "chart", "()V"⟩
abbrev cX5_measureByPlaces : ByteArray := prog_1_method_31_code
def yX5_measureByPlaces : MethodName := ⟨RX5, "measureByPlaces", "(II)V"⟩
abbrev cX5_dotNearSpot : ByteArray := prog_1_method_32_code
def yX5_dotNearSpot : MethodName := ⟨RX5, "dotNearSpot", "()I"⟩
abbrev cX5_sumOfValues : ByteArray := prog_1_method_33_code
def yX5_sumOfValues : MethodName := ⟨RX5, "sumOfValues", "()I"⟩
abbrev cX5_sumOfTakenValues : ByteArray := prog_1_method_34_code
def yX5_sumOfTakenValues : MethodName := ⟨RX5, "sumOfTakenValues", "()I"⟩
abbrev cX5_countUses : ByteArray := prog_1_method_35_code
def yX5_countUses : MethodName := ⟨RX5, "countUses", "()V"⟩
abbrev cX5_blendAbove : ByteArray := prog_1_method_36_code
def yX5_blendAbove : MethodName := ⟨RX5, "blendAbove", "()I"⟩
abbrev cX5_valueOrZero : ByteArray := prog_1_method_37_code
def yX5_valueOrZero : MethodName := ⟨RX5, "valueOrZero", "(II)I"⟩
abbrev cX5_rounded : ByteArray := prog_1_method_38_code
def yX5_rounded : MethodName := ⟨RX5, "rounded", "(II)I"⟩
abbrev cX5_divisorOf : ByteArray := prog_1_method_39_code
def yX5_divisorOf : MethodName := ⟨RX5, "divisorOf", "(II)I"⟩
abbrev cX5_shortened : ByteArray := prog_1_method_40_code
def yX5_shortened : MethodName := ⟨RX5, "shortened", "(II)I"⟩
def RX6 : String := "BentPictureModel"
def TX6 : u_T := fun k => match k with
  | 0 => ("BentPictureModel", "w", "I", false)
  | 1 => ("BentPictureModel", "h", "I", false)
  | 2 => ("BentPictureModel", "knots", "I", false)
  | 3 => ("BentPictureModel", "many", "I", false)
  | 4 => ("BentPictureModel", "homeX", "[I", true)
  | 5 => ("BentPictureModel", "homeY", "[I", true)
  | 6 => ("BentPictureModel", "x", "[I", true)
  | 7 => ("BentPictureModel", "y", "[I", true)
  | 8 => ("BentPictureModel", "tri", "[I", true)
  | 9 => ("BentPictureModel", "value", "[I", true)
  | 10 => ("BentPictureModel", "taken", "[I", true)
  | 11 => ("BentPictureModel", "keptX", "[I", true)
  | 12 => ("BentPictureModel", "keptY", "[I", true)
  | 13 => ("BentPictureModel", "keptHomeX", "[I", true)
  | 14 => ("BentPictureModel", "keptHomeY", "[I", true)
  | 15 => ("BentPictureModel", "keptTri", "[I", true)
  | 16 => ("BentPictureModel", "keptKnots", "I", false)
  | 17 => ("BentPictureModel", "keptMany", "I", false)
  | 18 => ("BentPictureModel", "hits", "[I", true)
  | 19 => ("BentPictureModel", "edge3", "[I", true)
  | 20 => ("BentPictureModel", "pointX", "I", false)
  | 21 => ("BentPictureModel", "pointY", "I", false)
  | _ => ("BentPictureModel", "below", "I", false)
def tyX6 : Nat → FieldType := fun k => match k with
  | 0 => .int
  | 1 => .int
  | 2 => .int
  | 3 => .int
  | 4 => .array .int
  | 5 => .array .int
  | 6 => .array .int
  | 7 => .array .int
  | 8 => .array .int
  | 9 => .array .int
  | 10 => .array .int
  | 11 => .array .int
  | 12 => .array .int
  | 13 => .array .int
  | 14 => .array .int
  | 15 => .array .int
  | 16 => .int
  | 17 => .int
  | 18 => .array .int
  | 19 => .array .int
  | 20 => .int
  | 21 => .int
  | _ => .int
abbrev wsX60 : List Cond := u_ws RX6 TX6 23
theorem nmX6 : ∀ a, a < 23 → ∀ b, b < 23 → a ≠ b → (TX6 a).2.1 ≠ (TX6 b).2.1 := by decide +kernel
theorem tyX6_ok : ∀ k, k < 23 → parseFieldDescriptor (TX6 k).2.2.1 = some (tyX6 k) := by decide +kernel
abbrev cX6_init : ByteArray := prog_8_method_1_code
def yX6_init : MethodName := ⟨RX6, "<init>", "()V"⟩
abbrev cX6_isIn : ByteArray := prog_8_method_2_code
def yX6_isIn : MethodName := ⟨RX6, "isIn", "(III)Z"⟩
abbrev cX6_corner : ByteArray := prog_8_method_3_code
def yX6_corner : MethodName := ⟨RX6, "corner", "(III)V"⟩
abbrev cX6_begins : ByteArray := prog_8_method_4_code
def yX6_begins : MethodName := ⟨RX6, "begins", "()V"⟩
abbrev cX6_keeps : ByteArray := prog_8_method_5_code
def yX6_keeps : MethodName := ⟨RX6, "keeps", "()V"⟩
abbrev cX6_comesBack : ByteArray := prog_8_method_6_code
def yX6_comesBack : MethodName := ⟨RX6, "comesBack", "()V"⟩
abbrev cX6_adds : ByteArray := prog_8_method_7_code
def yX6_adds : MethodName := ⟨RX6, "adds", "(III)V"⟩
abbrev cX6_drops : ByteArray := prog_8_method_8_code
def yX6_drops : MethodName := ⟨RX6, "drops", "(I)V"⟩
abbrev cX6_area : ByteArray := prog_8_method_9_code
def yX6_area : MethodName := ⟨RX6, "area", "(IIIIII)I"⟩
abbrev cX6_at : ByteArray := prog_8_method_10_code
def yX6_at : MethodName := ⟨RX6, "at", "(II)I"⟩
abbrev cX6_homeArea : ByteArray := prog_8_method_11_code
def yX6_homeArea : MethodName := ⟨RX6, "homeArea", "(III)I"⟩
abbrev cX6_placeArea : ByteArray := prog_8_method_12_code
def yX6_placeArea : MethodName := ⟨RX6, "placeArea", "(III)I"⟩
abbrev cX6_areaOf : ByteArray := prog_8_method_13_code
def yX6_areaOf : MethodName := ⟨RX6, "areaOf", "(IZ)I"⟩
abbrev cX6_sorts : ByteArray := prog_8_method_14_code
def yX6_sorts : MethodName := ⟨RX6, "sorts", "()V"⟩
abbrev cX6_key : ByteArray := prog_8_method_15_code
def yX6_key : MethodName := ⟨RX6, "key", "(I)I"⟩
abbrev cX6_changes : ByteArray := prog_8_method_16_code
def yX6_changes : MethodName := ⟨RX6, "changes", "(II)V"⟩
abbrev cX6_isFolded : ByteArray := prog_8_method_17_code
def yX6_isFolded : MethodName := ⟨RX6, "isFolded", "()Z"⟩
abbrev cX6_shareOf : ByteArray := prog_8_method_18_code
def yX6_shareOf : MethodName := ⟨RX6, "shareOf", "(IIIIZ)I"⟩
abbrev cX6_has : ByteArray := prog_8_method_19_code
def yX6_has : MethodName := ⟨RX6, "has", "(IIIZ)Z"⟩
abbrev cX6_lies : ByteArray := prog_8_method_20_code
def yX6_lies : MethodName := ⟨RX6, "lies", "(IIZ)I"⟩
abbrev cX6_isDot : ByteArray := prog_8_method_21_code
def yX6_isDot : MethodName := ⟨RX6, "isDot", "(II)Z"⟩
abbrev cX6_isKnot : ByteArray := prog_8_method_22_code
def yX6_isKnot : MethodName := ⟨RX6, "isKnot", "(I)Z"⟩
abbrev cX6_stays : ByteArray := prog_8_method_23_code
def yX6_stays : MethodName := ⟨RX6, "stays", "(IIII)Z"⟩
abbrev cX6_knotAt : ByteArray := prog_8_method_24_code
def yX6_knotAt : MethodName := ⟨RX6, "knotAt", "(II)I"⟩
abbrev cX6_insert : ByteArray := prog_8_method_25_code
def yX6_insert : MethodName := ⟨RX6, "insert", "(IIII)I"⟩
abbrev cX6_splitsNew : ByteArray := prog_8_method_26_code
def yX6_splitsNew : MethodName := ⟨RX6, "splitsNew", "(I)V"⟩
abbrev cX6_whyNot : ByteArray := prog_8_method_27_code
def yX6_whyNot : MethodName := ⟨RX6, "whyNot", "(III)I"⟩
abbrev cX6_move : ByteArray := prog_8_method_28_code
def yX6_move : MethodName := ⟨RX6, "move", "(III)I"⟩
abbrev cX6_side : ByteArray := prog_8_method_29_code
def yX6_side : MethodName := ⟨RX6, "side", "(II)I"⟩
abbrev cX6_third : ByteArray := prog_8_method_30_code
def yX6_third : MethodName := ⟨RX6, "third", "(III)I"⟩
abbrev cX6_sides : ByteArray := prog_8_method_31_code
def yX6_sides : MethodName := ⟨RX6, "sides", "(II)I"⟩
abbrev cX6_isTurnable : ByteArray := prog_8_method_32_code
def yX6_isTurnable : MethodName := ⟨RX6, "isTurnable", "(II)Z"⟩
abbrev cX6_turn : ByteArray := prog_8_method_33_code
def yX6_turn : MethodName := ⟨RX6, "turn", "(II)I"⟩
abbrev cX6_trianglesOf : ByteArray := prog_8_method_34_code
def yX6_trianglesOf : MethodName := ⟨RX6, "trianglesOf", "(I)I"⟩
abbrev cX6_kindOf : ByteArray := prog_8_method_35_code
def yX6_kindOf : MethodName := ⟨RX6, "kindOf", "(I)I"⟩
abbrev cX6_joins : ByteArray := prog_8_method_36_code
def yX6_joins : MethodName := ⟨RX6, "joins", "(I)V"⟩
abbrev cX6_comesUp : ByteArray := prog_8_method_37_code
def yX6_comesUp : MethodName := ⟨RX6, "comesUp", "(I)V"⟩
abbrev cX6_out : ByteArray := prog_8_method_38_code
def yX6_out : MethodName := ⟨RX6, "out", "(I)I"⟩
abbrev cX6_isMoved : ByteArray := prog_8_method_39_code
def yX6_isMoved : MethodName := ⟨RX6, "isMoved", "(I)Z"⟩
abbrev cX6_moved : ByteArray := prog_8_method_40_code
def yX6_moved : MethodName := ⟨RX6, "moved", "()I"⟩
abbrev cX6_straight : ByteArray := prog_8_method_41_code
def yX6_straight : MethodName := ⟨RX6, "straight", "()I"⟩
abbrev cX6_carry : ByteArray := prog_8_method_42_code
def yX6_carry : MethodName := ⟨RX6, "carry", "()I"⟩
abbrev cX6_size : ByteArray := prog_8_method_43_code
def yX6_size : MethodName := ⟨RX6, "size", "(II)Z"⟩
abbrev cX6_paint : ByteArray := prog_8_method_44_code
def yX6_paint : MethodName := ⟨RX6, "paint", "(III)I"⟩
abbrev cX6_sum : ByteArray := prog_8_method_45_code
def yX6_sum : MethodName := ⟨RX6, "sum", "()I"⟩
abbrev cX6_weave : ByteArray := prog_8_method_46_code
def yX6_weave : MethodName := ⟨RX6, "weave", "(I)I"⟩
abbrev cX6_value : ByteArray := prog_8_method_47_code
def yX6_value : MethodName := ⟨RX6, "value", "(IIZ)I"⟩
abbrev cX6_knot : ByteArray := prog_8_method_48_code
def yX6_knot : MethodName := ⟨RX6, "knot", "(II)I"⟩
abbrev cX6_dotsIn : ByteArray := prog_8_method_49_code
def yX6_dotsIn : MethodName := ⟨RX6, "dotsIn", "(I)I"⟩
abbrev cX6_triangle : ByteArray := prog_8_method_50_code
def yX6_triangle : MethodName := ⟨RX6, "triangle", "(II)I"⟩
abbrev cX6_square : ByteArray := prog_8_method_51_code
def yX6_square : MethodName := ⟨RX6, "square", "(II)I"⟩
abbrev cX6_edge : ByteArray := prog_8_method_52_code
def yX6_edge : MethodName := ⟨RX6, "edge", "(III)I"⟩
abbrev cX6_edges : ByteArray := prog_8_method_53_code
def yX6_edges : MethodName := ⟨RX6, "edges", "(Z)I"⟩
abbrev cX6_shared : ByteArray := prog_8_method_54_code
def yX6_shared : MethodName := ⟨RX6, "shared", "()I"⟩
abbrev cX6_takenSum : ByteArray := prog_8_method_55_code
def yX6_takenSum : MethodName := ⟨RX6, "takenSum", "()I"⟩
abbrev cX6_count : ByteArray := prog_8_method_56_code
def yX6_count : MethodName := ⟨RX6, "count", "(I)I"⟩
abbrev cX6_common : ByteArray := prog_8_method_57_code
def yX6_common : MethodName := ⟨RX6, "common", "(II)I"⟩
abbrev cX6_finds : ByteArray := prog_8_method_58_code
def yX6_finds : MethodName := ⟨RX6, "finds", "(IIZ)V"⟩
abbrev cX6_nearestOf : ByteArray := prog_8_method_59_code
def yX6_nearestOf : MethodName := ⟨RX6, "nearestOf", "(II)I"⟩
abbrev cX6_find : ByteArray := prog_8_method_60_code
def yX6_find : MethodName := ⟨RX6, "find", "(IIZ)I"⟩
abbrev cX6_share : ByteArray := prog_8_method_61_code
def yX6_share : MethodName := ⟨RX6, "share", "(III)I"⟩
abbrev cX6_told : ByteArray := prog_8_method_62_code
def yX6_told : MethodName := ⟨RX6, "told", "(IIIZ)I"⟩
abbrev cX6_from : ByteArray := prog_8_method_63_code
def yX6_from : MethodName := ⟨RX6, "from", "(III)I"⟩
abbrev cX6_to : ByteArray := prog_8_method_64_code
def yX6_to : MethodName := ⟨RX6, "to", "(III)I"⟩
abbrev cX6_nearest : ByteArray := prog_8_method_65_code
def yX6_nearest : MethodName := ⟨RX6, "nearest", "(II)I"⟩
abbrev cX6_blend : ByteArray := prog_8_method_66_code
def yX6_blend : MethodName := ⟨RX6, "blend", "(III)I"⟩
abbrev cX6_uses : ByteArray := prog_8_method_67_code
def yX6_uses : MethodName := ⟨RX6, "uses", "(II)I"⟩
abbrev cX6_laysNearest : ByteArray := prog_8_method_68_code
def yX6_laysNearest : MethodName := ⟨RX6, "laysNearest", "()V"⟩
abbrev cX6_lost : ByteArray := prog_8_method_69_code
def yX6_lost : MethodName := ⟨RX6, "lost", "()I"⟩
abbrev cX6_trace : ByteArray := prog_8_method_70_code
def yX6_trace : MethodName := ⟨RX6, "trace", "(III)I"⟩
abbrev cX6_loops : ByteArray := prog_8_method_71_code
def yX6_loops : MethodName := ⟨RX6, "loops", "()I"⟩
abbrev cX6_room : ByteArray := prog_8_method_72_code
def yX6_room : MethodName := ⟨RX6, "room", "(II)I"⟩
abbrev cX6_reach : ByteArray := prog_8_method_73_code
def yX6_reach : MethodName := ⟨RX6, "reach", "(III)I"⟩
abbrev cX6_between : ByteArray := prog_8_method_74_code
def yX6_between : MethodName := ⟨RX6, "between", "(III)I"⟩
abbrev cX6_bent : ByteArray := prog_8_method_75_code
def yX6_bent : MethodName := ⟨RX6, "bent", "(I)I"⟩
abbrev cX6_extreme : ByteArray := prog_8_method_76_code
def yX6_extreme : MethodName := ⟨RX6, "extreme", "(Z)I"⟩
abbrev cX6_stretch : ByteArray := prog_8_method_77_code
def yX6_stretch : MethodName := ⟨RX6, "stretch", "(I)I"⟩
def RJ9 : String := "java/lang/Math"
def TJ9 : u_T := fun k => match k with
  | _ => ("", "", "", false)
def tyJ9 : Nat → FieldType := fun k => match k with
  | _ => .int
abbrev wsJ90 : List Cond := u_ws RJ9 TJ9 0
theorem nmJ9 : ∀ a, a < 0 → ∀ b, b < 0 → a ≠ b → (TJ9 a).2.1 ≠ (TJ9 b).2.1 := by decide +kernel
theorem tyJ9_ok : ∀ k, k < 0 → parseFieldDescriptor (TJ9 k).2.2.1 = some (tyJ9 k) := by decide +kernel
abbrev cJ9_floorMod_7cf53 : ByteArray := prog_9_method_50_code
def yJ9_floorMod_7cf53 : MethodName := ⟨RJ9, "floorMod", "(II)I"⟩
abbrev cJ9_max_7cf53 : ByteArray := prog_9_method_65_code
def yJ9_max_7cf53 : MethodName := ⟨RJ9, "max", "(II)I"⟩
abbrev cJ9_min_7cf53 : ByteArray := prog_9_method_69_code
def yJ9_min_7cf53 : MethodName := ⟨RJ9, "min", "(II)I"⟩
def RJ7 : String := "java/util/Arrays"
def TJ7 : u_T := fun k => match k with
  | _ => ("", "", "", false)
def tyJ7 : Nat → FieldType := fun k => match k with
  | _ => .int
abbrev wsJ70 : List Cond := u_ws RJ7 TJ7 0
theorem nmJ7 : ∀ a, a < 0 → ∀ b, b < 0 → a ≠ b → (TJ7 a).2.1 ≠ (TJ7 b).2.1 := by decide +kernel
theorem tyJ7_ok : ∀ k, k < 0 → parseFieldDescriptor (TJ7 k).2.2.1 = some (tyJ7 k) := by decide +kernel
abbrev cJ7_fill_53178 : ByteArray := prog_10_method_103_code
def yJ7_fill_53178 : MethodName := ⟨RJ7, "fill", "([II)V"⟩
def RL : String := "BentPictureLaw"
abbrev cL_law : ByteArray := code
def yL_law : MethodName := ⟨RL, "law", "([I)Z"⟩
