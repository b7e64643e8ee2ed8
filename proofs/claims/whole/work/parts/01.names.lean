-- ===== PART A: goes FIRST, ahead of the names: the tables' words, and 'selects' of the private methods out of them =====
/-- a private method of a class that the tables say can be made, by its rows of tables_1 -/
def lw_okq (q : MethodName × Nat) : Prop := (q.1.cls ≠ "java/lang/invoke/MethodHandle" ∧ q.1.cls ≠ "java/lang/invoke/VarHandle") ∧ Cond.instantiable q.1.cls q.2 ∈ tables_1 ∧ Cond.privateMethod q.1 ∈ tables_1 ∧ Cond.instanceMethod q.1 ∈ tables_1
theorem lw_p0 : lw_okq (⟨"DayOldMaps$Delta", "understand", "()V"⟩, 8) := ⟨⟨by decide +kernel, by decide +kernel⟩, List.mem_of_getElem? (i := 25) (by decide +kernel), List.mem_of_getElem? (i := 159) (by decide +kernel), List.mem_of_getElem? (i := 160) (by decide +kernel)⟩
theorem lw_p1 : lw_okq (⟨"DayOldMaps$Delta", "firstFault", "()I"⟩, 8) := ⟨⟨by decide +kernel, by decide +kernel⟩, List.mem_of_getElem? (i := 25) (by decide +kernel), List.mem_of_getElem? (i := 163) (by decide +kernel), List.mem_of_getElem? (i := 164) (by decide +kernel)⟩
theorem lw_p2 : lw_okq (⟨"DayOldMaps$Delta", "isWell", "(I)Z"⟩, 8) := ⟨⟨by decide +kernel, by decide +kernel⟩, List.mem_of_getElem? (i := 25) (by decide +kernel), List.mem_of_getElem? (i := 167) (by decide +kernel), List.mem_of_getElem? (i := 168) (by decide +kernel)⟩
theorem lw_p3 : lw_okq (⟨"DayOldMaps$Delta", "learn", "(I)V"⟩, 8) := ⟨⟨by decide +kernel, by decide +kernel⟩, List.mem_of_getElem? (i := 25) (by decide +kernel), List.mem_of_getElem? (i := 261) (by decide +kernel), List.mem_of_getElem? (i := 262) (by decide +kernel)⟩
theorem lw_p4 : lw_okq (⟨"DayOldMaps$Delta", "putInOrder", "()V"⟩, 8) := ⟨⟨by decide +kernel, by decide +kernel⟩, List.mem_of_getElem? (i := 25) (by decide +kernel), List.mem_of_getElem? (i := 268) (by decide +kernel), List.mem_of_getElem? (i := 269) (by decide +kernel)⟩
theorem lw_p5 : lw_okq (⟨"DayOldMaps$Rows", "follow", "(LDayOldMaps$Delta;)Z"⟩, 4) := ⟨⟨by decide +kernel, by decide +kernel⟩, List.mem_of_getElem? (i := 86) (by decide +kernel), List.mem_of_getElem? (i := 384) (by decide +kernel), List.mem_of_getElem? (i := 385) (by decide +kernel)⟩
theorem lw_p6 : lw_okq (⟨"DayOldMaps", "isOpen", "(IIZ)Z"⟩, 8) := ⟨⟨by decide +kernel, by decide +kernel⟩, List.mem_of_getElem? (i := 17) (by decide +kernel), List.mem_of_getElem? (i := 400) (by decide +kernel), List.mem_of_getElem? (i := 401) (by decide +kernel)⟩
theorem lw_p7 : lw_okq (⟨"DayOldMaps", "findByMap", "(II)Z"⟩, 8) := ⟨⟨by decide +kernel, by decide +kernel⟩, List.mem_of_getElem? (i := 17) (by decide +kernel), List.mem_of_getElem? (i := 408) (by decide +kernel), List.mem_of_getElem? (i := 409) (by decide +kernel)⟩
theorem lw_p8 : lw_okq (⟨"DayOldMaps", "aground", "(IIZ)I"⟩, 8) := ⟨⟨by decide +kernel, by decide +kernel⟩, List.mem_of_getElem? (i := 17) (by decide +kernel), List.mem_of_getElem? (i := 412) (by decide +kernel), List.mem_of_getElem? (i := 413) (by decide +kernel)⟩
theorem lw_p9 : lw_okq (⟨"DayOldMaps", "findByChange", "(II)Z"⟩, 8) := ⟨⟨by decide +kernel, by decide +kernel⟩, List.mem_of_getElem? (i := 17) (by decide +kernel), List.mem_of_getElem? (i := 420) (by decide +kernel), List.mem_of_getElem? (i := 421) (by decide +kernel)⟩
theorem lw_p10 : lw_okq (⟨"DayOldMaps", "passesByMap", "(II)Z"⟩, 8) := ⟨⟨by decide +kernel, by decide +kernel⟩, List.mem_of_getElem? (i := 17) (by decide +kernel), List.mem_of_getElem? (i := 429) (by decide +kernel), List.mem_of_getElem? (i := 430) (by decide +kernel)⟩
theorem lw_p11 : lw_okq (⟨"DayOldMaps", "passesByChange", "(II)Z"⟩, 8) := ⟨⟨by decide +kernel, by decide +kernel⟩, List.mem_of_getElem? (i := 17) (by decide +kernel), List.mem_of_getElem? (i := 433) (by decide +kernel), List.mem_of_getElem? (i := 434) (by decide +kernel)⟩
theorem lw_p12 : lw_okq (⟨"DayOldMaps", "sheetAt", "(I)LDayOldMaps$Sheet;"⟩, 8) := ⟨⟨by decide +kernel, by decide +kernel⟩, List.mem_of_getElem? (i := 17) (by decide +kernel), List.mem_of_getElem? (i := 461) (by decide +kernel), List.mem_of_getElem? (i := 462) (by decide +kernel)⟩
theorem lw_p13 : lw_okq (⟨"DayOldMaps", "found", "(I)I"⟩, 8) := ⟨⟨by decide +kernel, by decide +kernel⟩, List.mem_of_getElem? (i := 17) (by decide +kernel), List.mem_of_getElem? (i := 469) (by decide +kernel), List.mem_of_getElem? (i := 470) (by decide +kernel)⟩
theorem lw_p14 : lw_okq (⟨"DayOldMaps$Soundings", "isFitting", "(III)Z"⟩, 5) := ⟨⟨by decide +kernel, by decide +kernel⟩, List.mem_of_getElem? (i := 63) (by decide +kernel), List.mem_of_getElem? (i := 486) (by decide +kernel), List.mem_of_getElem? (i := 487) (by decide +kernel)⟩
theorem lw_p15 : lw_okq (⟨"DayOldMaps", "findSafest", "(II)I"⟩, 8) := ⟨⟨by decide +kernel, by decide +kernel⟩, List.mem_of_getElem? (i := 17) (by decide +kernel), List.mem_of_getElem? (i := 543) (by decide +kernel), List.mem_of_getElem? (i := 544) (by decide +kernel)⟩
def lw_privs_1 : List (MethodName × Nat) := [(⟨"DayOldMaps$Delta", "understand", "()V"⟩, 8), (⟨"DayOldMaps$Delta", "firstFault", "()I"⟩, 8), (⟨"DayOldMaps$Delta", "isWell", "(I)Z"⟩, 8), (⟨"DayOldMaps$Delta", "learn", "(I)V"⟩, 8), (⟨"DayOldMaps$Delta", "putInOrder", "()V"⟩, 8), (⟨"DayOldMaps$Rows", "follow", "(LDayOldMaps$Delta;)Z"⟩, 4), (⟨"DayOldMaps", "isOpen", "(IIZ)Z"⟩, 8), (⟨"DayOldMaps", "findByMap", "(II)Z"⟩, 8), (⟨"DayOldMaps", "aground", "(IIZ)I"⟩, 8), (⟨"DayOldMaps", "findByChange", "(II)Z"⟩, 8), (⟨"DayOldMaps", "passesByMap", "(II)Z"⟩, 8), (⟨"DayOldMaps", "passesByChange", "(II)Z"⟩, 8), (⟨"DayOldMaps", "sheetAt", "(I)LDayOldMaps$Sheet;"⟩, 8), (⟨"DayOldMaps", "found", "(I)I"⟩, 8), (⟨"DayOldMaps$Soundings", "isFitting", "(III)Z"⟩, 5), (⟨"DayOldMaps", "findSafest", "(II)I"⟩, 8)]
theorem lw_r1 : ∀ q ∈ lw_privs_1, lw_okq q := List.forall_mem_cons.mpr ⟨lw_p0, List.forall_mem_cons.mpr ⟨lw_p1, List.forall_mem_cons.mpr ⟨lw_p2, List.forall_mem_cons.mpr ⟨lw_p3, List.forall_mem_cons.mpr ⟨lw_p4, List.forall_mem_cons.mpr ⟨lw_p5, List.forall_mem_cons.mpr ⟨lw_p6, List.forall_mem_cons.mpr ⟨lw_p7, List.forall_mem_cons.mpr ⟨lw_p8, List.forall_mem_cons.mpr ⟨lw_p9, List.forall_mem_cons.mpr ⟨lw_p10, List.forall_mem_cons.mpr ⟨lw_p11, List.forall_mem_cons.mpr ⟨lw_p12, List.forall_mem_cons.mpr ⟨lw_p13, List.forall_mem_cons.mpr ⟨lw_p14, List.forall_mem_cons.mpr ⟨lw_p15, fun _ h => absurd h List.not_mem_nil⟩⟩⟩⟩⟩⟩⟩⟩⟩⟩⟩⟩⟩⟩⟩⟩
theorem lw_p16 : lw_okq (⟨"DayOldMaps", "refusalOfItem", "(LDayOldMaps$Sheet;II)I"⟩, 8) := ⟨⟨by decide +kernel, by decide +kernel⟩, List.mem_of_getElem? (i := 17) (by decide +kernel), List.mem_of_getElem? (i := 582) (by decide +kernel), List.mem_of_getElem? (i := 583) (by decide +kernel)⟩
theorem lw_p17 : lw_okq (⟨"DayOldMaps", "allRows", "()I"⟩, 8) := ⟨⟨by decide +kernel, by decide +kernel⟩, List.mem_of_getElem? (i := 17) (by decide +kernel), List.mem_of_getElem? (i := 624) (by decide +kernel), List.mem_of_getElem? (i := 625) (by decide +kernel)⟩
theorem lw_p18 : lw_okq (⟨"DayOldMaps", "digestChannel", "(JI)J"⟩, 8) := ⟨⟨by decide +kernel, by decide +kernel⟩, List.mem_of_getElem? (i := 17) (by decide +kernel), List.mem_of_getElem? (i := 639) (by decide +kernel), List.mem_of_getElem? (i := 640) (by decide +kernel)⟩
theorem lw_p19 : lw_okq (⟨"DayOldMaps", "digestNight", "(JI)J"⟩, 8) := ⟨⟨by decide +kernel, by decide +kernel⟩, List.mem_of_getElem? (i := 17) (by decide +kernel), List.mem_of_getElem? (i := 649) (by decide +kernel), List.mem_of_getElem? (i := 650) (by decide +kernel)⟩
theorem lw_p20 : lw_okq (⟨"DayOldMapsModel", "met", "(I)I"⟩, 21) := ⟨⟨by decide +kernel, by decide +kernel⟩, List.mem_of_getElem? (i := 667) (by decide +kernel), List.mem_of_getElem? (i := 750) (by decide +kernel), List.mem_of_getElem? (i := 751) (by decide +kernel)⟩
theorem lw_p21 : lw_okq (⟨"DayOldMapsModel", "lacks", "(III)I"⟩, 21) := ⟨⟨by decide +kernel, by decide +kernel⟩, List.mem_of_getElem? (i := 667) (by decide +kernel), List.mem_of_getElem? (i := 762) (by decide +kernel), List.mem_of_getElem? (i := 763) (by decide +kernel)⟩
theorem lw_p22 : lw_okq (⟨"DayOldMapsModel", "reads", "()I"⟩, 21) := ⟨⟨by decide +kernel, by decide +kernel⟩, List.mem_of_getElem? (i := 667) (by decide +kernel), List.mem_of_getElem? (i := 791) (by decide +kernel), List.mem_of_getElem? (i := 792) (by decide +kernel)⟩
theorem lw_p23 : lw_okq (⟨"DayOldMapsModel", "readsChannel", "()Z"⟩, 21) := ⟨⟨by decide +kernel, by decide +kernel⟩, List.mem_of_getElem? (i := 667) (by decide +kernel), List.mem_of_getElem? (i := 795) (by decide +kernel), List.mem_of_getElem? (i := 796) (by decide +kernel)⟩
theorem lw_p24 : lw_okq (⟨"DayOldMapsModel", "tellsOf", "(II)I"⟩, 21) := ⟨⟨by decide +kernel, by decide +kernel⟩, List.mem_of_getElem? (i := 667) (by decide +kernel), List.mem_of_getElem? (i := 799) (by decide +kernel), List.mem_of_getElem? (i := 800) (by decide +kernel)⟩
theorem lw_p25 : lw_okq (⟨"DayOldMapsModel", "isChannel", "(I)Z"⟩, 21) := ⟨⟨by decide +kernel, by decide +kernel⟩, List.mem_of_getElem? (i := 667) (by decide +kernel), List.mem_of_getElem? (i := 819) (by decide +kernel), List.mem_of_getElem? (i := 820) (by decide +kernel)⟩
theorem lw_p26 : lw_okq (⟨"DayOldMapsModel", "deepOf", "(II)I"⟩, 21) := ⟨⟨by decide +kernel, by decide +kernel⟩, List.mem_of_getElem? (i := 667) (by decide +kernel), List.mem_of_getElem? (i := 845) (by decide +kernel), List.mem_of_getElem? (i := 846) (by decide +kernel)⟩
theorem lw_p27 : lw_okq (⟨"DayOldMapsModel", "isStorm", "(I)Z"⟩, 21) := ⟨⟨by decide +kernel, by decide +kernel⟩, List.mem_of_getElem? (i := 667) (by decide +kernel), List.mem_of_getElem? (i := 849) (by decide +kernel), List.mem_of_getElem? (i := 850) (by decide +kernel)⟩
theorem lw_p28 : lw_okq (⟨"DayOldMapsModel", "deepIn", "(IIZ)I"⟩, 21) := ⟨⟨by decide +kernel, by decide +kernel⟩, List.mem_of_getElem? (i := 667) (by decide +kernel), List.mem_of_getElem? (i := 853) (by decide +kernel), List.mem_of_getElem? (i := 854) (by decide +kernel)⟩
theorem lw_p29 : lw_okq (⟨"DayOldMapsModel", "mapOf", "(II)I"⟩, 21) := ⟨⟨by decide +kernel, by decide +kernel⟩, List.mem_of_getElem? (i := 667) (by decide +kernel), List.mem_of_getElem? (i := 870) (by decide +kernel), List.mem_of_getElem? (i := 871) (by decide +kernel)⟩
theorem lw_p30 : lw_okq (⟨"DayOldMapsModel", "waysOf", "(III)I"⟩, 21) := ⟨⟨by decide +kernel, by decide +kernel⟩, List.mem_of_getElem? (i := 667) (by decide +kernel), List.mem_of_getElem? (i := 883) (by decide +kernel), List.mem_of_getElem? (i := 884) (by decide +kernel)⟩
theorem lw_p31 : lw_okq (⟨"DayOldMapsModel", "enough", "(II)I"⟩, 21) := ⟨⟨by decide +kernel, by decide +kernel⟩, List.mem_of_getElem? (i := 667) (by decide +kernel), List.mem_of_getElem? (i := 887) (by decide +kernel), List.mem_of_getElem? (i := 888) (by decide +kernel)⟩
def lw_privs_2 : List (MethodName × Nat) := [(⟨"DayOldMaps", "refusalOfItem", "(LDayOldMaps$Sheet;II)I"⟩, 8), (⟨"DayOldMaps", "allRows", "()I"⟩, 8), (⟨"DayOldMaps", "digestChannel", "(JI)J"⟩, 8), (⟨"DayOldMaps", "digestNight", "(JI)J"⟩, 8), (⟨"DayOldMapsModel", "met", "(I)I"⟩, 21), (⟨"DayOldMapsModel", "lacks", "(III)I"⟩, 21), (⟨"DayOldMapsModel", "reads", "()I"⟩, 21), (⟨"DayOldMapsModel", "readsChannel", "()Z"⟩, 21), (⟨"DayOldMapsModel", "tellsOf", "(II)I"⟩, 21), (⟨"DayOldMapsModel", "isChannel", "(I)Z"⟩, 21), (⟨"DayOldMapsModel", "deepOf", "(II)I"⟩, 21), (⟨"DayOldMapsModel", "isStorm", "(I)Z"⟩, 21), (⟨"DayOldMapsModel", "deepIn", "(IIZ)I"⟩, 21), (⟨"DayOldMapsModel", "mapOf", "(II)I"⟩, 21), (⟨"DayOldMapsModel", "waysOf", "(III)I"⟩, 21), (⟨"DayOldMapsModel", "enough", "(II)I"⟩, 21)]
theorem lw_r2 : ∀ q ∈ lw_privs_2, lw_okq q := List.forall_mem_cons.mpr ⟨lw_p16, List.forall_mem_cons.mpr ⟨lw_p17, List.forall_mem_cons.mpr ⟨lw_p18, List.forall_mem_cons.mpr ⟨lw_p19, List.forall_mem_cons.mpr ⟨lw_p20, List.forall_mem_cons.mpr ⟨lw_p21, List.forall_mem_cons.mpr ⟨lw_p22, List.forall_mem_cons.mpr ⟨lw_p23, List.forall_mem_cons.mpr ⟨lw_p24, List.forall_mem_cons.mpr ⟨lw_p25, List.forall_mem_cons.mpr ⟨lw_p26, List.forall_mem_cons.mpr ⟨lw_p27, List.forall_mem_cons.mpr ⟨lw_p28, List.forall_mem_cons.mpr ⟨lw_p29, List.forall_mem_cons.mpr ⟨lw_p30, List.forall_mem_cons.mpr ⟨lw_p31, fun _ h => absurd h List.not_mem_nil⟩⟩⟩⟩⟩⟩⟩⟩⟩⟩⟩⟩⟩⟩⟩⟩
theorem lw_p32 : lw_okq (⟨"DayOldMapsModel", "enoughIn", "(IIZ)I"⟩, 21) := ⟨⟨by decide +kernel, by decide +kernel⟩, List.mem_of_getElem? (i := 667) (by decide +kernel), List.mem_of_getElem? (i := 891) (by decide +kernel), List.mem_of_getElem? (i := 892) (by decide +kernel)⟩
theorem lw_p33 : lw_okq (⟨"DayOldMapsModel", "findWays", "(I)I"⟩, 21) := ⟨⟨by decide +kernel, by decide +kernel⟩, List.mem_of_getElem? (i := 667) (by decide +kernel), List.mem_of_getElem? (i := 895) (by decide +kernel), List.mem_of_getElem? (i := 896) (by decide +kernel)⟩
theorem lw_p34 : lw_okq (⟨"DayOldMapsModel", "draftOf", "(I)I"⟩, 21) := ⟨⟨by decide +kernel, by decide +kernel⟩, List.mem_of_getElem? (i := 667) (by decide +kernel), List.mem_of_getElem? (i := 906) (by decide +kernel), List.mem_of_getElem? (i := 907) (by decide +kernel)⟩
theorem lw_p35 : lw_okq (⟨"DayOldMapsModel", "waitsOf", "(II)I"⟩, 21) := ⟨⟨by decide +kernel, by decide +kernel⟩, List.mem_of_getElem? (i := 667) (by decide +kernel), List.mem_of_getElem? (i := 914) (by decide +kernel), List.mem_of_getElem? (i := 915) (by decide +kernel)⟩
theorem lw_p36 : lw_okq (⟨"DayOldMapsModel", "byMapOf", "(II)I"⟩, 21) := ⟨⟨by decide +kernel, by decide +kernel⟩, List.mem_of_getElem? (i := 667) (by decide +kernel), List.mem_of_getElem? (i := 922) (by decide +kernel), List.mem_of_getElem? (i := 923) (by decide +kernel)⟩
theorem lw_p37 : lw_okq (⟨"DayOldMapsModel", "mapped", "(II)I"⟩, 21) := ⟨⟨by decide +kernel, by decide +kernel⟩, List.mem_of_getElem? (i := 667) (by decide +kernel), List.mem_of_getElem? (i := 926) (by decide +kernel), List.mem_of_getElem? (i := 927) (by decide +kernel)⟩
theorem lw_p38 : lw_okq (⟨"DayOldMapsModel", "goes", "(II)I"⟩, 21) := ⟨⟨by decide +kernel, by decide +kernel⟩, List.mem_of_getElem? (i := 667) (by decide +kernel), List.mem_of_getElem? (i := 930) (by decide +kernel), List.mem_of_getElem? (i := 931) (by decide +kernel)⟩
theorem lw_p39 : lw_okq (⟨"DayOldMapsModel", "aground", "(I)I"⟩, 21) := ⟨⟨by decide +kernel, by decide +kernel⟩, List.mem_of_getElem? (i := 667) (by decide +kernel), List.mem_of_getElem? (i := 934) (by decide +kernel), List.mem_of_getElem? (i := 935) (by decide +kernel)⟩
theorem lw_p40 : lw_okq (⟨"DayOldMapsModel", "byChangeOf", "(II)I"⟩, 21) := ⟨⟨by decide +kernel, by decide +kernel⟩, List.mem_of_getElem? (i := 667) (by decide +kernel), List.mem_of_getElem? (i := 942) (by decide +kernel), List.mem_of_getElem? (i := 943) (by decide +kernel)⟩
theorem lw_p41 : lw_okq (⟨"DayOldMapsModel", "changed", "(II)I"⟩, 21) := ⟨⟨by decide +kernel, by decide +kernel⟩, List.mem_of_getElem? (i := 667) (by decide +kernel), List.mem_of_getElem? (i := 946) (by decide +kernel), List.mem_of_getElem? (i := 947) (by decide +kernel)⟩
theorem lw_p42 : lw_okq (⟨"DayOldMapsModel", "savedOf", "(II)I"⟩, 21) := ⟨⟨by decide +kernel, by decide +kernel⟩, List.mem_of_getElem? (i := 667) (by decide +kernel), List.mem_of_getElem? (i := 957) (by decide +kernel), List.mem_of_getElem? (i := 958) (by decide +kernel)⟩
theorem lw_p43 : lw_okq (⟨"DayOldMapsModel", "lawsOf", "(II)I"⟩, 21) := ⟨⟨by decide +kernel, by decide +kernel⟩, List.mem_of_getElem? (i := 667) (by decide +kernel), List.mem_of_getElem? (i := 980) (by decide +kernel), List.mem_of_getElem? (i := 981) (by decide +kernel)⟩
theorem lw_p44 : lw_okq (⟨"DayOldMapsModel", "fits", "(II)Z"⟩, 21) := ⟨⟨by decide +kernel, by decide +kernel⟩, List.mem_of_getElem? (i := 667) (by decide +kernel), List.mem_of_getElem? (i := 984) (by decide +kernel), List.mem_of_getElem? (i := 985) (by decide +kernel)⟩
theorem lw_p45 : lw_okq (⟨"DayOldMapsModel", "nextOf", "(II)I"⟩, 21) := ⟨⟨by decide +kernel, by decide +kernel⟩, List.mem_of_getElem? (i := 667) (by decide +kernel), List.mem_of_getElem? (i := 992) (by decide +kernel), List.mem_of_getElem? (i := 993) (by decide +kernel)⟩
theorem lw_p46 : lw_okq (⟨"DayOldMapsModel", "tellsNight", "(II)I"⟩, 21) := ⟨⟨by decide +kernel, by decide +kernel⟩, List.mem_of_getElem? (i := 667) (by decide +kernel), List.mem_of_getElem? (i := 1000) (by decide +kernel), List.mem_of_getElem? (i := 1001) (by decide +kernel)⟩
theorem lw_p47 : lw_okq (⟨"DayOldMapsModel", "mostAlike", "(II)I"⟩, 21) := ⟨⟨by decide +kernel, by decide +kernel⟩, List.mem_of_getElem? (i := 667) (by decide +kernel), List.mem_of_getElem? (i := 1004) (by decide +kernel), List.mem_of_getElem? (i := 1005) (by decide +kernel)⟩
def lw_privs_3 : List (MethodName × Nat) := [(⟨"DayOldMapsModel", "enoughIn", "(IIZ)I"⟩, 21), (⟨"DayOldMapsModel", "findWays", "(I)I"⟩, 21), (⟨"DayOldMapsModel", "draftOf", "(I)I"⟩, 21), (⟨"DayOldMapsModel", "waitsOf", "(II)I"⟩, 21), (⟨"DayOldMapsModel", "byMapOf", "(II)I"⟩, 21), (⟨"DayOldMapsModel", "mapped", "(II)I"⟩, 21), (⟨"DayOldMapsModel", "goes", "(II)I"⟩, 21), (⟨"DayOldMapsModel", "aground", "(I)I"⟩, 21), (⟨"DayOldMapsModel", "byChangeOf", "(II)I"⟩, 21), (⟨"DayOldMapsModel", "changed", "(II)I"⟩, 21), (⟨"DayOldMapsModel", "savedOf", "(II)I"⟩, 21), (⟨"DayOldMapsModel", "lawsOf", "(II)I"⟩, 21), (⟨"DayOldMapsModel", "fits", "(II)Z"⟩, 21), (⟨"DayOldMapsModel", "nextOf", "(II)I"⟩, 21), (⟨"DayOldMapsModel", "tellsNight", "(II)I"⟩, 21), (⟨"DayOldMapsModel", "mostAlike", "(II)I"⟩, 21)]
theorem lw_r3 : ∀ q ∈ lw_privs_3, lw_okq q := List.forall_mem_cons.mpr ⟨lw_p32, List.forall_mem_cons.mpr ⟨lw_p33, List.forall_mem_cons.mpr ⟨lw_p34, List.forall_mem_cons.mpr ⟨lw_p35, List.forall_mem_cons.mpr ⟨lw_p36, List.forall_mem_cons.mpr ⟨lw_p37, List.forall_mem_cons.mpr ⟨lw_p38, List.forall_mem_cons.mpr ⟨lw_p39, List.forall_mem_cons.mpr ⟨lw_p40, List.forall_mem_cons.mpr ⟨lw_p41, List.forall_mem_cons.mpr ⟨lw_p42, List.forall_mem_cons.mpr ⟨lw_p43, List.forall_mem_cons.mpr ⟨lw_p44, List.forall_mem_cons.mpr ⟨lw_p45, List.forall_mem_cons.mpr ⟨lw_p46, List.forall_mem_cons.mpr ⟨lw_p47, fun _ h => absurd h List.not_mem_nil⟩⟩⟩⟩⟩⟩⟩⟩⟩⟩⟩⟩⟩⟩⟩⟩
theorem lw_p48 : lw_okq (⟨"DayOldMapsModel", "wreckOf", "(III)I"⟩, 21) := ⟨⟨by decide +kernel, by decide +kernel⟩, List.mem_of_getElem? (i := 667) (by decide +kernel), List.mem_of_getElem? (i := 1012) (by decide +kernel), List.mem_of_getElem? (i := 1013) (by decide +kernel)⟩
theorem lw_p49 : lw_okq (⟨"DayOldMapsModel", "throughOf", "(III)I"⟩, 21) := ⟨⟨by decide +kernel, by decide +kernel⟩, List.mem_of_getElem? (i := 667) (by decide +kernel), List.mem_of_getElem? (i := 1020) (by decide +kernel), List.mem_of_getElem? (i := 1021) (by decide +kernel)⟩
theorem lw_p50 : lw_okq (⟨"DayOldMapsModel", "sureOf", "(III)I"⟩, 21) := ⟨⟨by decide +kernel, by decide +kernel⟩, List.mem_of_getElem? (i := 667) (by decide +kernel), List.mem_of_getElem? (i := 1031) (by decide +kernel), List.mem_of_getElem? (i := 1032) (by decide +kernel)⟩
theorem lw_p51 : lw_okq (⟨"DayOldMapsModel", "safestOf", "(III)I"⟩, 21) := ⟨⟨by decide +kernel, by decide +kernel⟩, List.mem_of_getElem? (i := 667) (by decide +kernel), List.mem_of_getElem? (i := 1040) (by decide +kernel), List.mem_of_getElem? (i := 1041) (by decide +kernel)⟩
theorem lw_p52 : lw_okq (⟨"DayOldMapsModel", "findSafest", "(II)V"⟩, 21) := ⟨⟨by decide +kernel, by decide +kernel⟩, List.mem_of_getElem? (i := 667) (by decide +kernel), List.mem_of_getElem? (i := 1044) (by decide +kernel), List.mem_of_getElem? (i := 1045) (by decide +kernel)⟩
theorem lw_p53 : lw_okq (⟨"DayOldMapsModel", "onBy", "(III)I"⟩, 21) := ⟨⟨by decide +kernel, by decide +kernel⟩, List.mem_of_getElem? (i := 667) (by decide +kernel), List.mem_of_getElem? (i := 1049) (by decide +kernel), List.mem_of_getElem? (i := 1050) (by decide +kernel)⟩
theorem lw_p54 : lw_okq (⟨"DayOldMapsModel", "weigh", "(III)I"⟩, 21) := ⟨⟨by decide +kernel, by decide +kernel⟩, List.mem_of_getElem? (i := 667) (by decide +kernel), List.mem_of_getElem? (i := 1053) (by decide +kernel), List.mem_of_getElem? (i := 1054) (by decide +kernel)⟩
theorem lw_p55 : lw_okq (⟨"DayOldMapsModel", "tellsSafest", "(I)I"⟩, 21) := ⟨⟨by decide +kernel, by decide +kernel⟩, List.mem_of_getElem? (i := 667) (by decide +kernel), List.mem_of_getElem? (i := 1057) (by decide +kernel), List.mem_of_getElem? (i := 1058) (by decide +kernel)⟩
theorem lw_p56 : lw_okq (⟨"DayOldMapsModel", "worthOf", "(II)I"⟩, 21) := ⟨⟨by decide +kernel, by decide +kernel⟩, List.mem_of_getElem? (i := 667) (by decide +kernel), List.mem_of_getElem? (i := 1065) (by decide +kernel), List.mem_of_getElem? (i := 1066) (by decide +kernel)⟩
theorem lw_p57 : lw_okq (⟨"DayOldMapsModel", "seasonOf", "(IIII)I"⟩, 21) := ⟨⟨by decide +kernel, by decide +kernel⟩, List.mem_of_getElem? (i := 667) (by decide +kernel), List.mem_of_getElem? (i := 1074) (by decide +kernel), List.mem_of_getElem? (i := 1075) (by decide +kernel)⟩
theorem lw_p58 : lw_okq (⟨"DayOldMapsModel", "tellsNow", "(JII)J"⟩, 21) := ⟨⟨by decide +kernel, by decide +kernel⟩, List.mem_of_getElem? (i := 667) (by decide +kernel), List.mem_of_getElem? (i := 1095) (by decide +kernel), List.mem_of_getElem? (i := 1096) (by decide +kernel)⟩
def lw_privs_4 : List (MethodName × Nat) := [(⟨"DayOldMapsModel", "wreckOf", "(III)I"⟩, 21), (⟨"DayOldMapsModel", "throughOf", "(III)I"⟩, 21), (⟨"DayOldMapsModel", "sureOf", "(III)I"⟩, 21), (⟨"DayOldMapsModel", "safestOf", "(III)I"⟩, 21), (⟨"DayOldMapsModel", "findSafest", "(II)V"⟩, 21), (⟨"DayOldMapsModel", "onBy", "(III)I"⟩, 21), (⟨"DayOldMapsModel", "weigh", "(III)I"⟩, 21), (⟨"DayOldMapsModel", "tellsSafest", "(I)I"⟩, 21), (⟨"DayOldMapsModel", "worthOf", "(II)I"⟩, 21), (⟨"DayOldMapsModel", "seasonOf", "(IIII)I"⟩, 21), (⟨"DayOldMapsModel", "tellsNow", "(JII)J"⟩, 21)]
theorem lw_r4 : ∀ q ∈ lw_privs_4, lw_okq q := List.forall_mem_cons.mpr ⟨lw_p48, List.forall_mem_cons.mpr ⟨lw_p49, List.forall_mem_cons.mpr ⟨lw_p50, List.forall_mem_cons.mpr ⟨lw_p51, List.forall_mem_cons.mpr ⟨lw_p52, List.forall_mem_cons.mpr ⟨lw_p53, List.forall_mem_cons.mpr ⟨lw_p54, List.forall_mem_cons.mpr ⟨lw_p55, List.forall_mem_cons.mpr ⟨lw_p56, List.forall_mem_cons.mpr ⟨lw_p57, List.forall_mem_cons.mpr ⟨lw_p58, fun _ h => absurd h List.not_mem_nil⟩⟩⟩⟩⟩⟩⟩⟩⟩⟩⟩
def lw_privs : List (MethodName × Nat) := lw_privs_1 ++ (lw_privs_2 ++ (lw_privs_3 ++ (lw_privs_4)))
def lw_tbl : List Cond := k2_sels lw_privs ++ tables_1
theorem lw_privs_ok : ∀ q ∈ lw_privs, lw_okq q := by
  show ∀ q ∈ lw_privs_1 ++ (lw_privs_2 ++ (lw_privs_3 ++ (lw_privs_4))), lw_okq q
  exact List.forall_mem_append.mpr ⟨lw_r1, List.forall_mem_append.mpr ⟨lw_r2, List.forall_mem_append.mpr ⟨lw_r3, lw_r4⟩⟩⟩

def RX0 : String := "DayOldMaps$Delta"
def TX0 : u_T := fun k => match k with
  | 0 => ("DayOldMaps$Delta", "text", "[I", true)
  | 1 => ("DayOldMaps$Delta", "length", "I", false)
  | 2 => ("DayOldMaps$Delta", "faultAt", "I", false)
  | 3 => ("DayOldMaps$Delta", "channels", "I", false)
  | 4 => ("DayOldMaps$Delta", "facts", "[I", true)
  | 5 => ("DayOldMaps$Delta", "order", "[I", true)
  | 6 => ("DayOldMaps$Delta", "stormNights", "[I", true)
  | _ => ("DayOldMaps$Delta", "storms", "I", false)
def tyX0 : Nat → FieldType := fun k => match k with
  | 0 => .array .int
  | 1 => .int
  | 2 => .int
  | 3 => .int
  | 4 => .array .int
  | 5 => .array .int
  | 6 => .array .int
  | _ => .int
theorem nmX0 : ∀ a, a < 8 → ∀ b, b < 8 → a ≠ b → (TX0 a).2.1 ≠ (TX0 b).2.1 := by decide +kernel
theorem tyX0_ok : ∀ k, k < 8 → parseFieldDescriptor (TX0 k).2.2.1 = some (tyX0 k) := by decide +kernel
abbrev cX0_init : ByteArray := prog_2_method_1_code
def yX0_init : MethodName := ⟨RX0, "<init>", "()V"⟩
abbrev cX0_addByte : ByteArray := prog_2_method_2_code
def yX0_addByte : MethodName := ⟨RX0, "addByte", "(I)Z"⟩
abbrev cX0_cutTo : ByteArray := prog_2_method_3_code
def yX0_cutTo : MethodName := ⟨RX0, "cutTo", "(I)V"⟩
abbrev cX0_dropLastChannel : ByteArray := prog_2_method_4_code
def yX0_dropLastChannel : MethodName := ⟨RX0, "dropLastChannel", "()V"⟩
abbrev cX0_understand : ByteArray := prog_2_method_5_code
def yX0_understand : MethodName := ⟨RX0, "understand", "()V"⟩
abbrev cX0_firstFault : ByteArray := prog_2_method_6_code
def yX0_firstFault : MethodName := ⟨RX0, "firstFault", "()I"⟩
abbrev cX0_isWell : ByteArray := prog_2_method_7_code
def yX0_isWell : MethodName := ⟨RX0, "isWell", "(I)Z"⟩
abbrev cX0_learn : ByteArray := prog_2_method_8_code
def yX0_learn : MethodName := ⟨RX0, "learn", "(I)V"⟩
abbrev cX0_putInOrder : ByteArray := prog_2_method_9_code
def yX0_putInOrder : MethodName := ⟨RX0, "putInOrder", "()V"⟩
abbrev cX0_hasChannel : ByteArray := prog_2_method_10_code
def yX0_hasChannel : MethodName := ⟨RX0, "hasChannel", "(I)Z"⟩
abbrev cX0_fact : ByteArray := prog_2_method_11_code
def yX0_fact : MethodName := ⟨RX0, "fact", "(II)I"⟩
abbrev cX0_depth : ByteArray := prog_2_method_12_code
def yX0_depth : MethodName := ⟨RX0, "depth", "(IIZ)I"⟩
abbrev cX0_fill : ByteArray := prog_2_method_13_code
def yX0_fill : MethodName := ⟨RX0, "fill", "([IIZ)V"⟩
abbrev cX0_toldTogether : ByteArray := prog_2_method_14_code
def yX0_toldTogether : MethodName := ⟨RX0, "toldTogether", "()I"⟩
abbrev cX0_jumping : ByteArray := prog_2_method_15_code
def yX0_jumping : MethodName := ⟨RX0, "jumping", "()I"⟩
abbrev cX0_addStorm : ByteArray := prog_2_method_16_code
def yX0_addStorm : MethodName := ⟨RX0, "addStorm", "(I)Z"⟩
abbrev cX0_dropStorm : ByteArray := prog_2_method_17_code
def yX0_dropStorm : MethodName := ⟨RX0, "dropStorm", "()Z"⟩
abbrev cX0_isStormy : ByteArray := prog_2_method_18_code
def yX0_isStormy : MethodName := ⟨RX0, "isStormy", "(I)Z"⟩
def RX1 : String := "DayOldMaps$Rows"
def TX1 : u_T := fun k => match k with
  | 0 => ("DayOldMaps$Rows", "onward", "[I", true)
  | 1 => ("DayOldMaps$Rows", "counted", "[I", true)
  | 2 => ("DayOldMaps$Rows", "steps", "[I", true)
  | _ => ("DayOldMaps$Rows", "length", "I", false)
def tyX1 : Nat → FieldType := fun k => match k with
  | 0 => .array .int
  | 1 => .array .int
  | 2 => .array .int
  | _ => .int
theorem nmX1 : ∀ a, a < 4 → ∀ b, b < 4 → a ≠ b → (TX1 a).2.1 ≠ (TX1 b).2.1 := by decide +kernel
theorem tyX1_ok : ∀ k, k < 4 → parseFieldDescriptor (TX1 k).2.2.1 = some (tyX1 k) := by decide +kernel
abbrev cX1_init : ByteArray := prog_3_method_1_code
def yX1_init : MethodName := ⟨RX1, "<init>", "()V"⟩
abbrev cX1_findLeast : ByteArray := prog_3_method_2_code
def yX1_findLeast : MethodName := ⟨RX1, "findLeast", "(LDayOldMaps$Delta;[II)Z"⟩
abbrev cX1_tally : ByteArray := prog_3_method_3_code
def yX1_tally : MethodName := ⟨RX1, "tally", "(LDayOldMaps$Delta;[II)I"⟩
abbrev cX1_findLikeliest : ByteArray := prog_3_method_4_code
def yX1_findLikeliest : MethodName := ⟨RX1, "findLikeliest", "(LDayOldMaps$Delta;[I)I"⟩
abbrev cX1_follow : ByteArray := prog_3_method_5_code
def yX1_follow : MethodName := ⟨RX1, "follow", "(LDayOldMaps$Delta;)Z"⟩
abbrev cX1_step : ByteArray := prog_3_method_6_code
def yX1_step : MethodName := ⟨RX1, "step", "(I)I"⟩
def RX2 : String := "DayOldMaps$Sheet"
def TX2 : u_T := fun k => match k with
  | 0 => ("DayOldMaps$Sheet", "items", "[I", true)
  | 1 => ("DayOldMaps$Sheet", "form", "I", false)
  | _ => ("DayOldMaps$Sheet", "size", "I", false)
def tyX2 : Nat → FieldType := fun k => match k with
  | 0 => .array .int
  | 1 => .int
  | _ => .int
theorem nmX2 : ∀ a, a < 3 → ∀ b, b < 3 → a ≠ b → (TX2 a).2.1 ≠ (TX2 b).2.1 := by decide +kernel
theorem tyX2_ok : ∀ k, k < 3 → parseFieldDescriptor (TX2 k).2.2.1 = some (tyX2 k) := by decide +kernel
abbrev cX2_init : ByteArray := prog_4_method_1_code
def yX2_init : MethodName := ⟨RX2, "<init>", "()V"⟩
abbrev cX2_renew : ByteArray := prog_4_method_2_code
def yX2_renew : MethodName := ⟨RX2, "renew", "(II)V"⟩
abbrev cX2_isLost : ByteArray := prog_4_method_3_code
def yX2_isLost : MethodName := ⟨RX2, "isLost", "()Z"⟩
abbrev cX2_hasItems : ByteArray := prog_4_method_4_code
def yX2_hasItems : MethodName := ⟨RX2, "hasItems", "(II)Z"⟩
abbrev cX2_itemAt : ByteArray := prog_4_method_5_code
def yX2_itemAt : MethodName := ⟨RX2, "itemAt", "(I)I"⟩
abbrev cX2_put : ByteArray := prog_4_method_6_code
def yX2_put : MethodName := ⟨RX2, "put", "(II)V"⟩
def RX3 : String := "DayOldMaps$Soundings"
def TX3 : u_T := fun k => match k with
  | 0 => ("DayOldMaps$Soundings", "nights", "[I", true)
  | 1 => ("DayOldMaps$Soundings", "places", "[I", true)
  | 2 => ("DayOldMaps$Soundings", "deeps", "[I", true)
  | 3 => ("DayOldMaps$Soundings", "alike", "[I", true)
  | _ => ("DayOldMaps$Soundings", "size", "I", false)
def tyX3 : Nat → FieldType := fun k => match k with
  | 0 => .array .int
  | 1 => .array .int
  | 2 => .array .int
  | 3 => .array .int
  | _ => .int
theorem nmX3 : ∀ a, a < 5 → ∀ b, b < 5 → a ≠ b → (TX3 a).2.1 ≠ (TX3 b).2.1 := by decide +kernel
theorem tyX3_ok : ∀ k, k < 5 → parseFieldDescriptor (TX3 k).2.2.1 = some (tyX3 k) := by decide +kernel
abbrev cX3_init : ByteArray := prog_5_method_1_code
def yX3_init : MethodName := ⟨RX3, "<init>", "()V"⟩
abbrev cX3_add : ByteArray := prog_5_method_2_code
def yX3_add : MethodName := ⟨RX3, "add", "(III)Z"⟩
abbrev cX3_drop : ByteArray := prog_5_method_3_code
def yX3_drop : MethodName := ⟨RX3, "drop", "()V"⟩
abbrev cX3_fitting : ByteArray := prog_5_method_4_code
def yX3_fitting : MethodName := ⟨RX3, "fitting", "(II)J"⟩
abbrev cX3_isFitting : ByteArray := prog_5_method_5_code
def yX3_isFitting : MethodName := ⟨RX3, "isFitting", "(III)Z"⟩
abbrev cX3_depthBy : ByteArray := prog_5_method_6_code
def yX3_depthBy : MethodName := ⟨RX3, "depthBy", "(III)I"⟩
abbrev cX3_isAmong : ByteArray := prog_5_method_7_code
def yX3_isAmong : MethodName := ⟨RX3, "isAmong", "(JI)Z"⟩
abbrev cX3_lawAt : ByteArray := prog_5_method_8_code
def yX3_lawAt : MethodName := ⟨RX3, "lawAt", "(JI)I"⟩
abbrev cX3_depthBits : ByteArray := prog_5_method_9_code
def yX3_depthBits : MethodName := ⟨RX3, "depthBits", "(JII)I"⟩
abbrev cX3_mostAlike : ByteArray := prog_5_method_10_code
def yX3_mostAlike : MethodName := ⟨RX3, "mostAlike", "(JII)I"⟩
def RX4 : String := "DayOldMaps"
def TX4 : u_T := fun k => match k with
  | 0 => ("DayOldMaps", "delta", "LDayOldMaps$Delta;", true)
  | 1 => ("DayOldMaps", "soundings", "LDayOldMaps$Soundings;", true)
  | 2 => ("DayOldMaps", "rows", "LDayOldMaps$Rows;", true)
  | 3 => ("DayOldMaps", "sheets", "[LDayOldMaps$Sheet;", true)
  | 4 => ("DayOldMaps", "depths", "[I", true)
  | 5 => ("DayOldMaps", "others", "[I", true)
  | 6 => ("DayOldMaps", "oddsOfStorm", "I", false)
  | _ => ("DayOldMaps", "finding", "I", false)
def tyX4 : Nat → FieldType := fun k => match k with
  | 0 => .object "DayOldMaps$Delta"
  | 1 => .object "DayOldMaps$Soundings"
  | 2 => .object "DayOldMaps$Rows"
  | 3 => .array (.object "DayOldMaps$Sheet")
  | 4 => .array .int
  | 5 => .array .int
  | 6 => .int
  | _ => .int
theorem nmX4 : ∀ a, a < 8 → ∀ b, b < 8 → a ≠ b → (TX4 a).2.1 ≠ (TX4 b).2.1 := by decide +kernel
theorem tyX4_ok : ∀ k, k < 8 → parseFieldDescriptor (TX4 k).2.2.1 = some (tyX4 k) := by decide +kernel
abbrev cX4_init : ByteArray := prog_1_method_1_code
def yX4_init : MethodName := ⟨RX4, "<init>", "()V"⟩
abbrev cX4_type : ByteArray := prog_1_method_2_code
def yX4_type : MethodName := ⟨RX4, "type", "(I)I"⟩
abbrev cX4_wipe : ByteArray := prog_1_method_3_code
def yX4_wipe : MethodName := ⟨RX4, "wipe", "()I"⟩
abbrev cX4_undo : ByteArray := prog_1_method_4_code
def yX4_undo : MethodName := ⟨RX4, "undo", "()I"⟩
abbrev cX4_fault : ByteArray := prog_1_method_5_code
def yX4_fault : MethodName := ⟨RX4, "fault", "()I"⟩
abbrev cX4_channel : ByteArray := prog_1_method_6_code
def yX4_channel : MethodName := ⟨RX4, "channel", "(II)I"⟩
abbrev cX4_storm : ByteArray := prog_1_method_7_code
def yX4_storm : MethodName := ⟨RX4, "storm", "(I)I"⟩
abbrev cX4_calm : ByteArray := prog_1_method_8_code
def yX4_calm : MethodName := ⟨RX4, "calm", "()I"⟩
abbrev cX4_odds : ByteArray := prog_1_method_9_code
def yX4_odds : MethodName := ⟨RX4, "odds", "(I)I"⟩
abbrev cX4_deep : ByteArray := prog_1_method_10_code
def yX4_deep : MethodName := ⟨RX4, "deep", "(II)I"⟩
abbrev cX4_map : ByteArray := prog_1_method_11_code
def yX4_map : MethodName := ⟨RX4, "map", "(II)I"⟩
abbrev cX4_ways : ByteArray := prog_1_method_12_code
def yX4_ways : MethodName := ⟨RX4, "ways", "(III)I"⟩
abbrev cX4_draft : ByteArray := prog_1_method_13_code
def yX4_draft : MethodName := ⟨RX4, "draft", "(I)I"⟩
abbrev cX4_waits : ByteArray := prog_1_method_14_code
def yX4_waits : MethodName := ⟨RX4, "waits", "(II)I"⟩
abbrev cX4_byMap : ByteArray := prog_1_method_15_code
def yX4_byMap : MethodName := ⟨RX4, "byMap", "(II)I"⟩
abbrev cX4_byChange : ByteArray := prog_1_method_16_code
def yX4_byChange : MethodName := ⟨RX4, "byChange", "(II)I"⟩
abbrev cX4_saved : ByteArray := prog_1_method_17_code
def yX4_saved : MethodName := ⟨RX4, "saved", "(II)I"⟩
abbrev cX4_sounded : ByteArray := prog_1_method_18_code
def yX4_sounded : MethodName := ⟨RX4, "sounded", "(III)I"⟩
abbrev cX4_forget : ByteArray := prog_1_method_19_code
def yX4_forget : MethodName := ⟨RX4, "forget", "()I"⟩
abbrev cX4_read : ByteArray := prog_1_method_20_code
def yX4_read : MethodName := ⟨RX4, "read", "(I)I"⟩
abbrev cX4_laws : ByteArray := prog_1_method_21_code
def yX4_laws : MethodName := ⟨RX4, "laws", "(II)I"⟩
abbrev cX4_next : ByteArray := prog_1_method_22_code
def yX4_next : MethodName := ⟨RX4, "next", "(II)I"⟩
abbrev cX4_tells : ByteArray := prog_1_method_23_code
def yX4_tells : MethodName := ⟨RX4, "tells", "(II)I"⟩
abbrev cX4_wreck : ByteArray := prog_1_method_24_code
def yX4_wreck : MethodName := ⟨RX4, "wreck", "(III)I"⟩
abbrev cX4_through : ByteArray := prog_1_method_25_code
def yX4_through : MethodName := ⟨RX4, "through", "(III)I"⟩
abbrev cX4_sure : ByteArray := prog_1_method_26_code
def yX4_sure : MethodName := ⟨RX4, "sure", "(III)I"⟩
abbrev cX4_safest : ByteArray := prog_1_method_27_code
def yX4_safest : MethodName := ⟨RX4, "safest", "(III)I"⟩
abbrev cX4_worth : ByteArray := prog_1_method_28_code
def yX4_worth : MethodName := ⟨RX4, "worth", "(II)I"⟩
abbrev cX4_season : ByteArray := prog_1_method_29_code
def yX4_season : MethodName := ⟨RX4, "season", "(IIII)I"⟩
abbrev cX4_sheet : ByteArray := prog_1_method_30_code
def yX4_sheet : MethodName := ⟨RX4, "sheet", "(III)I"⟩
abbrev cX4_lose : ByteArray := prog_1_method_31_code
def yX4_lose : MethodName := ⟨RX4, "lose", "(I)I"⟩
abbrev cX4_lay : ByteArray := prog_1_method_32_code
def yX4_lay : MethodName := ⟨RX4, "lay", "(IIII)I"⟩
abbrev cX4_get : ByteArray := prog_1_method_33_code
def yX4_get : MethodName := ⟨RX4, "get", "(III)I"⟩
abbrev cX4_copy : ByteArray := prog_1_method_34_code
def yX4_copy : MethodName := ⟨RX4, "copy", "(IIIII)I"⟩
abbrev cX4_write : ByteArray := prog_1_method_35_code
def yX4_write : MethodName := ⟨RX4, "write", "(III)I"⟩
abbrev cX4_count : ByteArray := prog_1_method_36_code
def yX4_count : MethodName := ⟨RX4, "count", "(I)I"⟩
abbrev cX4_digest : ByteArray := prog_1_method_37_code
def yX4_digest : MethodName := ⟨RX4, "digest", "()J"⟩
abbrev cX4_digestChannel : ByteArray := prog_1_method_38_code
def yX4_digestChannel : MethodName := ⟨RX4, "digestChannel", "(JI)J"⟩
abbrev cX4_digestNight : ByteArray := prog_1_method_39_code
def yX4_digestNight : MethodName := ⟨RX4, "digestNight", "(JI)J"⟩
abbrev cX4_mix : ByteArray := prog_1_method_40_code
def yX4_mix : MethodName := ⟨RX4, "mix", "(JI)J"⟩
abbrev cX4_isNight : ByteArray := prog_1_method_41_code
def yX4_isNight : MethodName := ⟨RX4, "isNight", "(I)Z"⟩
abbrev cX4_isDraught : ByteArray := prog_1_method_42_code
def yX4_isDraught : MethodName := ⟨RX4, "isDraught", "(I)Z"⟩
abbrev cX4_isShip : ByteArray := prog_1_method_43_code
def yX4_isShip : MethodName := ⟨RX4, "isShip", "(II)Z"⟩
abbrev cX4_isSounding : ByteArray := prog_1_method_44_code
def yX4_isSounding : MethodName := ⟨RX4, "isSounding", "(III)Z"⟩
abbrev cX4_isForm : ByteArray := prog_1_method_45_code
def yX4_isForm : MethodName := ⟨RX4, "isForm", "(I)Z"⟩
abbrev cX4_isOpen : ByteArray := prog_1_method_46_code
def yX4_isOpen : MethodName := ⟨RX4, "isOpen", "(IIZ)Z"⟩
abbrev cX4_findByMap : ByteArray := prog_1_method_47_code
def yX4_findByMap : MethodName := ⟨RX4, "findByMap", "(II)Z"⟩
abbrev cX4_findByChange : ByteArray := prog_1_method_48_code
def yX4_findByChange : MethodName := ⟨RX4, "findByChange", "(II)Z"⟩
abbrev cX4_aground : ByteArray := prog_1_method_49_code
def yX4_aground : MethodName := ⟨RX4, "aground", "(IIZ)I"⟩
abbrev cX4_passesByMap : ByteArray := prog_1_method_50_code
def yX4_passesByMap : MethodName := ⟨RX4, "passesByMap", "(II)Z"⟩
abbrev cX4_passesByChange : ByteArray := prog_1_method_51_code
def yX4_passesByChange : MethodName := ⟨RX4, "passesByChange", "(II)Z"⟩
abbrev cX4_findSafest : ByteArray := prog_1_method_52_code
def yX4_findSafest : MethodName := ⟨RX4, "findSafest", "(II)I"⟩
abbrev cX4_allRows : ByteArray := prog_1_method_53_code
def yX4_allRows : MethodName := ⟨RX4, "allRows", "()I"⟩
abbrev cX4_nightShown : ByteArray := prog_1_method_54_code
def yX4_nightShown : MethodName := ⟨RX4, "nightShown", "(I)I"⟩
abbrev cX4_inLowestTerms : ByteArray := prog_1_method_55_code
def yX4_inLowestTerms : MethodName := ⟨RX4, "inLowestTerms", "(III)I"⟩
abbrev cX4_sheetAt : ByteArray := prog_1_method_56_code
def yX4_sheetAt : MethodName := ⟨RX4, "sheetAt", "(I)LDayOldMaps$Sheet;"⟩
abbrev cX4_refusalOfItem : ByteArray := prog_1_method_57_code
def yX4_refusalOfItem : MethodName := ⟨RX4, "refusalOfItem", "(LDayOldMaps$Sheet;II)I"⟩
abbrev cX4_found : ByteArray := prog_1_method_58_code
def yX4_found : MethodName := ⟨RX4, "found", "(I)I"⟩
abbrev cX4_itemOf : ByteArray := prog_1_method_59_code
def yX4_itemOf : MethodName := ⟨RX4, "itemOf", "([II)I"⟩
abbrev cX4_putInto : ByteArray := prog_1_method_60_code
def yX4_putInto : MethodName := ⟨RX4, "putInto", "([III)V"⟩
abbrev cX4_shifted : ByteArray := prog_1_method_61_code
def yX4_shifted : MethodName := ⟨RX4, "shifted", "(IIIIZ)I"⟩
def RX5 : String := "DayOldMapsModel"
def TX5 : u_T := fun k => match k with
  | 0 => ("DayOldMapsModel", "forms", "[I", true)
  | 1 => ("DayOldMapsModel", "sizes", "[I", true)
  | 2 => ("DayOldMapsModel", "items", "[I", true)
  | 3 => ("DayOldMapsModel", "moved", "[I", true)
  | 4 => ("DayOldMapsModel", "latest", "I", false)
  | 5 => ("DayOldMapsModel", "text", "[I", true)
  | 6 => ("DayOldMapsModel", "typed", "I", false)
  | 7 => ("DayOldMapsModel", "at", "I", false)
  | 8 => ("DayOldMapsModel", "channels", "I", false)
  | 9 => ("DayOldMapsModel", "told", "[I", true)
  | 10 => ("DayOldMapsModel", "storms", "I", false)
  | 11 => ("DayOldMapsModel", "storm", "[I", true)
  | 12 => ("DayOldMapsModel", "chance", "I", false)
  | 13 => ("DayOldMapsModel", "many", "[I", true)
  | 14 => ("DayOldMapsModel", "row", "[I", true)
  | 15 => ("DayOldMapsModel", "length", "I", false)
  | 16 => ("DayOldMapsModel", "soundings", "I", false)
  | 17 => ("DayOldMapsModel", "sounding", "[I", true)
  | 18 => ("DayOldMapsModel", "fitting", "[Z", true)
  | 19 => ("DayOldMapsModel", "alike", "[I", true)
  | _ => ("DayOldMapsModel", "best", "[I", true)
def tyX5 : Nat → FieldType := fun k => match k with
  | 0 => .array .int
  | 1 => .array .int
  | 2 => .array .int
  | 3 => .array .int
  | 4 => .int
  | 5 => .array .int
  | 6 => .int
  | 7 => .int
  | 8 => .int
  | 9 => .array .int
  | 10 => .int
  | 11 => .array .int
  | 12 => .int
  | 13 => .array .int
  | 14 => .array .int
  | 15 => .int
  | 16 => .int
  | 17 => .array .int
  | 18 => .array .boolean
  | 19 => .array .int
  | _ => .array .int
theorem nmX5 : ∀ a, a < 21 → ∀ b, b < 21 → a ≠ b → (TX5 a).2.1 ≠ (TX5 b).2.1 := by decide +kernel
theorem tyX5_ok : ∀ k, k < 21 → parseFieldDescriptor (TX5 k).2.2.1 = some (tyX5 k) := by decide +kernel
abbrev cX5_init : ByteArray := prog_7_method_1_code
def yX5_init : MethodName := ⟨RX5, "<init>", "()V"⟩
abbrev cX5_in : ByteArray := prog_7_method_3_code
def yX5_in : MethodName := ⟨RX5, "in", "(JJJ)Z"⟩
abbrev cX5_isTwo : ByteArray := prog_7_method_4_code
def yX5_isTwo : MethodName := ⟨RX5, "isTwo", "(I)Z"⟩
abbrev cX5_isIn : ByteArray := prog_7_method_5_code
def yX5_isIn : MethodName := ⟨RX5, "isIn", "(II)Z"⟩
abbrev cX5_lesser : ByteArray := prog_7_method_6_code
def yX5_lesser : MethodName := ⟨RX5, "lesser", "(II)I"⟩
abbrev cX5_within : ByteArray := prog_7_method_7_code
def yX5_within : MethodName := ⟨RX5, "within", "(I)I"⟩
abbrev cX5_common : ByteArray := prog_7_method_8_code
def yX5_common : MethodName := ⟨RX5, "common", "(II)I"⟩
abbrev cX5_met : ByteArray := prog_7_method_9_code
def yX5_met : MethodName := ⟨RX5, "met", "(I)I"⟩
abbrev cX5_isSheet : ByteArray := prog_7_method_10_code
def yX5_isSheet : MethodName := ⟨RX5, "isSheet", "(I)Z"⟩
abbrev cX5_sheet : ByteArray := prog_7_method_11_code
def yX5_sheet : MethodName := ⟨RX5, "sheet", "(III)I"⟩
abbrev cX5_lose : ByteArray := prog_7_method_12_code
def yX5_lose : MethodName := ⟨RX5, "lose", "(I)I"⟩
abbrev cX5_lacks : ByteArray := prog_7_method_13_code
def yX5_lacks : MethodName := ⟨RX5, "lacks", "(III)I"⟩
abbrev cX5_cut : ByteArray := prog_7_method_14_code
def yX5_cut : MethodName := ⟨RX5, "cut", "(II)I"⟩
abbrev cX5_lay : ByteArray := prog_7_method_15_code
def yX5_lay : MethodName := ⟨RX5, "lay", "(IIII)I"⟩
abbrev cX5_get : ByteArray := prog_7_method_16_code
def yX5_get : MethodName := ⟨RX5, "get", "(III)I"⟩
abbrev cX5_copy : ByteArray := prog_7_method_17_code
def yX5_copy : MethodName := ⟨RX5, "copy", "(IIIII)I"⟩
abbrev cX5_type : ByteArray := prog_7_method_18_code
def yX5_type : MethodName := ⟨RX5, "type", "(I)I"⟩
abbrev cX5_wipe : ByteArray := prog_7_method_19_code
def yX5_wipe : MethodName := ⟨RX5, "wipe", "()I"⟩
abbrev cX5_shiftOf : ByteArray := prog_7_method_20_code
def yX5_shiftOf : MethodName := ⟨RX5, "shiftOf", "(I)I"⟩
abbrev cX5_tellsOf : ByteArray := prog_7_method_21_code
def yX5_tellsOf : MethodName := ⟨RX5, "tellsOf", "(II)I"⟩
abbrev cX5_readsChannel : ByteArray := prog_7_method_22_code
def yX5_readsChannel : MethodName := ⟨RX5, "readsChannel", "()Z"⟩
abbrev cX5_reads : ByteArray := prog_7_method_23_code
def yX5_reads : MethodName := ⟨RX5, "reads", "()I"⟩
abbrev cX5_fault : ByteArray := prog_7_method_24_code
def yX5_fault : MethodName := ⟨RX5, "fault", "()I"⟩
abbrev cX5_undo : ByteArray := prog_7_method_25_code
def yX5_undo : MethodName := ⟨RX5, "undo", "()I"⟩
abbrev cX5_isChannel : ByteArray := prog_7_method_26_code
def yX5_isChannel : MethodName := ⟨RX5, "isChannel", "(I)Z"⟩
abbrev cX5_isNight : ByteArray := prog_7_method_27_code
def yX5_isNight : MethodName := ⟨RX5, "isNight", "(I)Z"⟩
abbrev cX5_isDraught : ByteArray := prog_7_method_28_code
def yX5_isDraught : MethodName := ⟨RX5, "isDraught", "(I)Z"⟩
abbrev cX5_channel : ByteArray := prog_7_method_29_code
def yX5_channel : MethodName := ⟨RX5, "channel", "(II)I"⟩
abbrev cX5_storm : ByteArray := prog_7_method_30_code
def yX5_storm : MethodName := ⟨RX5, "storm", "(I)I"⟩
abbrev cX5_calm : ByteArray := prog_7_method_31_code
def yX5_calm : MethodName := ⟨RX5, "calm", "()I"⟩
abbrev cX5_odds : ByteArray := prog_7_method_32_code
def yX5_odds : MethodName := ⟨RX5, "odds", "(I)I"⟩
abbrev cX5_isStorm : ByteArray := prog_7_method_33_code
def yX5_isStorm : MethodName := ⟨RX5, "isStorm", "(I)Z"⟩
abbrev cX5_deepBy : ByteArray := prog_7_method_34_code
def yX5_deepBy : MethodName := ⟨RX5, "deepBy", "(IIII)I"⟩
abbrev cX5_deepIn : ByteArray := prog_7_method_35_code
def yX5_deepIn : MethodName := ⟨RX5, "deepIn", "(IIZ)I"⟩
abbrev cX5_deepOf : ByteArray := prog_7_method_36_code
def yX5_deepOf : MethodName := ⟨RX5, "deepOf", "(II)I"⟩
abbrev cX5_mapOf : ByteArray := prog_7_method_37_code
def yX5_mapOf : MethodName := ⟨RX5, "mapOf", "(II)I"⟩
abbrev cX5_deep : ByteArray := prog_7_method_38_code
def yX5_deep : MethodName := ⟨RX5, "deep", "(II)I"⟩
abbrev cX5_map : ByteArray := prog_7_method_39_code
def yX5_map : MethodName := ⟨RX5, "map", "(II)I"⟩
abbrev cX5_findWays : ByteArray := prog_7_method_40_code
def yX5_findWays : MethodName := ⟨RX5, "findWays", "(I)I"⟩
abbrev cX5_enoughIn : ByteArray := prog_7_method_41_code
def yX5_enoughIn : MethodName := ⟨RX5, "enoughIn", "(IIZ)I"⟩
abbrev cX5_enough : ByteArray := prog_7_method_42_code
def yX5_enough : MethodName := ⟨RX5, "enough", "(II)I"⟩
abbrev cX5_mapped : ByteArray := prog_7_method_43_code
def yX5_mapped : MethodName := ⟨RX5, "mapped", "(II)I"⟩
abbrev cX5_changed : ByteArray := prog_7_method_44_code
def yX5_changed : MethodName := ⟨RX5, "changed", "(II)I"⟩
abbrev cX5_aground : ByteArray := prog_7_method_45_code
def yX5_aground : MethodName := ⟨RX5, "aground", "(I)I"⟩
abbrev cX5_goes : ByteArray := prog_7_method_46_code
def yX5_goes : MethodName := ⟨RX5, "goes", "(II)I"⟩
abbrev cX5_waysOf : ByteArray := prog_7_method_47_code
def yX5_waysOf : MethodName := ⟨RX5, "waysOf", "(III)I"⟩
abbrev cX5_ways : ByteArray := prog_7_method_48_code
def yX5_ways : MethodName := ⟨RX5, "ways", "(III)I"⟩
abbrev cX5_draftOf : ByteArray := prog_7_method_49_code
def yX5_draftOf : MethodName := ⟨RX5, "draftOf", "(I)I"⟩
abbrev cX5_draft : ByteArray := prog_7_method_50_code
def yX5_draft : MethodName := ⟨RX5, "draft", "(I)I"⟩
abbrev cX5_waitsOf : ByteArray := prog_7_method_51_code
def yX5_waitsOf : MethodName := ⟨RX5, "waitsOf", "(II)I"⟩
abbrev cX5_waits : ByteArray := prog_7_method_52_code
def yX5_waits : MethodName := ⟨RX5, "waits", "(II)I"⟩
abbrev cX5_byMapOf : ByteArray := prog_7_method_53_code
def yX5_byMapOf : MethodName := ⟨RX5, "byMapOf", "(II)I"⟩
abbrev cX5_byMap : ByteArray := prog_7_method_54_code
def yX5_byMap : MethodName := ⟨RX5, "byMap", "(II)I"⟩
abbrev cX5_byChangeOf : ByteArray := prog_7_method_55_code
def yX5_byChangeOf : MethodName := ⟨RX5, "byChangeOf", "(II)I"⟩
abbrev cX5_byChange : ByteArray := prog_7_method_56_code
def yX5_byChange : MethodName := ⟨RX5, "byChange", "(II)I"⟩
abbrev cX5_savedOf : ByteArray := prog_7_method_57_code
def yX5_savedOf : MethodName := ⟨RX5, "savedOf", "(II)I"⟩
abbrev cX5_saved : ByteArray := prog_7_method_58_code
def yX5_saved : MethodName := ⟨RX5, "saved", "(II)I"⟩
abbrev cX5_sounded : ByteArray := prog_7_method_59_code
def yX5_sounded : MethodName := ⟨RX5, "sounded", "(III)I"⟩
abbrev cX5_forget : ByteArray := prog_7_method_60_code
def yX5_forget : MethodName := ⟨RX5, "forget", "()I"⟩
abbrev cX5_read : ByteArray := prog_7_method_61_code
def yX5_read : MethodName := ⟨RX5, "read", "(I)I"⟩
abbrev cX5_fits : ByteArray := prog_7_method_62_code
def yX5_fits : MethodName := ⟨RX5, "fits", "(II)Z"⟩
abbrev cX5_lawsOf : ByteArray := prog_7_method_63_code
def yX5_lawsOf : MethodName := ⟨RX5, "lawsOf", "(II)I"⟩
abbrev cX5_laws : ByteArray := prog_7_method_64_code
def yX5_laws : MethodName := ⟨RX5, "laws", "(II)I"⟩
abbrev cX5_nextOf : ByteArray := prog_7_method_65_code
def yX5_nextOf : MethodName := ⟨RX5, "nextOf", "(II)I"⟩
abbrev cX5_next : ByteArray := prog_7_method_66_code
def yX5_next : MethodName := ⟨RX5, "next", "(II)I"⟩
abbrev cX5_mostAlike : ByteArray := prog_7_method_67_code
def yX5_mostAlike : MethodName := ⟨RX5, "mostAlike", "(II)I"⟩
abbrev cX5_tellsNight : ByteArray := prog_7_method_68_code
def yX5_tellsNight : MethodName := ⟨RX5, "tellsNight", "(II)I"⟩
abbrev cX5_tells : ByteArray := prog_7_method_69_code
def yX5_tells : MethodName := ⟨RX5, "tells", "(II)I"⟩
abbrev cX5_wreckOf : ByteArray := prog_7_method_70_code
def yX5_wreckOf : MethodName := ⟨RX5, "wreckOf", "(III)I"⟩
abbrev cX5_wreck : ByteArray := prog_7_method_71_code
def yX5_wreck : MethodName := ⟨RX5, "wreck", "(III)I"⟩
abbrev cX5_throughOf : ByteArray := prog_7_method_72_code
def yX5_throughOf : MethodName := ⟨RX5, "throughOf", "(III)I"⟩
abbrev cX5_through : ByteArray := prog_7_method_73_code
def yX5_through : MethodName := ⟨RX5, "through", "(III)I"⟩
abbrev cX5_sureOf : ByteArray := prog_7_method_74_code
def yX5_sureOf : MethodName := ⟨RX5, "sureOf", "(III)I"⟩
abbrev cX5_sure : ByteArray := prog_7_method_75_code
def yX5_sure : MethodName := ⟨RX5, "sure", "(III)I"⟩
abbrev cX5_weigh : ByteArray := prog_7_method_76_code
def yX5_weigh : MethodName := ⟨RX5, "weigh", "(III)I"⟩
abbrev cX5_onBy : ByteArray := prog_7_method_77_code
def yX5_onBy : MethodName := ⟨RX5, "onBy", "(III)I"⟩
abbrev cX5_findSafest : ByteArray := prog_7_method_78_code
def yX5_findSafest : MethodName := ⟨RX5, "findSafest", "(II)V"⟩
abbrev cX5_tellsSafest : ByteArray := prog_7_method_79_code
def yX5_tellsSafest : MethodName := ⟨RX5, "tellsSafest", "(I)I"⟩
abbrev cX5_safestOf : ByteArray := prog_7_method_80_code
def yX5_safestOf : MethodName := ⟨RX5, "safestOf", "(III)I"⟩
abbrev cX5_safest : ByteArray := prog_7_method_81_code
def yX5_safest : MethodName := ⟨RX5, "safest", "(III)I"⟩
abbrev cX5_worthOf : ByteArray := prog_7_method_82_code
def yX5_worthOf : MethodName := ⟨RX5, "worthOf", "(II)I"⟩
abbrev cX5_worth : ByteArray := prog_7_method_83_code
def yX5_worth : MethodName := ⟨RX5, "worth", "(II)I"⟩
abbrev cX5_seasonOf : ByteArray := prog_7_method_84_code
def yX5_seasonOf : MethodName := ⟨RX5, "seasonOf", "(IIII)I"⟩
abbrev cX5_season : ByteArray := prog_7_method_85_code
def yX5_season : MethodName := ⟨RX5, "season", "(IIII)I"⟩
abbrev cX5_write : ByteArray := prog_7_method_86_code
def yX5_write : MethodName := ⟨RX5, "write", "(III)I"⟩
abbrev cX5_count : ByteArray := prog_7_method_87_code
def yX5_count : MethodName := ⟨RX5, "count", "(I)I"⟩
abbrev cX5_tellsNow : ByteArray := prog_7_method_88_code
def yX5_tellsNow : MethodName := ⟨RX5, "tellsNow", "(JII)J"⟩
abbrev cX5_digest : ByteArray := prog_7_method_89_code
def yX5_digest : MethodName := ⟨RX5, "digest", "()J"⟩
def RJ11 : String := "java/lang/Character"
def TJ11 : u_T := fun k => match k with
  | _ => ("", "", "", false)
def tyJ11 : Nat → FieldType := fun k => match k with
  | _ => .int
theorem nmJ11 : ∀ a, a < 0 → ∀ b, b < 0 → a ≠ b → (TJ11 a).2.1 ≠ (TJ11 b).2.1 := by decide +kernel
theorem tyJ11_ok : ∀ k, k < 0 → parseFieldDescriptor (TJ11 k).2.2.1 = some (tyJ11 k) := by decide +kernel
abbrev cJ11_isValidCodePoint_9a6ad : ByteArray := prog_8_method_11_code
def yJ11_isValidCodePoint_9a6ad : MethodName := ⟨RJ11, "isValidCodePoint", "(I)Z"⟩
abbrev cJ11_highSurrogate_5068e : ByteArray := prog_8_method_28_code
def yJ11_highSurrogate_5068e : MethodName := ⟨RJ11, "highSurrogate", "(I)C"⟩
abbrev cJ11_lowSurrogate_5068e : ByteArray := prog_8_method_29_code
def yJ11_lowSurrogate_5068e : MethodName := ⟨RJ11, "lowSurrogate", "(I)C"⟩
def RJ13 : String := "java/lang/Long"
def TJ13 : u_T := fun k => match k with
  | _ => ("", "", "", false)
def tyJ13 : Nat → FieldType := fun k => match k with
  | _ => .int
theorem nmJ13 : ∀ a, a < 0 → ∀ b, b < 0 → a ≠ b → (TJ13 a).2.1 ≠ (TJ13 b).2.1 := by decide +kernel
theorem tyJ13_ok : ∀ k, k < 0 → parseFieldDescriptor (TJ13 k).2.2.1 = some (tyJ13 k) := by decide +kernel
abbrev cJ13_bitCount_95d88 : ByteArray := prog_9_method_50_code
def yJ13_bitCount_95d88 : MethodName := ⟨RJ13, "bitCount", "(J)I"⟩
def RJ9 : String := "java/lang/Math"
def TJ9 : u_T := fun k => match k with
  | _ => ("", "", "", false)
def tyJ9 : Nat → FieldType := fun k => match k with
  | _ => .int
theorem nmJ9 : ∀ a, a < 0 → ∀ b, b < 0 → a ≠ b → (TJ9 a).2.1 ≠ (TJ9 b).2.1 := by decide +kernel
theorem tyJ9_ok : ∀ k, k < 0 → parseFieldDescriptor (TJ9 k).2.2.1 = some (tyJ9 k) := by decide +kernel
abbrev cJ9_max_7cf53 : ByteArray := prog_10_method_65_code
def yJ9_max_7cf53 : MethodName := ⟨RJ9, "max", "(II)I"⟩
abbrev cJ9_min_7cf53 : ByteArray := prog_10_method_69_code
def yJ9_min_7cf53 : MethodName := ⟨RJ9, "min", "(II)I"⟩
def RJ0 : String := "java/lang/String"
def TJ0 : u_T := fun k => match k with
  | _ => ("", "", "", false)
def tyJ0 : Nat → FieldType := fun k => match k with
  | _ => .int
theorem nmJ0 : ∀ a, a < 0 → ∀ b, b < 0 → a ≠ b → (TJ0 a).2.1 ≠ (TJ0 b).2.1 := by decide +kernel
theorem tyJ0_ok : ∀ k, k < 0 → parseFieldDescriptor (TJ0 k).2.2.1 = some (tyJ0 k) := by decide +kernel
abbrev cJ0_length_8abf5 : ByteArray := prog_11_method_54_code
def yJ0_length_8abf5 : MethodName := ⟨RJ0, "length", "()I"⟩
abbrev cJ0_indexOf_0f7a4 : ByteArray := prog_11_method_79_code
def yJ0_indexOf_0f7a4 : MethodName := ⟨RJ0, "indexOf", "(I)I"⟩
abbrev cJ0_indexOf_7cf53 : ByteArray := prog_11_method_80_code
def yJ0_indexOf_7cf53 : MethodName := ⟨RJ0, "indexOf", "(II)I"⟩
abbrev cJ0_coder_7d493 : ByteArray := prog_11_method_152_code
def yJ0_coder_7d493 : MethodName := ⟨RJ0, "coder", "()B"⟩
abbrev cJ0_isLatin1_aae02 : ByteArray := prog_11_method_154_code
def yJ0_isLatin1_aae02 : MethodName := ⟨RJ0, "isLatin1", "()Z"⟩
abbrev cJ0_checkBoundsBeginEnd_23922 : ByteArray := prog_11_method_158_code
def yJ0_checkBoundsBeginEnd_23922 : MethodName := ⟨RJ0, "checkBoundsBeginEnd", "(III)V"⟩
def RJ1 : String := "java/lang/StringLatin1"
def TJ1 : u_T := fun k => match k with
  | _ => ("", "", "", false)
def tyJ1 : Nat → FieldType := fun k => match k with
  | _ => .int
theorem nmJ1 : ∀ a, a < 0 → ∀ b, b < 0 → a ≠ b → (TJ1 a).2.1 ≠ (TJ1 b).2.1 := by decide +kernel
theorem tyJ1_ok : ∀ k, k < 0 → parseFieldDescriptor (TJ1 k).2.2.1 = some (tyJ1 k) := by decide +kernel
abbrev cJ1_canEncode_9a6ad : ByteArray := prog_12_method_4_code
def yJ1_canEncode_9a6ad : MethodName := ⟨RJ1, "canEncode", "(I)Z"⟩
abbrev cJ1_indexOf_4cfef : ByteArray := prog_12_method_22_code
def yJ1_indexOf_4cfef : MethodName := ⟨RJ1, "indexOf", "([BIII)I"⟩
abbrev cJ1_indexOfChar_4cfef : ByteArray := prog_12_method_23_code
def yJ1_indexOfChar_4cfef : MethodName := ⟨RJ1, "indexOfChar", "([BIII)I"⟩
def RJ2 : String := "java/lang/StringUTF16"
def TJ2 : u_T := fun k => match k with
  | _ => ("", "", "", false)
def tyJ2 : Nat → FieldType := fun k => match k with
  | _ => .int
theorem nmJ2 : ∀ a, a < 0 → ∀ b, b < 0 → a ≠ b → (TJ2 a).2.1 ≠ (TJ2 b).2.1 := by decide +kernel
theorem tyJ2_ok : ∀ k, k < 0 → parseFieldDescriptor (TJ2 k).2.2.1 = some (tyJ2 k) := by decide +kernel
abbrev cJ2_getChar_3b067 : ByteArray := prog_13_method_5_code
def yJ2_getChar_3b067 : MethodName := ⟨RJ2, "getChar", "([BI)C"⟩
abbrev cJ2_length_9d52b : ByteArray := prog_13_method_6_code
def yJ2_length_9d52b : MethodName := ⟨RJ2, "length", "([B)I"⟩
abbrev cJ2_indexOf_4cfef : ByteArray := prog_13_method_40_code
def yJ2_indexOf_4cfef : MethodName := ⟨RJ2, "indexOf", "([BIII)I"⟩
abbrev cJ2_indexOfChar_4cfef : ByteArray := prog_13_method_47_code
def yJ2_indexOfChar_4cfef : MethodName := ⟨RJ2, "indexOfChar", "([BIII)I"⟩
abbrev cJ2_indexOfCharUnsafe_4cfef : ByteArray := prog_13_method_48_code
def yJ2_indexOfCharUnsafe_4cfef : MethodName := ⟨RJ2, "indexOfCharUnsafe", "([BIII)I"⟩
abbrev cJ2_indexOfSupplementary_4cfef : ByteArray := prog_13_method_49_code
def yJ2_indexOfSupplementary_4cfef : MethodName := ⟨RJ2, "indexOfSupplementary", "([BIII)I"⟩
abbrev cJ2_checkBoundsBeginEnd_d044e : ByteArray := prog_13_method_93_code
def yJ2_checkBoundsBeginEnd_d044e : MethodName := ⟨RJ2, "checkBoundsBeginEnd", "(II[B)V"⟩
def RJ10 : String := "java/lang/System"
def TJ10 : u_T := fun k => match k with
  | _ => ("", "", "", false)
def tyJ10 : Nat → FieldType := fun k => match k with
  | _ => .int
theorem nmJ10 : ∀ a, a < 0 → ∀ b, b < 0 → a ≠ b → (TJ10 a).2.1 ≠ (TJ10 b).2.1 := by decide +kernel
theorem tyJ10_ok : ∀ k, k < 0 → parseFieldDescriptor (TJ10 k).2.2.1 = some (tyJ10 k) := by decide +kernel
def RJ7 : String := "java/util/Arrays"
def TJ7 : u_T := fun k => match k with
  | _ => ("", "", "", false)
def tyJ7 : Nat → FieldType := fun k => match k with
  | _ => .int
theorem nmJ7 : ∀ a, a < 0 → ∀ b, b < 0 → a ≠ b → (TJ7 a).2.1 ≠ (TJ7 b).2.1 := by decide +kernel
theorem tyJ7_ok : ∀ k, k < 0 → parseFieldDescriptor (TJ7 k).2.2.1 = some (tyJ7 k) := by decide +kernel
abbrev cJ7_fill_53178 : ByteArray := prog_15_method_103_code
def yJ7_fill_53178 : MethodName := ⟨RJ7, "fill", "([II)V"⟩
def RJ3 : String := "jdk/internal/util/Preconditions"
def TJ3 : u_T := fun k => match k with
  | _ => ("", "", "", false)
def tyJ3 : Nat → FieldType := fun k => match k with
  | _ => .int
theorem nmJ3 : ∀ a, a < 0 → ∀ b, b < 0 → a ≠ b → (TJ3 a).2.1 ≠ (TJ3 b).2.1 := by decide +kernel
theorem tyJ3_ok : ∀ k, k < 0 → parseFieldDescriptor (TJ3 k).2.2.1 = some (tyJ3 k) := by decide +kernel
abbrev cJ3_checkFromToIndex_8c36e : ByteArray := prog_16_method_12_code
def yJ3_checkFromToIndex_8c36e : MethodName := ⟨RJ3, "checkFromToIndex", "(IIILjava/util/function/BiFunction;)I"⟩
def RL : String := "DayOldMapsLaw"
abbrev cL_law : ByteArray := code
def yL_law : MethodName := ⟨RL, "law", "([I)Z"⟩
abbrev vwCl : List vw_C := [(RX0, TX0, 8), (RX1, TX1, 4), (RX2, TX2, 3), (RX3, TX3, 5), (RX4, TX4, 8), (RX5, TX5, 21)]
theorem inX0 : ∀ w ∈ u_ws RX0 TX0 8, w ∈ lw_tbl := by decide +kernel
theorem inX1 : ∀ w ∈ u_ws RX1 TX1 4, w ∈ lw_tbl := by decide +kernel
theorem inX2 : ∀ w ∈ u_ws RX2 TX2 3, w ∈ lw_tbl := by decide +kernel
theorem inX3 : ∀ w ∈ u_ws RX3 TX3 5, w ∈ lw_tbl := by decide +kernel
theorem inX4 : ∀ w ∈ u_ws RX4 TX4 8, w ∈ lw_tbl := by decide +kernel
theorem inX5 : ∀ w ∈ u_ws RX5 TX5 21, w ∈ lw_tbl := by decide +kernel
