theorem inKX0 : ∀ w ∈ u_ws RX0 TX0 8, w ∈ KT := fun w h => KT_in (inX0 w h) (List.all_eq_true.mp (show (u_ws RX0 TX0 8).all kW = true by decide +kernel) w h)
theorem inKX1 : ∀ w ∈ u_ws RX1 TX1 4, w ∈ KT := fun w h => KT_in (inX1 w h) (List.all_eq_true.mp (show (u_ws RX1 TX1 4).all kW = true by decide +kernel) w h)
theorem inKX2 : ∀ w ∈ u_ws RX2 TX2 3, w ∈ KT := fun w h => KT_in (inX2 w h) (List.all_eq_true.mp (show (u_ws RX2 TX2 3).all kW = true by decide +kernel) w h)
theorem inKX3 : ∀ w ∈ u_ws RX3 TX3 5, w ∈ KT := fun w h => KT_in (inX3 w h) (List.all_eq_true.mp (show (u_ws RX3 TX3 5).all kW = true by decide +kernel) w h)
theorem inKX4 : ∀ w ∈ u_ws RX4 TX4 8, w ∈ KT := fun w h => KT_in (inX4 w h) (List.all_eq_true.mp (show (u_ws RX4 TX4 8).all kW = true by decide +kernel) w h)
theorem inKX5 : ∀ w ∈ u_ws RX5 TX5 21, w ∈ KT := fun w h => KT_in (inX5 w h) (List.all_eq_true.mp (show (u_ws RX5 TX5 21).all kW = true by decide +kernel) w h)
theorem flX4_10 : Cond.fieldLink RX4 10 RX4 "delta" "LDayOldMaps$Delta;" ∈ KT := KT_of (i := 184) (by decide +kernel) rfl
theorem flX0_15 : Cond.fieldLink RX0 15 RX0 "length" "I" ∈ KT := KT_of (i := 90) (by decide +kernel) rfl
theorem flX0_11 : Cond.fieldLink RX0 11 RX0 "text" "[I" ∈ KT := KT_of (i := 89) (by decide +kernel) rfl
theorem lkX0_64 : Cond.methodLinkNest RX0 64 yX4_itemOf "DayOldMaps" ∈ KT := KT_of (i := 229) (by decide +kernel) rfl
theorem wmX4_itemOf : MWs yX4_itemOf cX4_itemOf 2 (some .int) 2 := ⟨⟨by decide, by decide, by decide +kernel⟩, KT_of (i := 231) (by decide +kernel) rfl, KT_of (i := 60) (by decide +kernel) rfl, KT_of (i := 230) (by decide +kernel) rfl⟩
theorem flJ0_38 : Cond.fieldLink RJ0 38 RJ0 "COMPACT_STRINGS" "Z" ∈ KT := KT_of (i := 245) (by decide +kernel) rfl
theorem flJ0_15 : Cond.fieldLink RJ0 15 RJ0 "coder" "B" ∈ KT := KT_of (i := 1158) (by decide +kernel) rfl
theorem lkJ0_492 : Cond.methodLink RJ0 492 yJ0_isLatin1_aae02 ∈ KT := KT_of (i := 241) (by decide +kernel) rfl
theorem wmJ0_isLatin1_aae02 : MWv yJ0_isLatin1_aae02 cJ0_isLatin1_aae02 1 (some .boolean) 0 := ⟨⟨by decide, by decide, by decide +kernel⟩, KT_of (i := 244) (by decide +kernel) rfl, KT_of (i := 66) (by decide +kernel) rfl, KT_of (i := 242) (by decide +kernel) rfl, KT_of (i := 243) (by decide +kernel) rfl⟩
theorem flJ0_9 : Cond.fieldLink RJ0 9 RJ0 "value" "[B" ∈ KT := KT_of (i := 1159) (by decide +kernel) rfl
theorem lkJ0_335 : Cond.methodLink RJ0 335 yJ0_coder_7d493 ∈ KT := KT_of (i := 251) (by decide +kernel) rfl
theorem wmJ0_coder_7d493 : MWv yJ0_coder_7d493 cJ0_coder_7d493 1 (some .byte) 0 := ⟨⟨by decide, by decide, by decide +kernel⟩, KT_of (i := 254) (by decide +kernel) rfl, KT_of (i := 66) (by decide +kernel) rfl, KT_of (i := 252) (by decide +kernel) rfl, KT_of (i := 253) (by decide +kernel) rfl⟩
theorem lkJ0_505 : Cond.methodLink RJ0 505 yJ0_length_8abf5 ∈ KT := KT_of (i := 247) (by decide +kernel) rfl
theorem wmJ0_length_8abf5 : MWv yJ0_length_8abf5 cJ0_length_8abf5 1 (some .int) 0 := ⟨⟨by decide, by decide, by decide +kernel⟩, KT_of (i := 250) (by decide +kernel) rfl, KT_of (i := 66) (by decide +kernel) rfl, KT_of (i := 248) (by decide +kernel) rfl, KT_of (i := 249) (by decide +kernel) rfl⟩
theorem lkJ1_88 : Cond.methodLink RJ1 88 yJ1_canEncode_9a6ad ∈ KT := KT_of (i := 258) (by decide +kernel) rfl
theorem wmJ1_canEncode_9a6ad : MWs yJ1_canEncode_9a6ad cJ1_canEncode_9a6ad 1 (some .boolean) 1 := ⟨⟨by decide, by decide, by decide +kernel⟩, KT_of (i := 260) (by decide +kernel) rfl, KT_of (i := 67) (by decide +kernel) rfl, KT_of (i := 259) (by decide +kernel) rfl⟩
theorem wMmax_s : Cond.static Lib.Math.max.name ∈ KT := KT_in (by decide +kernel) rfl
theorem wM_i : Cond.initialized "java/lang/Math" ∈ KT := KT_in (by decide +kernel) rfl
theorem wMmax_c : Cond.code Lib.Math.max.name Lib.Math.max.code 2 (some .int) ∈ KT := KT_in (by decide +kernel) rfl
theorem lkJ1_92 : Cond.methodLink RJ1 92 Lib.Math.max.name ∈ KT := KT_in (by decide +kernel) rfl
theorem wMmin_s : Cond.static Lib.Math.min.name ∈ KT := KT_in (by decide +kernel) rfl
theorem wMmin_c : Cond.code Lib.Math.min.name Lib.Math.min.code 2 (some .int) ∈ KT := KT_in (by decide +kernel) rfl
theorem lkJ1_38 : Cond.methodLink RJ1 38 Lib.Math.min.name ∈ KT := KT_in (by decide +kernel) rfl
theorem lkJ1_95 : Cond.methodLink RJ1 95 yJ1_indexOfChar_4cfef ∈ KT := KT_of (i := 267) (by decide +kernel) rfl
theorem wmJ1_indexOfChar_4cfef : MWs yJ1_indexOfChar_4cfef cJ1_indexOfChar_4cfef 6 (some .int) 4 := ⟨⟨by decide, by decide, by decide +kernel⟩, KT_of (i := 269) (by decide +kernel) rfl, KT_of (i := 67) (by decide +kernel) rfl, KT_of (i := 268) (by decide +kernel) rfl⟩
theorem lkJ0_637 : Cond.methodLink RJ0 637 yJ1_indexOf_4cfef ∈ KT := KT_of (i := 255) (by decide +kernel) rfl
theorem wmJ1_indexOf_4cfef : MWs yJ1_indexOf_4cfef cJ1_indexOf_4cfef 4 (some .int) 4 := ⟨⟨by decide, by decide, by decide +kernel⟩, KT_of (i := 257) (by decide +kernel) rfl, KT_of (i := 67) (by decide +kernel) rfl, KT_of (i := 256) (by decide +kernel) rfl⟩
theorem lkJ0_633 : Cond.methodLink RJ0 633 yJ0_indexOf_7cf53 ∈ KT := KT_of (i := 237) (by decide +kernel) rfl
theorem wmJ0_indexOf_7cf53 : MWv yJ0_indexOf_7cf53 cJ0_indexOf_7cf53 3 (some .int) 2 := ⟨⟨by decide, by decide, by decide +kernel⟩, KT_of (i := 240) (by decide +kernel) rfl, KT_of (i := 66) (by decide +kernel) rfl, KT_of (i := 238) (by decide +kernel) rfl, KT_of (i := 239) (by decide +kernel) rfl⟩
theorem lkX0_70 : Cond.methodLink RX0 70 yJ0_indexOf_0f7a4 ∈ KT := KT_of (i := 233) (by decide +kernel) rfl
theorem wmJ0_indexOf_0f7a4 : MWv yJ0_indexOf_0f7a4 cJ0_indexOf_0f7a4 2 (some .int) 1 := ⟨⟨by decide, by decide, by decide +kernel⟩, KT_of (i := 236) (by decide +kernel) rfl, KT_of (i := 66) (by decide +kernel) rfl, KT_of (i := 234) (by decide +kernel) rfl, KT_of (i := 235) (by decide +kernel) rfl⟩
theorem lkX0_60 : Cond.methodLink RX0 60 yX0_isWell ∈ KT := KT_of (i := 225) (by decide +kernel) rfl
theorem wmX0_isWell : MWv yX0_isWell cX0_isWell 3 (some .boolean) 1 := ⟨⟨by decide, by decide, by decide +kernel⟩, KT_of (i := 228) (by decide +kernel) rfl, KT_of (i := 61) (by decide +kernel) rfl, KT_of (i := 227) (by decide +kernel) rfl, KT_of (i := 2) (by decide +kernel) rfl⟩
theorem lkX0_50 : Cond.methodLink RX0 50 yX0_firstFault ∈ KT := KT_of (i := 221) (by decide +kernel) rfl
theorem wmX0_firstFault : MWv yX0_firstFault cX0_firstFault 2 (some .int) 0 := ⟨⟨by decide, by decide, by decide +kernel⟩, KT_of (i := 224) (by decide +kernel) rfl, KT_of (i := 61) (by decide +kernel) rfl, KT_of (i := 223) (by decide +kernel) rfl, KT_of (i := 1) (by decide +kernel) rfl⟩
theorem flX0_19 : Cond.fieldLink RX0 19 RX0 "faultAt" "I" ∈ KT := KT_of (i := 92) (by decide +kernel) rfl
theorem flX0_22 : Cond.fieldLink RX0 22 RX0 "channels" "I" ∈ KT := KT_of (i := 94) (by decide +kernel) rfl
theorem flX0_25 : Cond.fieldLink RX0 25 RX0 "facts" "[I" ∈ KT := KT_of (i := 97) (by decide +kernel) rfl
theorem lkX0_76 : Cond.methodLinkNest RX0 76 yX4_putInto "DayOldMaps" ∈ KT := KT_of (i := 323) (by decide +kernel) rfl
theorem wmX4_putInto : MWs yX4_putInto cX4_putInto 3 none 3 := ⟨⟨by decide, by decide, by decide +kernel⟩, KT_of (i := 325) (by decide +kernel) rfl, KT_of (i := 60) (by decide +kernel) rfl, KT_of (i := 324) (by decide +kernel) rfl⟩
theorem lkX0_54 : Cond.methodLink RX0 54 yX0_learn ∈ KT := KT_of (i := 319) (by decide +kernel) rfl
theorem wmX0_learn : MWv yX0_learn cX0_learn 4 none 1 := ⟨⟨by decide, by decide, by decide +kernel⟩, KT_of (i := 322) (by decide +kernel) rfl, KT_of (i := 61) (by decide +kernel) rfl, KT_of (i := 321) (by decide +kernel) rfl, KT_of (i := 3) (by decide +kernel) rfl⟩
theorem lkX0_80 : Cond.methodLink RX0 80 yX0_fact ∈ KT := KT_of (i := 330) (by decide +kernel) rfl
theorem wmX0_fact : MWv yX0_fact cX0_fact 4 (some .int) 2 := ⟨⟨by decide, by decide, by decide +kernel⟩, KT_of (i := 333) (by decide +kernel) rfl, KT_of (i := 61) (by decide +kernel) rfl, KT_of (i := 331) (by decide +kernel) rfl, KT_of (i := 332) (by decide +kernel) rfl⟩
theorem flX0_28 : Cond.fieldLink RX0 28 RX0 "order" "[I" ∈ KT := KT_of (i := 98) (by decide +kernel) rfl
theorem lkX0_57 : Cond.methodLink RX0 57 yX0_putInOrder ∈ KT := KT_of (i := 326) (by decide +kernel) rfl
theorem wmX0_putInOrder : MWv yX0_putInOrder cX0_putInOrder 4 none 0 := ⟨⟨by decide, by decide, by decide +kernel⟩, KT_of (i := 329) (by decide +kernel) rfl, KT_of (i := 61) (by decide +kernel) rfl, KT_of (i := 328) (by decide +kernel) rfl, KT_of (i := 4) (by decide +kernel) rfl⟩
theorem lkX0_37 : Cond.methodLink RX0 37 yX0_understand ∈ KT := KT_of (i := 217) (by decide +kernel) rfl
theorem wmX0_understand : MWv yX0_understand cX0_understand 2 none 0 := ⟨⟨by decide, by decide, by decide +kernel⟩, KT_of (i := 220) (by decide +kernel) rfl, KT_of (i := 61) (by decide +kernel) rfl, KT_of (i := 219) (by decide +kernel) rfl, KT_of (i := 0) (by decide +kernel) rfl⟩
theorem lkX4_51 : Cond.methodLink RX4 51 yX0_addByte ∈ KT := KT_of (i := 213) (by decide +kernel) rfl
theorem wmX0_addByte : MWv yX0_addByte cX0_addByte 2 (some .boolean) 1 := ⟨⟨by decide, by decide, by decide +kernel⟩, KT_of (i := 216) (by decide +kernel) rfl, KT_of (i := 61) (by decide +kernel) rfl, KT_of (i := 214) (by decide +kernel) rfl, KT_of (i := 215) (by decide +kernel) rfl⟩
theorem flX4_55 : Cond.fieldLinkNest RX4 55 RX0 "length" "I" "DayOldMaps" ∈ KT := KT_of (i := 91) (by decide +kernel) rfl
theorem kcX5_85 : Cond.constantLong RX5 85 (255) ∈ KT := KT_of (i := 840) (by decide +kernel) rfl
theorem lkX5_54 : Cond.methodLink RX5 54 yX5_in ∈ KT := KT_of (i := 804) (by decide +kernel) rfl
theorem wmX5_in : MWs yX5_in cX5_in 6 (some .boolean) 3 := ⟨⟨by decide, by decide, by decide +kernel⟩, KT_of (i := 806) (by decide +kernel) rfl, KT_of (i := 65) (by decide +kernel) rfl, KT_of (i := 805) (by decide +kernel) rfl⟩
theorem flX5_87 : Cond.fieldLink RX5 87 RX5 "typed" "I" ∈ KT := KT_of (i := 737) (by decide +kernel) rfl
theorem flX5_22 : Cond.fieldLink RX5 22 RX5 "text" "[I" ∈ KT := KT_of (i := 736) (by decide +kernel) rfl
theorem lkX4_58 : Cond.methodLink RX4 58 yX0_cutTo ∈ KT := KT_of (i := 339) (by decide +kernel) rfl
theorem wmX0_cutTo : MWv yX0_cutTo cX0_cutTo 2 none 1 := ⟨⟨by decide, by decide, by decide +kernel⟩, KT_of (i := 342) (by decide +kernel) rfl, KT_of (i := 61) (by decide +kernel) rfl, KT_of (i := 340) (by decide +kernel) rfl, KT_of (i := 341) (by decide +kernel) rfl⟩
theorem flX4_62 : Cond.fieldLinkNest RX4 62 RX0 "channels" "I" "DayOldMaps" ∈ KT := KT_of (i := 96) (by decide +kernel) rfl
theorem lkX0_40 : Cond.methodLink RX0 40 Lib.Math.max.name ∈ KT := KT_in (by decide +kernel) rfl
theorem lkX0_46 : Cond.methodLink RX0 46 yX0_cutTo ∈ KT := KT_of (i := 352) (by decide +kernel) rfl
theorem lkX4_65 : Cond.methodLink RX4 65 yX0_dropLastChannel ∈ KT := KT_of (i := 347) (by decide +kernel) rfl
theorem wmX0_dropLastChannel : MWv yX0_dropLastChannel cX0_dropLastChannel 1 none 0 := ⟨⟨by decide, by decide, by decide +kernel⟩, KT_of (i := 350) (by decide +kernel) rfl, KT_of (i := 61) (by decide +kernel) rfl, KT_of (i := 348) (by decide +kernel) rfl, KT_of (i := 349) (by decide +kernel) rfl⟩
theorem flX5_106 : Cond.fieldLink RX5 106 RX5 "at" "I" ∈ KT := KT_of (i := 738) (by decide +kernel) rfl
theorem flX5_94 : Cond.fieldLink RX5 94 RX5 "channels" "I" ∈ KT := KT_of (i := 739) (by decide +kernel) rfl
theorem kcX5_90 : Cond.constantLong RX5 90 (97) ∈ KT := KT_of (i := 861) (by decide +kernel) rfl
theorem kcX5_92 : Cond.constantLong RX5 92 (102) ∈ KT := KT_of (i := 862) (by decide +kernel) rfl
theorem flX5_25 : Cond.fieldLink RX5 25 RX5 "told" "[I" ∈ KT := KT_of (i := 740) (by decide +kernel) rfl
theorem lkX5_97 : Cond.methodLink RX5 97 yX5_shiftOf ∈ KT := KT_of (i := 863) (by decide +kernel) rfl
theorem wmX5_shiftOf : MWs yX5_shiftOf cX5_shiftOf 1 (some .int) 1 := ⟨⟨by decide, by decide, by decide +kernel⟩, KT_of (i := 865) (by decide +kernel) rfl, KT_of (i := 65) (by decide +kernel) rfl, KT_of (i := 864) (by decide +kernel) rfl⟩
theorem kcX5_100 : Cond.constantLong RX5 100 (48) ∈ KT := KT_of (i := 866) (by decide +kernel) rfl
theorem kcX5_104 : Cond.constantLong RX5 104 (57) ∈ KT := KT_of (i := 868) (by decide +kernel) rfl
theorem kcX5_102 : Cond.constantLong RX5 102 (49) ∈ KT := KT_of (i := 867) (by decide +kernel) rfl
theorem lkX5_109 : Cond.methodLink RX5 109 yX5_tellsOf ∈ KT := KT_of (i := 857) (by decide +kernel) rfl
theorem wmX5_tellsOf : MWv yX5_tellsOf cX5_tellsOf 3 (some .int) 2 := ⟨⟨by decide, by decide, by decide +kernel⟩, KT_of (i := 860) (by decide +kernel) rfl, KT_of (i := 65) (by decide +kernel) rfl, KT_of (i := 859) (by decide +kernel) rfl, KT_of (i := 24) (by decide +kernel) rfl⟩
theorem lkX5_112 : Cond.methodLink RX5 112 yX5_readsChannel ∈ KT := KT_of (i := 853) (by decide +kernel) rfl
theorem wmX5_readsChannel : MWv yX5_readsChannel cX5_readsChannel 3 (some .boolean) 0 := ⟨⟨by decide, by decide, by decide +kernel⟩, KT_of (i := 856) (by decide +kernel) rfl, KT_of (i := 65) (by decide +kernel) rfl, KT_of (i := 855) (by decide +kernel) rfl, KT_of (i := 23) (by decide +kernel) rfl⟩
theorem lkX5_116 : Cond.methodLink RX5 116 yX5_reads ∈ KT := KT_of (i := 849) (by decide +kernel) rfl
theorem wmX5_reads : MWv yX5_reads cX5_reads 3 (some .int) 0 := ⟨⟨by decide, by decide, by decide +kernel⟩, KT_of (i := 852) (by decide +kernel) rfl, KT_of (i := 65) (by decide +kernel) rfl, KT_of (i := 851) (by decide +kernel) rfl, KT_of (i := 22) (by decide +kernel) rfl⟩
theorem flX4_68 : Cond.fieldLinkNest RX4 68 RX0 "faultAt" "I" "DayOldMaps" ∈ KT := KT_of (i := 93) (by decide +kernel) rfl
theorem lkX4_71 : Cond.methodLink RX4 71 yX0_fact ∈ KT := KT_of (i := 361) (by decide +kernel) rfl
theorem lkX5_124 : Cond.methodLink RX5 124 yX5_isChannel ∈ KT := KT_of (i := 877) (by decide +kernel) rfl
theorem wmX5_isChannel : MWv yX5_isChannel cX5_isChannel 2 (some .boolean) 1 := ⟨⟨by decide, by decide, by decide +kernel⟩, KT_of (i := 880) (by decide +kernel) rfl, KT_of (i := 65) (by decide +kernel) rfl, KT_of (i := 879) (by decide +kernel) rfl, KT_of (i := 25) (by decide +kernel) rfl⟩
theorem kcX5_127 : Cond.constantLong RX5 127 (4) ∈ KT := KT_of (i := 881) (by decide +kernel) rfl
theorem lkX4_75 : Cond.methodLink RX4 75 yX4_isNight ∈ KT := KT_of (i := 366) (by decide +kernel) rfl
theorem wmX4_isNight : MWs yX4_isNight cX4_isNight 1 (some .boolean) 1 := ⟨⟨by decide, by decide, by decide +kernel⟩, KT_of (i := 368) (by decide +kernel) rfl, KT_of (i := 60) (by decide +kernel) rfl, KT_of (i := 367) (by decide +kernel) rfl⟩
theorem flX0_34 : Cond.fieldLink RX0 34 RX0 "storms" "I" ∈ KT := KT_of (i := 101) (by decide +kernel) rfl
theorem flX0_31 : Cond.fieldLink RX0 31 RX0 "stormNights" "[I" ∈ KT := KT_of (i := 100) (by decide +kernel) rfl
theorem lkX4_78 : Cond.methodLink RX4 78 yX0_addStorm ∈ KT := KT_of (i := 369) (by decide +kernel) rfl
theorem wmX0_addStorm : MWv yX0_addStorm cX0_addStorm 2 (some .boolean) 1 := ⟨⟨by decide, by decide, by decide +kernel⟩, KT_of (i := 372) (by decide +kernel) rfl, KT_of (i := 61) (by decide +kernel) rfl, KT_of (i := 370) (by decide +kernel) rfl, KT_of (i := 371) (by decide +kernel) rfl⟩
theorem flX4_81 : Cond.fieldLinkNest RX4 81 RX0 "storms" "I" "DayOldMaps" ∈ KT := KT_of (i := 102) (by decide +kernel) rfl
theorem kcX5_120 : Cond.constantLong RX5 120 (99) ∈ KT := KT_of (i := 889) (by decide +kernel) rfl
theorem lkX5_129 : Cond.methodLink RX5 129 yX5_isNight ∈ KT := KT_of (i := 886) (by decide +kernel) rfl
theorem wmX5_isNight : MWs yX5_isNight cX5_isNight 1 (some .boolean) 1 := ⟨⟨by decide, by decide, by decide +kernel⟩, KT_of (i := 888) (by decide +kernel) rfl, KT_of (i := 65) (by decide +kernel) rfl, KT_of (i := 887) (by decide +kernel) rfl⟩
theorem flX5_132 : Cond.fieldLink RX5 132 RX5 "storms" "I" ∈ KT := KT_of (i := 741) (by decide +kernel) rfl
theorem flX5_28 : Cond.fieldLink RX5 28 RX5 "storm" "[I" ∈ KT := KT_of (i := 742) (by decide +kernel) rfl
theorem lkX4_84 : Cond.methodLink RX4 84 yX0_dropStorm ∈ KT := KT_of (i := 377) (by decide +kernel) rfl
theorem wmX0_dropStorm : MWv yX0_dropStorm cX0_dropStorm 1 (some .boolean) 0 := ⟨⟨by decide, by decide, by decide +kernel⟩, KT_of (i := 380) (by decide +kernel) rfl, KT_of (i := 61) (by decide +kernel) rfl, KT_of (i := 378) (by decide +kernel) rfl, KT_of (i := 379) (by decide +kernel) rfl⟩
theorem flX4_44 : Cond.fieldLink RX4 44 RX4 "oddsOfStorm" "I" ∈ KT := KT_of (i := 190) (by decide +kernel) rfl
theorem kcX5_135 : Cond.constantLong RX5 135 (16) ∈ KT := KT_of (i := 898) (by decide +kernel) rfl
theorem flX5_50 : Cond.fieldLink RX5 50 RX5 "chance" "I" ∈ KT := KT_of (i := 743) (by decide +kernel) rfl
theorem lkX4_88 : Cond.methodLink RX4 88 yX0_hasChannel ∈ KT := KT_of (i := 389) (by decide +kernel) rfl
theorem wmX0_hasChannel : MWv yX0_hasChannel cX0_hasChannel 2 (some .boolean) 1 := ⟨⟨by decide, by decide, by decide +kernel⟩, KT_of (i := 392) (by decide +kernel) rfl, KT_of (i := 61) (by decide +kernel) rfl, KT_of (i := 390) (by decide +kernel) rfl, KT_of (i := 391) (by decide +kernel) rfl⟩
theorem lkX4_91 : Cond.methodLink RX4 91 yX0_isStormy ∈ KT := KT_of (i := 393) (by decide +kernel) rfl
theorem wmX0_isStormy : MWv yX0_isStormy cX0_isStormy 3 (some .boolean) 1 := ⟨⟨by decide, by decide, by decide +kernel⟩, KT_of (i := 396) (by decide +kernel) rfl, KT_of (i := 61) (by decide +kernel) rfl, KT_of (i := 394) (by decide +kernel) rfl, KT_of (i := 395) (by decide +kernel) rfl⟩
theorem lkX0_83 : Cond.methodLinkNest RX0 83 yX4_shifted "DayOldMaps" ∈ KT := KT_of (i := 401) (by decide +kernel) rfl
theorem wmX4_shifted : MWs yX4_shifted cX4_shifted 6 (some .int) 5 := ⟨⟨by decide, by decide, by decide +kernel⟩, KT_of (i := 403) (by decide +kernel) rfl, KT_of (i := 60) (by decide +kernel) rfl, KT_of (i := 402) (by decide +kernel) rfl⟩
theorem lkX4_94 : Cond.methodLink RX4 94 yX0_depth ∈ KT := KT_of (i := 397) (by decide +kernel) rfl
theorem wmX0_depth : MWv yX0_depth cX0_depth 4 (some .int) 3 := ⟨⟨by decide, by decide, by decide +kernel⟩, KT_of (i := 400) (by decide +kernel) rfl, KT_of (i := 61) (by decide +kernel) rfl, KT_of (i := 398) (by decide +kernel) rfl, KT_of (i := 399) (by decide +kernel) rfl⟩
theorem lkX5_144 : Cond.methodLink RX5 144 yX5_isStorm ∈ KT := KT_of (i := 907) (by decide +kernel) rfl
theorem wmX5_isStorm : MWv yX5_isStorm cX5_isStorm 4 (some .boolean) 1 := ⟨⟨by decide, by decide, by decide +kernel⟩, KT_of (i := 910) (by decide +kernel) rfl, KT_of (i := 65) (by decide +kernel) rfl, KT_of (i := 909) (by decide +kernel) rfl, KT_of (i := 27) (by decide +kernel) rfl⟩
theorem lkX5_58 : Cond.methodLink RX5 58 yX5_lesser ∈ KT := KT_of (i := 921) (by decide +kernel) rfl
theorem wmX5_lesser : MWs yX5_lesser cX5_lesser 2 (some .int) 2 := ⟨⟨by decide, by decide, by decide +kernel⟩, KT_of (i := 923) (by decide +kernel) rfl, KT_of (i := 65) (by decide +kernel) rfl, KT_of (i := 922) (by decide +kernel) rfl⟩
theorem lkX5_137 : Cond.methodLink RX5 137 yX5_within ∈ KT := KT_of (i := 918) (by decide +kernel) rfl
theorem wmX5_within : MWs yX5_within cX5_within 1 (some .int) 1 := ⟨⟨by decide, by decide, by decide +kernel⟩, KT_of (i := 920) (by decide +kernel) rfl, KT_of (i := 65) (by decide +kernel) rfl, KT_of (i := 919) (by decide +kernel) rfl⟩
theorem lkX5_140 : Cond.methodLink RX5 140 yX5_deepBy ∈ KT := KT_of (i := 915) (by decide +kernel) rfl
theorem wmX5_deepBy : MWs yX5_deepBy cX5_deepBy 5 (some .int) 4 := ⟨⟨by decide, by decide, by decide +kernel⟩, KT_of (i := 917) (by decide +kernel) rfl, KT_of (i := 65) (by decide +kernel) rfl, KT_of (i := 916) (by decide +kernel) rfl⟩
theorem lkX5_147 : Cond.methodLink RX5 147 yX5_deepIn ∈ KT := KT_of (i := 911) (by decide +kernel) rfl
theorem wmX5_deepIn : MWv yX5_deepIn cX5_deepIn 6 (some .int) 3 := ⟨⟨by decide, by decide, by decide +kernel⟩, KT_of (i := 914) (by decide +kernel) rfl, KT_of (i := 65) (by decide +kernel) rfl, KT_of (i := 913) (by decide +kernel) rfl, KT_of (i := 28) (by decide +kernel) rfl⟩
theorem lkX5_151 : Cond.methodLink RX5 151 yX5_deepOf ∈ KT := KT_of (i := 903) (by decide +kernel) rfl
theorem wmX5_deepOf : MWv yX5_deepOf cX5_deepOf 3 (some .int) 2 := ⟨⟨by decide, by decide, by decide +kernel⟩, KT_of (i := 906) (by decide +kernel) rfl, KT_of (i := 65) (by decide +kernel) rfl, KT_of (i := 905) (by decide +kernel) rfl, KT_of (i := 26) (by decide +kernel) rfl⟩
theorem lkX4_326 : Cond.methodLink RX4 326 Lib.Math.max.name ∈ KT := KT_in (by decide +kernel) rfl
theorem lkX4_98 : Cond.methodLink RX4 98 yX4_nightShown ∈ KT := KT_of (i := 408) (by decide +kernel) rfl
theorem wmX4_nightShown : MWs yX4_nightShown cX4_nightShown 1 (some .int) 1 := ⟨⟨by decide, by decide, by decide +kernel⟩, KT_of (i := 410) (by decide +kernel) rfl, KT_of (i := 60) (by decide +kernel) rfl, KT_of (i := 409) (by decide +kernel) rfl⟩
theorem lkX4_102 : Cond.methodLink RX4 102 yX4_deep ∈ KT := KT_of (i := 412) (by decide +kernel) rfl
theorem wmX4_deep : MWv yX4_deep cX4_deep 3 (some .int) 2 := ⟨⟨by decide, by decide, by decide +kernel⟩, KT_of (i := 388) (by decide +kernel) rfl, KT_of (i := 60) (by decide +kernel) rfl, KT_of (i := 386) (by decide +kernel) rfl, KT_of (i := 387) (by decide +kernel) rfl⟩
theorem lkX5_154 : Cond.methodLink RX5 154 yX5_mapOf ∈ KT := KT_of (i := 928) (by decide +kernel) rfl
theorem wmX5_mapOf : MWv yX5_mapOf cX5_mapOf 3 (some .int) 2 := ⟨⟨by decide, by decide, by decide +kernel⟩, KT_of (i := 931) (by decide +kernel) rfl, KT_of (i := 65) (by decide +kernel) rfl, KT_of (i := 930) (by decide +kernel) rfl, KT_of (i := 29) (by decide +kernel) rfl⟩
theorem lkX4_137 : Cond.methodLink RX4 137 yX4_isDraught ∈ KT := KT_of (i := 420) (by decide +kernel) rfl
theorem wmX4_isDraught : MWs yX4_isDraught cX4_isDraught 1 (some .boolean) 1 := ⟨⟨by decide, by decide, by decide +kernel⟩, KT_of (i := 422) (by decide +kernel) rfl, KT_of (i := 60) (by decide +kernel) rfl, KT_of (i := 421) (by decide +kernel) rfl⟩
theorem lkX4_105 : Cond.methodLink RX4 105 yX4_isShip ∈ KT := KT_of (i := 417) (by decide +kernel) rfl
theorem wmX4_isShip : MWs yX4_isShip cX4_isShip 2 (some .boolean) 2 := ⟨⟨by decide, by decide, by decide +kernel⟩, KT_of (i := 419) (by decide +kernel) rfl, KT_of (i := 60) (by decide +kernel) rfl, KT_of (i := 418) (by decide +kernel) rfl⟩
theorem flX4_37 : Cond.fieldLink RX4 37 RX4 "depths" "[I" ∈ KT := KT_of (i := 188) (by decide +kernel) rfl
theorem lkX0_87 : Cond.methodLink RX0 87 yX0_depth ∈ KT := KT_of (i := 427) (by decide +kernel) rfl
theorem lkX4_109 : Cond.methodLink RX4 109 yX0_fill ∈ KT := KT_of (i := 423) (by decide +kernel) rfl
theorem wmX0_fill : MWv yX0_fill cX0_fill 5 none 3 := ⟨⟨by decide, by decide, by decide +kernel⟩, KT_of (i := 426) (by decide +kernel) rfl, KT_of (i := 61) (by decide +kernel) rfl, KT_of (i := 424) (by decide +kernel) rfl, KT_of (i := 425) (by decide +kernel) rfl⟩
theorem flX4_26 : Cond.fieldLink RX4 26 RX4 "rows" "LDayOldMaps$Rows;" ∈ KT := KT_of (i := 186) (by decide +kernel) rfl
theorem flX1_15 : Cond.fieldLink RX1 15 RX1 "counted" "[I" ∈ KT := KT_of (i := 151) (by decide +kernel) rfl
theorem lkX1_25 : Cond.methodLink RX1 25 yJ7_fill_53178 ∈ KT := KT_of (i := 432) (by decide +kernel) rfl
theorem wmJ7_fill_53178 : MWs yJ7_fill_53178 cJ7_fill_53178 4 none 2 := ⟨⟨by decide, by decide, by decide +kernel⟩, KT_of (i := 434) (by decide +kernel) rfl, KT_of (i := 72) (by decide +kernel) rfl, KT_of (i := 433) (by decide +kernel) rfl⟩
theorem lkX1_31 : Cond.methodLinkNest RX1 31 yX4_putInto "DayOldMaps" ∈ KT := KT_of (i := 435) (by decide +kernel) rfl
theorem flX1_35 : Cond.fieldLinkNest RX1 35 RX0 "channels" "I" "DayOldMaps" ∈ KT := KT_of (i := 95) (by decide +kernel) rfl
theorem flX1_40 : Cond.fieldLinkNest RX1 40 RX0 "order" "[I" "DayOldMaps" ∈ KT := KT_of (i := 99) (by decide +kernel) rfl
theorem lkX1_43 : Cond.methodLinkNest RX1 43 yX4_itemOf "DayOldMaps" ∈ KT := KT_of (i := 436) (by decide +kernel) rfl
theorem lkX1_47 : Cond.methodLink RX1 47 yX0_fact ∈ KT := KT_of (i := 437) (by decide +kernel) rfl
theorem lkX4_113 : Cond.methodLink RX4 113 yX1_tally ∈ KT := KT_of (i := 428) (by decide +kernel) rfl
theorem wmX1_tally : MWv yX1_tally cX1_tally 7 (some .int) 3 := ⟨⟨by decide, by decide, by decide +kernel⟩, KT_of (i := 431) (by decide +kernel) rfl, KT_of (i := 63) (by decide +kernel) rfl, KT_of (i := 429) (by decide +kernel) rfl, KT_of (i := 430) (by decide +kernel) rfl⟩
theorem flX1_9 : Cond.fieldLink RX1 9 RX1 "onward" "[I" ∈ KT := KT_of (i := 150) (by decide +kernel) rfl
theorem flX1_21 : Cond.fieldLink RX1 21 RX1 "length" "I" ∈ KT := KT_of (i := 153) (by decide +kernel) rfl
theorem flX1_18 : Cond.fieldLink RX1 18 RX1 "steps" "[I" ∈ KT := KT_of (i := 152) (by decide +kernel) rfl
theorem lkX1_51 : Cond.methodLink RX1 51 yX1_follow ∈ KT := KT_of (i := 442) (by decide +kernel) rfl
theorem wmX1_follow : MWv yX1_follow cX1_follow 4 (some .boolean) 1 := ⟨⟨by decide, by decide, by decide +kernel⟩, KT_of (i := 445) (by decide +kernel) rfl, KT_of (i := 63) (by decide +kernel) rfl, KT_of (i := 444) (by decide +kernel) rfl, KT_of (i := 5) (by decide +kernel) rfl⟩
theorem lkX4_117 : Cond.methodLink RX4 117 yX1_findLeast ∈ KT := KT_of (i := 438) (by decide +kernel) rfl
theorem wmX1_findLeast : MWv yX1_findLeast cX1_findLeast 7 (some .boolean) 3 := ⟨⟨by decide, by decide, by decide +kernel⟩, KT_of (i := 441) (by decide +kernel) rfl, KT_of (i := 63) (by decide +kernel) rfl, KT_of (i := 439) (by decide +kernel) rfl, KT_of (i := 440) (by decide +kernel) rfl⟩
theorem lkX4_121 : Cond.methodLink RX4 121 yX1_step ∈ KT := KT_of (i := 446) (by decide +kernel) rfl
theorem wmX1_step : MWv yX1_step cX1_step 2 (some .int) 1 := ⟨⟨by decide, by decide, by decide +kernel⟩, KT_of (i := 449) (by decide +kernel) rfl, KT_of (i := 63) (by decide +kernel) rfl, KT_of (i := 447) (by decide +kernel) rfl, KT_of (i := 448) (by decide +kernel) rfl⟩
theorem kcX5_122 : Cond.constantLong RX5 122 (9) ∈ KT := KT_of (i := 939) (by decide +kernel) rfl
theorem lkX5_176 : Cond.methodLink RX5 176 yX5_isDraught ∈ KT := KT_of (i := 936) (by decide +kernel) rfl
theorem wmX5_isDraught : MWs yX5_isDraught cX5_isDraught 1 (some .boolean) 1 := ⟨⟨by decide, by decide, by decide +kernel⟩, KT_of (i := 938) (by decide +kernel) rfl, KT_of (i := 65) (by decide +kernel) rfl, KT_of (i := 937) (by decide +kernel) rfl⟩
theorem kcX5_179 : Cond.constantLong RX5 179 (-1) ∈ KT := KT_of (i := 940) (by decide +kernel) rfl
theorem lkX5_164 : Cond.methodLink RX5 164 yX5_enoughIn ∈ KT := KT_of (i := 949) (by decide +kernel) rfl
theorem wmX5_enoughIn : MWv yX5_enoughIn cX5_enoughIn 6 (some .int) 3 := ⟨⟨by decide, by decide, by decide +kernel⟩, KT_of (i := 952) (by decide +kernel) rfl, KT_of (i := 65) (by decide +kernel) rfl, KT_of (i := 951) (by decide +kernel) rfl, KT_of (i := 32) (by decide +kernel) rfl⟩
theorem lkX5_167 : Cond.methodLink RX5 167 yX5_enough ∈ KT := KT_of (i := 945) (by decide +kernel) rfl
theorem wmX5_enough : MWv yX5_enough cX5_enough 3 (some .int) 2 := ⟨⟨by decide, by decide, by decide +kernel⟩, KT_of (i := 948) (by decide +kernel) rfl, KT_of (i := 65) (by decide +kernel) rfl, KT_of (i := 947) (by decide +kernel) rfl, KT_of (i := 31) (by decide +kernel) rfl⟩
theorem flX5_31 : Cond.fieldLink RX5 31 RX5 "many" "[I" ∈ KT := KT_of (i := 744) (by decide +kernel) rfl
theorem lkX5_157 : Cond.methodLink RX5 157 yX5_isIn ∈ KT := KT_of (i := 957) (by decide +kernel) rfl
theorem wmX5_isIn : MWs yX5_isIn cX5_isIn 2 (some .boolean) 2 := ⟨⟨by decide, by decide, by decide +kernel⟩, KT_of (i := 959) (by decide +kernel) rfl, KT_of (i := 65) (by decide +kernel) rfl, KT_of (i := 958) (by decide +kernel) rfl⟩
theorem flX5_161 : Cond.fieldLink RX5 161 RX5 "length" "I" ∈ KT := KT_of (i := 746) (by decide +kernel) rfl
theorem flX5_34 : Cond.fieldLink RX5 34 RX5 "row" "[I" ∈ KT := KT_of (i := 745) (by decide +kernel) rfl
theorem lkX5_170 : Cond.methodLink RX5 170 yX5_findWays ∈ KT := KT_of (i := 953) (by decide +kernel) rfl
theorem wmX5_findWays : MWv yX5_findWays cX5_findWays 5 (some .int) 1 := ⟨⟨by decide, by decide, by decide +kernel⟩, KT_of (i := 956) (by decide +kernel) rfl, KT_of (i := 65) (by decide +kernel) rfl, KT_of (i := 955) (by decide +kernel) rfl, KT_of (i := 33) (by decide +kernel) rfl⟩
theorem lkX5_181 : Cond.methodLink RX5 181 yX5_waysOf ∈ KT := KT_of (i := 941) (by decide +kernel) rfl
theorem wmX5_waysOf : MWv yX5_waysOf cX5_waysOf 5 (some .int) 3 := ⟨⟨by decide, by decide, by decide +kernel⟩, KT_of (i := 944) (by decide +kernel) rfl, KT_of (i := 65) (by decide +kernel) rfl, KT_of (i := 943) (by decide +kernel) rfl, KT_of (i := 30) (by decide +kernel) rfl⟩
theorem lkX5_184 : Cond.methodLink RX5 184 yX5_draftOf ∈ KT := KT_of (i := 964) (by decide +kernel) rfl
theorem wmX5_draftOf : MWv yX5_draftOf cX5_draftOf 3 (some .int) 1 := ⟨⟨by decide, by decide, by decide +kernel⟩, KT_of (i := 967) (by decide +kernel) rfl, KT_of (i := 65) (by decide +kernel) rfl, KT_of (i := 966) (by decide +kernel) rfl, KT_of (i := 34) (by decide +kernel) rfl⟩
theorem lkX4_124 : Cond.methodLink RX4 124 yX4_isOpen ∈ KT := KT_of (i := 458) (by decide +kernel) rfl
theorem wmX4_isOpen : MWv yX4_isOpen cX4_isOpen 4 (some .boolean) 3 := ⟨⟨by decide, by decide, by decide +kernel⟩, KT_of (i := 461) (by decide +kernel) rfl, KT_of (i := 60) (by decide +kernel) rfl, KT_of (i := 460) (by decide +kernel) rfl, KT_of (i := 6) (by decide +kernel) rfl⟩
theorem lkX5_187 : Cond.methodLink RX5 187 yX5_waitsOf ∈ KT := KT_of (i := 972) (by decide +kernel) rfl
theorem wmX5_waitsOf : MWv yX5_waitsOf cX5_waitsOf 4 (some .int) 2 := ⟨⟨by decide, by decide, by decide +kernel⟩, KT_of (i := 975) (by decide +kernel) rfl, KT_of (i := 65) (by decide +kernel) rfl, KT_of (i := 974) (by decide +kernel) rfl, KT_of (i := 35) (by decide +kernel) rfl⟩
theorem lkX4_128 : Cond.methodLink RX4 128 yX4_findByMap ∈ KT := KT_of (i := 466) (by decide +kernel) rfl
theorem wmX4_findByMap : MWv yX4_findByMap cX4_findByMap 4 (some .boolean) 2 := ⟨⟨by decide, by decide, by decide +kernel⟩, KT_of (i := 469) (by decide +kernel) rfl, KT_of (i := 60) (by decide +kernel) rfl, KT_of (i := 468) (by decide +kernel) rfl, KT_of (i := 7) (by decide +kernel) rfl⟩
theorem flX4_329 : Cond.fieldLinkNest RX4 329 RX1 "length" "I" "DayOldMaps" ∈ KT := KT_of (i := 154) (by decide +kernel) rfl
theorem lkX4_131 : Cond.methodLink RX4 131 yX4_aground ∈ KT := KT_of (i := 470) (by decide +kernel) rfl
theorem wmX4_aground : MWv yX4_aground cX4_aground 6 (some .int) 3 := ⟨⟨by decide, by decide, by decide +kernel⟩, KT_of (i := 473) (by decide +kernel) rfl, KT_of (i := 60) (by decide +kernel) rfl, KT_of (i := 472) (by decide +kernel) rfl, KT_of (i := 8) (by decide +kernel) rfl⟩
theorem lkX5_190 : Cond.methodLink RX5 190 yX5_mapped ∈ KT := KT_of (i := 984) (by decide +kernel) rfl
theorem wmX5_mapped : MWv yX5_mapped cX5_mapped 3 (some .int) 2 := ⟨⟨by decide, by decide, by decide +kernel⟩, KT_of (i := 987) (by decide +kernel) rfl, KT_of (i := 65) (by decide +kernel) rfl, KT_of (i := 986) (by decide +kernel) rfl, KT_of (i := 37) (by decide +kernel) rfl⟩
theorem lkX5_173 : Cond.methodLink RX5 173 yX5_aground ∈ KT := KT_of (i := 992) (by decide +kernel) rfl
theorem wmX5_aground : MWv yX5_aground cX5_aground 3 (some .int) 1 := ⟨⟨by decide, by decide, by decide +kernel⟩, KT_of (i := 995) (by decide +kernel) rfl, KT_of (i := 65) (by decide +kernel) rfl, KT_of (i := 994) (by decide +kernel) rfl, KT_of (i := 39) (by decide +kernel) rfl⟩
theorem lkX5_193 : Cond.methodLink RX5 193 yX5_goes ∈ KT := KT_of (i := 988) (by decide +kernel) rfl
theorem wmX5_goes : MWv yX5_goes cX5_goes 3 (some .int) 2 := ⟨⟨by decide, by decide, by decide +kernel⟩, KT_of (i := 991) (by decide +kernel) rfl, KT_of (i := 65) (by decide +kernel) rfl, KT_of (i := 990) (by decide +kernel) rfl, KT_of (i := 38) (by decide +kernel) rfl⟩
theorem lkX5_196 : Cond.methodLink RX5 196 yX5_byMapOf ∈ KT := KT_of (i := 980) (by decide +kernel) rfl
theorem wmX5_byMapOf : MWv yX5_byMapOf cX5_byMapOf 3 (some .int) 2 := ⟨⟨by decide, by decide, by decide +kernel⟩, KT_of (i := 983) (by decide +kernel) rfl, KT_of (i := 65) (by decide +kernel) rfl, KT_of (i := 982) (by decide +kernel) rfl, KT_of (i := 36) (by decide +kernel) rfl⟩
theorem flX4_41 : Cond.fieldLink RX4 41 RX4 "others" "[I" ∈ KT := KT_of (i := 189) (by decide +kernel) rfl
theorem lkX4_198 : Cond.methodLink RX4 198 Lib.Math.min.name ∈ KT := KT_in (by decide +kernel) rfl
theorem lkX4_134 : Cond.methodLink RX4 134 yX4_findByChange ∈ KT := KT_of (i := 478) (by decide +kernel) rfl
theorem wmX4_findByChange : MWv yX4_findByChange cX4_findByChange 7 (some .boolean) 2 := ⟨⟨by decide, by decide, by decide +kernel⟩, KT_of (i := 481) (by decide +kernel) rfl, KT_of (i := 60) (by decide +kernel) rfl, KT_of (i := 480) (by decide +kernel) rfl, KT_of (i := 9) (by decide +kernel) rfl⟩
theorem lkX5_199 : Cond.methodLink RX5 199 yX5_changed ∈ KT := KT_of (i := 1004) (by decide +kernel) rfl
theorem wmX5_changed : MWv yX5_changed cX5_changed 7 (some .int) 2 := ⟨⟨by decide, by decide, by decide +kernel⟩, KT_of (i := 1007) (by decide +kernel) rfl, KT_of (i := 65) (by decide +kernel) rfl, KT_of (i := 1006) (by decide +kernel) rfl, KT_of (i := 41) (by decide +kernel) rfl⟩
theorem lkX5_202 : Cond.methodLink RX5 202 yX5_byChangeOf ∈ KT := KT_of (i := 1000) (by decide +kernel) rfl
theorem wmX5_byChangeOf : MWv yX5_byChangeOf cX5_byChangeOf 3 (some .int) 2 := ⟨⟨by decide, by decide, by decide +kernel⟩, KT_of (i := 1003) (by decide +kernel) rfl, KT_of (i := 65) (by decide +kernel) rfl, KT_of (i := 1002) (by decide +kernel) rfl, KT_of (i := 40) (by decide +kernel) rfl⟩
theorem lkX4_140 : Cond.methodLink RX4 140 yX4_passesByMap ∈ KT := KT_of (i := 487) (by decide +kernel) rfl
theorem wmX4_passesByMap : MWv yX4_passesByMap cX4_passesByMap 3 (some .boolean) 2 := ⟨⟨by decide, by decide, by decide +kernel⟩, KT_of (i := 490) (by decide +kernel) rfl, KT_of (i := 60) (by decide +kernel) rfl, KT_of (i := 489) (by decide +kernel) rfl, KT_of (i := 10) (by decide +kernel) rfl⟩
theorem lkX4_143 : Cond.methodLink RX4 143 yX4_passesByChange ∈ KT := KT_of (i := 491) (by decide +kernel) rfl
theorem wmX4_passesByChange : MWv yX4_passesByChange cX4_passesByChange 3 (some .boolean) 2 := ⟨⟨by decide, by decide, by decide +kernel⟩, KT_of (i := 494) (by decide +kernel) rfl, KT_of (i := 60) (by decide +kernel) rfl, KT_of (i := 493) (by decide +kernel) rfl, KT_of (i := 11) (by decide +kernel) rfl⟩
theorem lkX5_205 : Cond.methodLink RX5 205 yX5_isTwo ∈ KT := KT_of (i := 1012) (by decide +kernel) rfl
theorem wmX5_isTwo : MWs yX5_isTwo cX5_isTwo 1 (some .boolean) 1 := ⟨⟨by decide, by decide, by decide +kernel⟩, KT_of (i := 1014) (by decide +kernel) rfl, KT_of (i := 65) (by decide +kernel) rfl, KT_of (i := 1013) (by decide +kernel) rfl⟩
theorem lkX5_208 : Cond.methodLink RX5 208 yX5_savedOf ∈ KT := KT_of (i := 1015) (by decide +kernel) rfl
theorem wmX5_savedOf : MWv yX5_savedOf cX5_savedOf 7 (some .int) 2 := ⟨⟨by decide, by decide, by decide +kernel⟩, KT_of (i := 1018) (by decide +kernel) rfl, KT_of (i := 65) (by decide +kernel) rfl, KT_of (i := 1017) (by decide +kernel) rfl, KT_of (i := 42) (by decide +kernel) rfl⟩
theorem lkX4_146 : Cond.methodLink RX4 146 yX4_isSounding ∈ KT := KT_of (i := 499) (by decide +kernel) rfl
theorem wmX4_isSounding : MWs yX4_isSounding cX4_isSounding 4 (some .boolean) 3 := ⟨⟨by decide, by decide, by decide +kernel⟩, KT_of (i := 501) (by decide +kernel) rfl, KT_of (i := 60) (by decide +kernel) rfl, KT_of (i := 500) (by decide +kernel) rfl⟩
theorem flX4_19 : Cond.fieldLink RX4 19 RX4 "soundings" "LDayOldMaps$Soundings;" ∈ KT := KT_of (i := 185) (by decide +kernel) rfl
theorem flX3_24 : Cond.fieldLink RX3 24 RX3 "size" "I" ∈ KT := KT_of (i := 131) (by decide +kernel) rfl
theorem flX3_11 : Cond.fieldLink RX3 11 RX3 "nights" "[I" ∈ KT := KT_of (i := 127) (by decide +kernel) rfl
theorem lkX3_28 : Cond.methodLinkNest RX3 28 yX4_putInto "DayOldMaps" ∈ KT := KT_of (i := 506) (by decide +kernel) rfl
theorem flX3_15 : Cond.fieldLink RX3 15 RX3 "places" "[I" ∈ KT := KT_of (i := 128) (by decide +kernel) rfl
theorem flX3_18 : Cond.fieldLink RX3 18 RX3 "deeps" "[I" ∈ KT := KT_of (i := 129) (by decide +kernel) rfl
theorem lkX4_150 : Cond.methodLink RX4 150 yX3_add ∈ KT := KT_of (i := 502) (by decide +kernel) rfl
theorem wmX3_add : MWv yX3_add cX3_add 4 (some .boolean) 3 := ⟨⟨by decide, by decide, by decide +kernel⟩, KT_of (i := 505) (by decide +kernel) rfl, KT_of (i := 62) (by decide +kernel) rfl, KT_of (i := 503) (by decide +kernel) rfl, KT_of (i := 504) (by decide +kernel) rfl⟩
theorem flX4_153 : Cond.fieldLinkNest RX4 153 RX3 "size" "I" "DayOldMaps" ∈ KT := KT_of (i := 132) (by decide +kernel) rfl
theorem kcX5_211 : Cond.constantLong RX5 211 (15) ∈ KT := KT_of (i := 1023) (by decide +kernel) rfl
theorem flX5_213 : Cond.fieldLink RX5 213 RX5 "soundings" "I" ∈ KT := KT_of (i := 747) (by decide +kernel) rfl
theorem flX5_37 : Cond.fieldLink RX5 37 RX5 "sounding" "[I" ∈ KT := KT_of (i := 748) (by decide +kernel) rfl
theorem lkX4_156 : Cond.methodLink RX4 156 yX3_drop ∈ KT := KT_of (i := 511) (by decide +kernel) rfl
theorem wmX3_drop : MWv yX3_drop cX3_drop 1 none 0 := ⟨⟨by decide, by decide, by decide +kernel⟩, KT_of (i := 514) (by decide +kernel) rfl, KT_of (i := 62) (by decide +kernel) rfl, KT_of (i := 512) (by decide +kernel) rfl, KT_of (i := 513) (by decide +kernel) rfl⟩
theorem flX4_32 : Cond.fieldLink RX4 32 RX4 "sheets" "[LDayOldMaps$Sheet;" ∈ KT := KT_of (i := 187) (by decide +kernel) rfl
theorem lkX4_159 : Cond.methodLink RX4 159 yX4_sheetAt ∈ KT := KT_of (i := 519) (by decide +kernel) rfl
theorem wmX4_sheetAt : MWv yX4_sheetAt cX4_sheetAt 2 (some (.object "DayOldMaps$Sheet")) 1 := ⟨⟨by decide, by decide, by decide +kernel⟩, KT_of (i := 522) (by decide +kernel) rfl, KT_of (i := 60) (by decide +kernel) rfl, KT_of (i := 521) (by decide +kernel) rfl, KT_of (i := 12) (by decide +kernel) rfl⟩
theorem flX2_15 : Cond.fieldLink RX2 15 RX2 "form" "I" ∈ KT := KT_of (i := 173) (by decide +kernel) rfl
theorem lkX4_163 : Cond.methodLink RX4 163 yX2_isLost ∈ KT := KT_of (i := 523) (by decide +kernel) rfl
theorem wmX2_isLost : MWv yX2_isLost cX2_isLost 1 (some .boolean) 0 := ⟨⟨by decide, by decide, by decide +kernel⟩, KT_of (i := 526) (by decide +kernel) rfl, KT_of (i := 64) (by decide +kernel) rfl, KT_of (i := 524) (by decide +kernel) rfl, KT_of (i := 525) (by decide +kernel) rfl⟩
theorem flX4_48 : Cond.fieldLink RX4 48 RX4 "finding" "I" ∈ KT := KT_of (i := 191) (by decide +kernel) rfl
theorem lkX4_166 : Cond.methodLink RX4 166 yX4_found ∈ KT := KT_of (i := 527) (by decide +kernel) rfl
theorem wmX4_found : MWv yX4_found cX4_found 2 (some .int) 1 := ⟨⟨by decide, by decide, by decide +kernel⟩, KT_of (i := 530) (by decide +kernel) rfl, KT_of (i := 60) (by decide +kernel) rfl, KT_of (i := 529) (by decide +kernel) rfl, KT_of (i := 13) (by decide +kernel) rfl⟩
theorem flX4_169 : Cond.fieldLinkNest RX4 169 RX2 "size" "I" "DayOldMaps" ∈ KT := KT_of (i := 176) (by decide +kernel) rfl
theorem flX2_19 : Cond.fieldLink RX2 19 RX2 "size" "I" ∈ KT := KT_of (i := 175) (by decide +kernel) rfl
theorem flX2_9 : Cond.fieldLink RX2 9 RX2 "items" "[I" ∈ KT := KT_of (i := 171) (by decide +kernel) rfl
theorem lkX2_28 : Cond.methodLinkNest RX2 28 yX4_itemOf "DayOldMaps" ∈ KT := KT_of (i := 535) (by decide +kernel) rfl
theorem lkX4_170 : Cond.methodLink RX4 170 yX2_itemAt ∈ KT := KT_of (i := 531) (by decide +kernel) rfl
theorem wmX2_itemAt : MWv yX2_itemAt cX2_itemAt 2 (some .int) 1 := ⟨⟨by decide, by decide, by decide +kernel⟩, KT_of (i := 534) (by decide +kernel) rfl, KT_of (i := 64) (by decide +kernel) rfl, KT_of (i := 532) (by decide +kernel) rfl, KT_of (i := 533) (by decide +kernel) rfl⟩
theorem kcX5_65 : Cond.constantLong RX5 65 (3) ∈ KT := KT_of (i := 803) (by decide +kernel) rfl
theorem lkX5_67 : Cond.methodLink RX5 67 yX5_isSheet ∈ KT := KT_of (i := 800) (by decide +kernel) rfl
theorem wmX5_isSheet : MWs yX5_isSheet cX5_isSheet 1 (some .boolean) 1 := ⟨⟨by decide, by decide, by decide +kernel⟩, KT_of (i := 802) (by decide +kernel) rfl, KT_of (i := 65) (by decide +kernel) rfl, KT_of (i := 801) (by decide +kernel) rfl⟩
theorem flX5_7 : Cond.fieldLink RX5 7 RX5 "forms" "[I" ∈ KT := KT_of (i := 731) (by decide +kernel) rfl
theorem flX5_62 : Cond.fieldLink RX5 62 RX5 "latest" "I" ∈ KT := KT_of (i := 735) (by decide +kernel) rfl
theorem lkX5_73 : Cond.methodLink RX5 73 yX5_met ∈ KT := KT_of (i := 808) (by decide +kernel) rfl
theorem wmX5_met : MWv yX5_met cX5_met 2 (some .int) 1 := ⟨⟨by decide, by decide, by decide +kernel⟩, KT_of (i := 811) (by decide +kernel) rfl, KT_of (i := 65) (by decide +kernel) rfl, KT_of (i := 810) (by decide +kernel) rfl, KT_of (i := 20) (by decide +kernel) rfl⟩
theorem flX5_13 : Cond.fieldLink RX5 13 RX5 "sizes" "[I" ∈ KT := KT_of (i := 732) (by decide +kernel) rfl
theorem flX5_16 : Cond.fieldLink RX5 16 RX5 "items" "[I" ∈ KT := KT_of (i := 733) (by decide +kernel) rfl
theorem lkX5_216 : Cond.methodLink RX5 216 yX5_sounded ∈ KT := KT_of (i := 1032) (by decide +kernel) rfl
theorem wmX5_sounded : MWv yX5_sounded cX5_sounded 4 (some .int) 3 := ⟨⟨by decide, by decide, by decide +kernel⟩, KT_of (i := 1022) (by decide +kernel) rfl, KT_of (i := 65) (by decide +kernel) rfl, KT_of (i := 1020) (by decide +kernel) rfl, KT_of (i := 1021) (by decide +kernel) rfl⟩
theorem lkX3_36 : Cond.methodLinkNest RX3 36 yX4_itemOf "DayOldMaps" ∈ KT := KT_of (i := 548) (by decide +kernel) rfl
theorem lkX3_44 : Cond.methodLinkNest RX3 44 yX4_shifted "DayOldMaps" ∈ KT := KT_of (i := 552) (by decide +kernel) rfl
theorem lkX3_40 : Cond.methodLink RX3 40 yX3_depthBy ∈ KT := KT_of (i := 549) (by decide +kernel) rfl
theorem wmX3_depthBy : MWs yX3_depthBy cX3_depthBy 5 (some .int) 3 := ⟨⟨by decide, by decide, by decide +kernel⟩, KT_of (i := 551) (by decide +kernel) rfl, KT_of (i := 62) (by decide +kernel) rfl, KT_of (i := 550) (by decide +kernel) rfl⟩
theorem lkX3_32 : Cond.methodLink RX3 32 yX3_isFitting ∈ KT := KT_of (i := 544) (by decide +kernel) rfl
theorem wmX3_isFitting : MWv yX3_isFitting cX3_isFitting 6 (some .boolean) 3 := ⟨⟨by decide, by decide, by decide +kernel⟩, KT_of (i := 547) (by decide +kernel) rfl, KT_of (i := 62) (by decide +kernel) rfl, KT_of (i := 546) (by decide +kernel) rfl, KT_of (i := 14) (by decide +kernel) rfl⟩
theorem lkX4_173 : Cond.methodLink RX4 173 yX3_fitting ∈ KT := KT_of (i := 540) (by decide +kernel) rfl
theorem wmX3_fitting : MWv yX3_fitting cX3_fitting 6 (some .long) 2 := ⟨⟨by decide, by decide, by decide +kernel⟩, KT_of (i := 543) (by decide +kernel) rfl, KT_of (i := 62) (by decide +kernel) rfl, KT_of (i := 541) (by decide +kernel) rfl, KT_of (i := 542) (by decide +kernel) rfl⟩
theorem kcJ13_314 : Cond.constantLong RJ13 314 (6148914691236517205) ∈ KT := KT_of (i := 556) (by decide +kernel) rfl
theorem kcJ13_316 : Cond.constantLong RJ13 316 (3689348814741910323) ∈ KT := KT_of (i := 557) (by decide +kernel) rfl
theorem kcJ13_318 : Cond.constantLong RJ13 318 (1085102592571150095) ∈ KT := KT_of (i := 558) (by decide +kernel) rfl
theorem lkX4_177 : Cond.methodLink RX4 177 yJ13_bitCount_95d88 ∈ KT := KT_of (i := 553) (by decide +kernel) rfl
theorem wmJ13_bitCount_95d88 : MWs yJ13_bitCount_95d88 cJ13_bitCount_95d88 2 (some .int) 1 := ⟨⟨by decide, by decide, by decide +kernel⟩, KT_of (i := 555) (by decide +kernel) rfl, KT_of (i := 73) (by decide +kernel) rfl, KT_of (i := 554) (by decide +kernel) rfl⟩
theorem lkX3_48 : Cond.methodLink RX3 48 yX3_isAmong ∈ KT := KT_of (i := 562) (by decide +kernel) rfl
theorem wmX3_isAmong : MWs yX3_isAmong cX3_isAmong 3 (some .boolean) 2 := ⟨⟨by decide, by decide, by decide +kernel⟩, KT_of (i := 564) (by decide +kernel) rfl, KT_of (i := 62) (by decide +kernel) rfl, KT_of (i := 563) (by decide +kernel) rfl⟩
theorem lkX4_183 : Cond.methodLink RX4 183 yX3_lawAt ∈ KT := KT_of (i := 559) (by decide +kernel) rfl
theorem wmX3_lawAt : MWs yX3_lawAt cX3_lawAt 5 (some .int) 2 := ⟨⟨by decide, by decide, by decide +kernel⟩, KT_of (i := 561) (by decide +kernel) rfl, KT_of (i := 62) (by decide +kernel) rfl, KT_of (i := 560) (by decide +kernel) rfl⟩
theorem kcX5_222 : Cond.constantLong RX5 222 (35) ∈ KT := KT_of (i := 1037) (by decide +kernel) rfl
theorem lkX5_219 : Cond.methodLink RX5 219 yX5_fits ∈ KT := KT_of (i := 1042) (by decide +kernel) rfl
theorem wmX5_fits : MWv yX5_fits cX5_fits 6 (some .boolean) 2 := ⟨⟨by decide, by decide, by decide +kernel⟩, KT_of (i := 1045) (by decide +kernel) rfl, KT_of (i := 65) (by decide +kernel) rfl, KT_of (i := 1044) (by decide +kernel) rfl, KT_of (i := 44) (by decide +kernel) rfl⟩
theorem lkX5_224 : Cond.methodLink RX5 224 yX5_lawsOf ∈ KT := KT_of (i := 1038) (by decide +kernel) rfl
theorem wmX5_lawsOf : MWv yX5_lawsOf cX5_lawsOf 5 (some .int) 2 := ⟨⟨by decide, by decide, by decide +kernel⟩, KT_of (i := 1041) (by decide +kernel) rfl, KT_of (i := 65) (by decide +kernel) rfl, KT_of (i := 1040) (by decide +kernel) rfl, KT_of (i := 43) (by decide +kernel) rfl⟩
theorem lkX4_187 : Cond.methodLink RX4 187 yX3_depthBits ∈ KT := KT_of (i := 569) (by decide +kernel) rfl
theorem wmX3_depthBits : MWs yX3_depthBits cX3_depthBits 6 (some .int) 3 := ⟨⟨by decide, by decide, by decide +kernel⟩, KT_of (i := 571) (by decide +kernel) rfl, KT_of (i := 62) (by decide +kernel) rfl, KT_of (i := 570) (by decide +kernel) rfl⟩
theorem lkX5_227 : Cond.methodLink RX5 227 yX5_nextOf ∈ KT := KT_of (i := 1050) (by decide +kernel) rfl
theorem wmX5_nextOf : MWv yX5_nextOf cX5_nextOf 5 (some .int) 2 := ⟨⟨by decide, by decide, by decide +kernel⟩, KT_of (i := 1053) (by decide +kernel) rfl, KT_of (i := 65) (by decide +kernel) rfl, KT_of (i := 1052) (by decide +kernel) rfl, KT_of (i := 45) (by decide +kernel) rfl⟩
theorem flX3_21 : Cond.fieldLink RX3 21 RX3 "alike" "[I" ∈ KT := KT_of (i := 130) (by decide +kernel) rfl
theorem lkX3_52 : Cond.methodLink RX3 52 yJ7_fill_53178 ∈ KT := KT_of (i := 580) (by decide +kernel) rfl
theorem lkX3_58 : Cond.methodLink RX3 58 Lib.Math.max.name ∈ KT := KT_in (by decide +kernel) rfl
theorem lkX4_191 : Cond.methodLink RX4 191 yX3_mostAlike ∈ KT := KT_of (i := 576) (by decide +kernel) rfl
theorem wmX3_mostAlike : MWv yX3_mostAlike cX3_mostAlike 9 (some .int) 3 := ⟨⟨by decide, by decide, by decide +kernel⟩, KT_of (i := 579) (by decide +kernel) rfl, KT_of (i := 62) (by decide +kernel) rfl, KT_of (i := 577) (by decide +kernel) rfl, KT_of (i := 578) (by decide +kernel) rfl⟩
theorem flX5_40 : Cond.fieldLink RX5 40 RX5 "fitting" "[Z" ∈ KT := KT_of (i := 749) (by decide +kernel) rfl
theorem flX5_44 : Cond.fieldLink RX5 44 RX5 "alike" "[I" ∈ KT := KT_of (i := 750) (by decide +kernel) rfl
theorem lkX5_230 : Cond.methodLink RX5 230 yX5_mostAlike ∈ KT := KT_of (i := 1062) (by decide +kernel) rfl
theorem wmX5_mostAlike : MWv yX5_mostAlike cX5_mostAlike 6 (some .int) 2 := ⟨⟨by decide, by decide, by decide +kernel⟩, KT_of (i := 1065) (by decide +kernel) rfl, KT_of (i := 65) (by decide +kernel) rfl, KT_of (i := 1064) (by decide +kernel) rfl, KT_of (i := 47) (by decide +kernel) rfl⟩
theorem lkX5_233 : Cond.methodLink RX5 233 yX5_tellsNight ∈ KT := KT_of (i := 1058) (by decide +kernel) rfl
theorem wmX5_tellsNight : MWv yX5_tellsNight cX5_tellsNight 7 (some .int) 2 := ⟨⟨by decide, by decide, by decide +kernel⟩, KT_of (i := 1061) (by decide +kernel) rfl, KT_of (i := 65) (by decide +kernel) rfl, KT_of (i := 1060) (by decide +kernel) rfl, KT_of (i := 46) (by decide +kernel) rfl⟩
theorem lkX5_236 : Cond.methodLink RX5 236 yX5_wreckOf ∈ KT := KT_of (i := 1070) (by decide +kernel) rfl
theorem wmX5_wreckOf : MWv yX5_wreckOf cX5_wreckOf 7 (some .int) 3 := ⟨⟨by decide, by decide, by decide +kernel⟩, KT_of (i := 1073) (by decide +kernel) rfl, KT_of (i := 65) (by decide +kernel) rfl, KT_of (i := 1072) (by decide +kernel) rfl, KT_of (i := 48) (by decide +kernel) rfl⟩
theorem lkX4_194 : Cond.methodLink RX4 194 yX4_inLowestTerms ∈ KT := KT_of (i := 590) (by decide +kernel) rfl
theorem wmX4_inLowestTerms : MWs yX4_inLowestTerms cX4_inLowestTerms 6 (some .int) 3 := ⟨⟨by decide, by decide, by decide +kernel⟩, KT_of (i := 592) (by decide +kernel) rfl, KT_of (i := 60) (by decide +kernel) rfl, KT_of (i := 591) (by decide +kernel) rfl⟩
theorem lkX5_239 : Cond.methodLink RX5 239 yX5_common ∈ KT := KT_of (i := 1082) (by decide +kernel) rfl
theorem wmX5_common : MWs yX5_common cX5_common 5 (some .int) 2 := ⟨⟨by decide, by decide, by decide +kernel⟩, KT_of (i := 1084) (by decide +kernel) rfl, KT_of (i := 65) (by decide +kernel) rfl, KT_of (i := 1083) (by decide +kernel) rfl⟩
theorem lkX5_242 : Cond.methodLink RX5 242 yX5_throughOf ∈ KT := KT_of (i := 1078) (by decide +kernel) rfl
theorem wmX5_throughOf : MWv yX5_throughOf cX5_throughOf 5 (some .int) 3 := ⟨⟨by decide, by decide, by decide +kernel⟩, KT_of (i := 1081) (by decide +kernel) rfl, KT_of (i := 65) (by decide +kernel) rfl, KT_of (i := 1080) (by decide +kernel) rfl, KT_of (i := 49) (by decide +kernel) rfl⟩
theorem lkX5_245 : Cond.methodLink RX5 245 yX5_sureOf ∈ KT := KT_of (i := 1089) (by decide +kernel) rfl
theorem wmX5_sureOf : MWv yX5_sureOf cX5_sureOf 4 (some .int) 3 := ⟨⟨by decide, by decide, by decide +kernel⟩, KT_of (i := 1092) (by decide +kernel) rfl, KT_of (i := 65) (by decide +kernel) rfl, KT_of (i := 1091) (by decide +kernel) rfl, KT_of (i := 50) (by decide +kernel) rfl⟩
theorem kcX1_55 : Cond.constant RX1 55 (1048576) ∈ KT := KT_of (i := 609) (by decide +kernel) rfl
theorem lkX4_330 : Cond.methodLink RX4 330 yX1_findLikeliest ∈ KT := KT_of (i := 605) (by decide +kernel) rfl
theorem wmX1_findLikeliest : MWv yX1_findLikeliest cX1_findLikeliest 8 (some .int) 2 := ⟨⟨by decide, by decide, by decide +kernel⟩, KT_of (i := 608) (by decide +kernel) rfl, KT_of (i := 63) (by decide +kernel) rfl, KT_of (i := 606) (by decide +kernel) rfl, KT_of (i := 607) (by decide +kernel) rfl⟩
theorem lkX4_203 : Cond.methodLink RX4 203 yX4_findSafest ∈ KT := KT_of (i := 601) (by decide +kernel) rfl
theorem wmX4_findSafest : MWv yX4_findSafest cX4_findSafest 5 (some .int) 2 := ⟨⟨by decide, by decide, by decide +kernel⟩, KT_of (i := 604) (by decide +kernel) rfl, KT_of (i := 60) (by decide +kernel) rfl, KT_of (i := 603) (by decide +kernel) rfl, KT_of (i := 15) (by decide +kernel) rfl⟩
theorem kcX4_206 : Cond.constant RX4 206 (1048576) ∈ KT := KT_of (i := 610) (by decide +kernel) rfl
theorem kcX5_262 : Cond.constantLong RX5 262 (-2) ∈ KT := KT_of (i := 1097) (by decide +kernel) rfl
theorem flX5_47 : Cond.fieldLink RX5 47 RX5 "best" "[I" ∈ KT := KT_of (i := 751) (by decide +kernel) rfl
theorem kcX5_251 : Cond.constant RX5 251 (1048576) ∈ KT := KT_of (i := 1106) (by decide +kernel) rfl
theorem lkX5_248 : Cond.methodLink RX5 248 yX5_weigh ∈ KT := KT_of (i := 1111) (by decide +kernel) rfl
theorem wmX5_weigh : MWv yX5_weigh cX5_weigh 5 (some .int) 3 := ⟨⟨by decide, by decide, by decide +kernel⟩, KT_of (i := 1114) (by decide +kernel) rfl, KT_of (i := 65) (by decide +kernel) rfl, KT_of (i := 1113) (by decide +kernel) rfl, KT_of (i := 54) (by decide +kernel) rfl⟩
theorem lkX5_252 : Cond.methodLink RX5 252 yX5_onBy ∈ KT := KT_of (i := 1107) (by decide +kernel) rfl
theorem wmX5_onBy : MWv yX5_onBy cX5_onBy 5 (some .int) 3 := ⟨⟨by decide, by decide, by decide +kernel⟩, KT_of (i := 1110) (by decide +kernel) rfl, KT_of (i := 65) (by decide +kernel) rfl, KT_of (i := 1109) (by decide +kernel) rfl, KT_of (i := 53) (by decide +kernel) rfl⟩
theorem lkX5_255 : Cond.methodLink RX5 255 yX5_findSafest ∈ KT := KT_of (i := 1102) (by decide +kernel) rfl
theorem wmX5_findSafest : MWv yX5_findSafest cX5_findSafest 7 none 2 := ⟨⟨by decide, by decide, by decide +kernel⟩, KT_of (i := 1105) (by decide +kernel) rfl, KT_of (i := 65) (by decide +kernel) rfl, KT_of (i := 1104) (by decide +kernel) rfl, KT_of (i := 52) (by decide +kernel) rfl⟩
theorem lkX5_259 : Cond.methodLink RX5 259 yX5_tellsSafest ∈ KT := KT_of (i := 1115) (by decide +kernel) rfl
theorem wmX5_tellsSafest : MWv yX5_tellsSafest cX5_tellsSafest 4 (some .int) 1 := ⟨⟨by decide, by decide, by decide +kernel⟩, KT_of (i := 1118) (by decide +kernel) rfl, KT_of (i := 65) (by decide +kernel) rfl, KT_of (i := 1117) (by decide +kernel) rfl, KT_of (i := 55) (by decide +kernel) rfl⟩
theorem lkX5_264 : Cond.methodLink RX5 264 yX5_safestOf ∈ KT := KT_of (i := 1098) (by decide +kernel) rfl
theorem wmX5_safestOf : MWv yX5_safestOf cX5_safestOf 4 (some .int) 3 := ⟨⟨by decide, by decide, by decide +kernel⟩, KT_of (i := 1101) (by decide +kernel) rfl, KT_of (i := 65) (by decide +kernel) rfl, KT_of (i := 1100) (by decide +kernel) rfl, KT_of (i := 51) (by decide +kernel) rfl⟩
theorem lkX5_267 : Cond.methodLink RX5 267 yX5_worthOf ∈ KT := KT_of (i := 1123) (by decide +kernel) rfl
theorem wmX5_worthOf : MWv yX5_worthOf cX5_worthOf 6 (some .int) 2 := ⟨⟨by decide, by decide, by decide +kernel⟩, KT_of (i := 1126) (by decide +kernel) rfl, KT_of (i := 65) (by decide +kernel) rfl, KT_of (i := 1125) (by decide +kernel) rfl, KT_of (i := 56) (by decide +kernel) rfl⟩
theorem kcX4_207 : Cond.constant RX4 207 (1103515245) ∈ KT := KT_of (i := 619) (by decide +kernel) rfl
theorem kcX5_271 : Cond.constantLong RX5 271 (40) ∈ KT := KT_of (i := 1131) (by decide +kernel) rfl
theorem kcX5_270 : Cond.constant RX5 270 (1103515245) ∈ KT := KT_of (i := 1136) (by decide +kernel) rfl
theorem lkX5_273 : Cond.methodLink RX5 273 yX5_seasonOf ∈ KT := KT_of (i := 1132) (by decide +kernel) rfl
theorem wmX5_seasonOf : MWv yX5_seasonOf cX5_seasonOf 9 (some .int) 4 := ⟨⟨by decide, by decide, by decide +kernel⟩, KT_of (i := 1135) (by decide +kernel) rfl, KT_of (i := 65) (by decide +kernel) rfl, KT_of (i := 1134) (by decide +kernel) rfl, KT_of (i := 57) (by decide +kernel) rfl⟩
theorem lkX4_208 : Cond.methodLink RX4 208 yX4_isForm ∈ KT := KT_of (i := 624) (by decide +kernel) rfl
theorem wmX4_isForm : MWs yX4_isForm cX4_isForm 1 (some .boolean) 1 := ⟨⟨by decide, by decide, by decide +kernel⟩, KT_of (i := 626) (by decide +kernel) rfl, KT_of (i := 60) (by decide +kernel) rfl, KT_of (i := 625) (by decide +kernel) rfl⟩
theorem lkX2_22 : Cond.methodLink RX2 22 yJ7_fill_53178 ∈ KT := KT_of (i := 631) (by decide +kernel) rfl
theorem lkX4_211 : Cond.methodLink RX4 211 yX2_renew ∈ KT := KT_of (i := 627) (by decide +kernel) rfl
theorem wmX2_renew : MWv yX2_renew cX2_renew 3 none 2 := ⟨⟨by decide, by decide, by decide +kernel⟩, KT_of (i := 630) (by decide +kernel) rfl, KT_of (i := 64) (by decide +kernel) rfl, KT_of (i := 628) (by decide +kernel) rfl, KT_of (i := 629) (by decide +kernel) rfl⟩
theorem kcX5_71 : Cond.constantLong RX5 71 (2) ∈ KT := KT_of (i := 807) (by decide +kernel) rfl
theorem flX4_223 : Cond.fieldLinkNest RX4 223 RX2 "form" "I" "DayOldMaps" ∈ KT := KT_of (i := 174) (by decide +kernel) rfl
theorem lkX4_226 : Cond.methodLink RX4 226 yX2_hasItems ∈ KT := KT_of (i := 644) (by decide +kernel) rfl
theorem wmX2_hasItems : MWv yX2_hasItems cX2_hasItems 3 (some .boolean) 2 := ⟨⟨by decide, by decide, by decide +kernel⟩, KT_of (i := 647) (by decide +kernel) rfl, KT_of (i := 64) (by decide +kernel) rfl, KT_of (i := 645) (by decide +kernel) rfl, KT_of (i := 646) (by decide +kernel) rfl⟩
theorem lkX4_215 : Cond.methodLink RX4 215 yX4_refusalOfItem ∈ KT := KT_of (i := 640) (by decide +kernel) rfl
theorem wmX4_refusalOfItem : MWv yX4_refusalOfItem cX4_refusalOfItem 4 (some .int) 3 := ⟨⟨by decide, by decide, by decide +kernel⟩, KT_of (i := 643) (by decide +kernel) rfl, KT_of (i := 60) (by decide +kernel) rfl, KT_of (i := 642) (by decide +kernel) rfl, KT_of (i := 16) (by decide +kernel) rfl⟩
theorem lkX2_32 : Cond.methodLinkNest RX2 32 yX4_putInto "DayOldMaps" ∈ KT := KT_of (i := 652) (by decide +kernel) rfl
theorem lkX4_219 : Cond.methodLink RX4 219 yX2_put ∈ KT := KT_of (i := 648) (by decide +kernel) rfl
theorem wmX2_put : MWv yX2_put cX2_put 3 none 2 := ⟨⟨by decide, by decide, by decide +kernel⟩, KT_of (i := 651) (by decide +kernel) rfl, KT_of (i := 64) (by decide +kernel) rfl, KT_of (i := 649) (by decide +kernel) rfl, KT_of (i := 650) (by decide +kernel) rfl⟩
theorem lkX5_77 : Cond.methodLink RX5 77 yX5_lacks ∈ KT := KT_of (i := 820) (by decide +kernel) rfl
theorem wmX5_lacks : MWv yX5_lacks cX5_lacks 4 (some .int) 3 := ⟨⟨by decide, by decide, by decide +kernel⟩, KT_of (i := 823) (by decide +kernel) rfl, KT_of (i := 65) (by decide +kernel) rfl, KT_of (i := 822) (by decide +kernel) rfl, KT_of (i := 21) (by decide +kernel) rfl⟩
theorem lkX5_81 : Cond.methodLink RX5 81 yX5_cut ∈ KT := KT_of (i := 824) (by decide +kernel) rfl
theorem wmX5_cut : MWs yX5_cut cX5_cut 2 (some .int) 2 := ⟨⟨by decide, by decide, by decide +kernel⟩, KT_of (i := 826) (by decide +kernel) rfl, KT_of (i := 65) (by decide +kernel) rfl, KT_of (i := 825) (by decide +kernel) rfl⟩
theorem kcX4_222 : Cond.constant RX4 222 (-2147483648) ∈ KT := KT_of (i := 657) (by decide +kernel) rfl
theorem kcX5_84 : Cond.constant RX5 84 (-2147483648) ∈ KT := KT_of (i := 831) (by decide +kernel) rfl
theorem flX4_229 : Cond.fieldLinkNest RX4 229 RX2 "items" "[I" "DayOldMaps" ∈ KT := KT_of (i := 172) (by decide +kernel) rfl
theorem wC_n : Cond.native arraycopyName ∈ KT := KT_in (by decide +kernel) rfl
theorem wC_s : Cond.static arraycopyName ∈ KT := KT_in (by decide +kernel) rfl
theorem wC_i : Cond.initialized "java/lang/System" ∈ KT := KT_in (by decide +kernel) rfl
theorem lkX4_232 : Cond.methodLink RX4 232 arraycopyName ∈ KT := KT_in (by decide +kernel) rfl
theorem flX5_19 : Cond.fieldLink RX5 19 RX5 "moved" "[I" ∈ KT := KT_of (i := 734) (by decide +kernel) rfl
theorem lkX4_238 : Cond.methodLink RX4 238 yX4_map ∈ KT := KT_of (i := 669) (by decide +kernel) rfl
theorem wmX4_map : MWv yX4_map cX4_map 3 (some .int) 2 := ⟨⟨by decide, by decide, by decide +kernel⟩, KT_of (i := 407) (by decide +kernel) rfl, KT_of (i := 60) (by decide +kernel) rfl, KT_of (i := 405) (by decide +kernel) rfl, KT_of (i := 406) (by decide +kernel) rfl⟩
theorem lkX4_248 : Cond.methodLink RX4 248 yX4_allRows ∈ KT := KT_of (i := 682) (by decide +kernel) rfl
theorem wmX4_allRows : MWv yX4_allRows cX4_allRows 1 (some .int) 0 := ⟨⟨by decide, by decide, by decide +kernel⟩, KT_of (i := 685) (by decide +kernel) rfl, KT_of (i := 60) (by decide +kernel) rfl, KT_of (i := 684) (by decide +kernel) rfl, KT_of (i := 17) (by decide +kernel) rfl⟩
theorem lkX4_245 : Cond.methodLink RX4 245 yX0_jumping ∈ KT := KT_of (i := 678) (by decide +kernel) rfl
theorem wmX0_jumping : MWv yX0_jumping cX0_jumping 3 (some .int) 0 := ⟨⟨by decide, by decide, by decide +kernel⟩, KT_of (i := 681) (by decide +kernel) rfl, KT_of (i := 61) (by decide +kernel) rfl, KT_of (i := 679) (by decide +kernel) rfl, KT_of (i := 680) (by decide +kernel) rfl⟩
theorem lkX4_241 : Cond.methodLink RX4 241 yX0_toldTogether ∈ KT := KT_of (i := 674) (by decide +kernel) rfl
theorem wmX0_toldTogether : MWv yX0_toldTogether cX0_toldTogether 3 (some .int) 0 := ⟨⟨by decide, by decide, by decide +kernel⟩, KT_of (i := 677) (by decide +kernel) rfl, KT_of (i := 61) (by decide +kernel) rfl, KT_of (i := 675) (by decide +kernel) rfl, KT_of (i := 676) (by decide +kernel) rfl⟩
theorem kcX5_276 : Cond.constant RX5 276 (65535) ∈ KT := KT_of (i := 1145) (by decide +kernel) rfl
theorem kcX4_251 : Cond.constantLong RX4 251 (17) ∈ KT := KT_of (i := 690) (by decide +kernel) rfl
theorem lkX4_253 : Cond.methodLink RX4 253 yX4_count ∈ KT := KT_of (i := 691) (by decide +kernel) rfl
theorem wmX4_count : MWv yX4_count cX4_count 2 (some .int) 1 := ⟨⟨by decide, by decide, by decide +kernel⟩, KT_of (i := 673) (by decide +kernel) rfl, KT_of (i := 60) (by decide +kernel) rfl, KT_of (i := 671) (by decide +kernel) rfl, KT_of (i := 672) (by decide +kernel) rfl⟩
theorem kcX4_324 : Cond.constantLong RX4 324 (31) ∈ KT := KT_of (i := 695) (by decide +kernel) rfl
theorem lkX4_256 : Cond.methodLink RX4 256 yX4_mix ∈ KT := KT_of (i := 692) (by decide +kernel) rfl
theorem wmX4_mix : MWs yX4_mix cX4_mix 3 (some .long) 2 := ⟨⟨by decide, by decide, by decide +kernel⟩, KT_of (i := 694) (by decide +kernel) rfl, KT_of (i := 60) (by decide +kernel) rfl, KT_of (i := 693) (by decide +kernel) rfl⟩
theorem lkX4_260 : Cond.methodLink RX4 260 yX4_fault ∈ KT := KT_of (i := 696) (by decide +kernel) rfl
theorem wmX4_fault : MWv yX4_fault cX4_fault 1 (some .int) 0 := ⟨⟨by decide, by decide, by decide +kernel⟩, KT_of (i := 356) (by decide +kernel) rfl, KT_of (i := 60) (by decide +kernel) rfl, KT_of (i := 354) (by decide +kernel) rfl, KT_of (i := 355) (by decide +kernel) rfl⟩
theorem lkX4_285 : Cond.methodLink RX4 285 yX4_channel ∈ KT := KT_of (i := 701) (by decide +kernel) rfl
theorem wmX4_channel : MWv yX4_channel cX4_channel 3 (some .int) 2 := ⟨⟨by decide, by decide, by decide +kernel⟩, KT_of (i := 360) (by decide +kernel) rfl, KT_of (i := 60) (by decide +kernel) rfl, KT_of (i := 358) (by decide +kernel) rfl, KT_of (i := 359) (by decide +kernel) rfl⟩
theorem lkX4_288 : Cond.methodLink RX4 288 yX4_laws ∈ KT := KT_of (i := 702) (by decide +kernel) rfl
theorem wmX4_laws : MWv yX4_laws cX4_laws 5 (some .int) 2 := ⟨⟨by decide, by decide, by decide +kernel⟩, KT_of (i := 539) (by decide +kernel) rfl, KT_of (i := 60) (by decide +kernel) rfl, KT_of (i := 537) (by decide +kernel) rfl, KT_of (i := 538) (by decide +kernel) rfl⟩
theorem lkX4_291 : Cond.methodLink RX4 291 yX4_next ∈ KT := KT_of (i := 703) (by decide +kernel) rfl
theorem wmX4_next : MWv yX4_next cX4_next 4 (some .int) 2 := ⟨⟨by decide, by decide, by decide +kernel⟩, KT_of (i := 568) (by decide +kernel) rfl, KT_of (i := 60) (by decide +kernel) rfl, KT_of (i := 566) (by decide +kernel) rfl, KT_of (i := 567) (by decide +kernel) rfl⟩
theorem lkX4_294 : Cond.methodLink RX4 294 yX4_tells ∈ KT := KT_of (i := 704) (by decide +kernel) rfl
theorem wmX4_tells : MWv yX4_tells cX4_tells 10 (some .int) 2 := ⟨⟨by decide, by decide, by decide +kernel⟩, KT_of (i := 575) (by decide +kernel) rfl, KT_of (i := 60) (by decide +kernel) rfl, KT_of (i := 573) (by decide +kernel) rfl, KT_of (i := 574) (by decide +kernel) rfl⟩
theorem lkX4_263 : Cond.methodLink RX4 263 yX4_digestChannel ∈ KT := KT_of (i := 697) (by decide +kernel) rfl
theorem wmX4_digestChannel : MWv yX4_digestChannel cX4_digestChannel 7 (some .long) 2 := ⟨⟨by decide, by decide, by decide +kernel⟩, KT_of (i := 700) (by decide +kernel) rfl, KT_of (i := 60) (by decide +kernel) rfl, KT_of (i := 699) (by decide +kernel) rfl, KT_of (i := 18) (by decide +kernel) rfl⟩
theorem flX4_266 : Cond.fieldLink RX4 266 RX4 "DIGEST_NIGHTS" "[I" ∈ KT := KT_of (i := 705) (by decide +kernel) rfl
theorem lkX4_297 : Cond.methodLink RX4 297 yX4_draft ∈ KT := KT_of (i := 711) (by decide +kernel) rfl
theorem wmX4_draft : MWv yX4_draft cX4_draft 3 (some .int) 1 := ⟨⟨by decide, by decide, by decide +kernel⟩, KT_of (i := 453) (by decide +kernel) rfl, KT_of (i := 60) (by decide +kernel) rfl, KT_of (i := 451) (by decide +kernel) rfl, KT_of (i := 452) (by decide +kernel) rfl⟩
theorem flX4_272 : Cond.fieldLink RX4 272 RX4 "DIGEST_DRAUGHTS" "[I" ∈ KT := KT_of (i := 712) (by decide +kernel) rfl
theorem lkX4_300 : Cond.methodLink RX4 300 yX4_ways ∈ KT := KT_of (i := 714) (by decide +kernel) rfl
theorem wmX4_ways : MWv yX4_ways cX4_ways 4 (some .int) 3 := ⟨⟨by decide, by decide, by decide +kernel⟩, KT_of (i := 416) (by decide +kernel) rfl, KT_of (i := 60) (by decide +kernel) rfl, KT_of (i := 414) (by decide +kernel) rfl, KT_of (i := 415) (by decide +kernel) rfl⟩
theorem lkX4_303 : Cond.methodLink RX4 303 yX4_waits ∈ KT := KT_of (i := 715) (by decide +kernel) rfl
theorem wmX4_waits : MWv yX4_waits cX4_waits 4 (some .int) 2 := ⟨⟨by decide, by decide, by decide +kernel⟩, KT_of (i := 457) (by decide +kernel) rfl, KT_of (i := 60) (by decide +kernel) rfl, KT_of (i := 455) (by decide +kernel) rfl, KT_of (i := 456) (by decide +kernel) rfl⟩
theorem lkX4_306 : Cond.methodLink RX4 306 yX4_byMap ∈ KT := KT_of (i := 716) (by decide +kernel) rfl
theorem wmX4_byMap : MWv yX4_byMap cX4_byMap 3 (some .int) 2 := ⟨⟨by decide, by decide, by decide +kernel⟩, KT_of (i := 465) (by decide +kernel) rfl, KT_of (i := 60) (by decide +kernel) rfl, KT_of (i := 463) (by decide +kernel) rfl, KT_of (i := 464) (by decide +kernel) rfl⟩
theorem lkX4_309 : Cond.methodLink RX4 309 yX4_byChange ∈ KT := KT_of (i := 717) (by decide +kernel) rfl
theorem wmX4_byChange : MWv yX4_byChange cX4_byChange 3 (some .int) 2 := ⟨⟨by decide, by decide, by decide +kernel⟩, KT_of (i := 477) (by decide +kernel) rfl, KT_of (i := 60) (by decide +kernel) rfl, KT_of (i := 475) (by decide +kernel) rfl, KT_of (i := 476) (by decide +kernel) rfl⟩
theorem lkX4_312 : Cond.methodLink RX4 312 yX4_through ∈ KT := KT_of (i := 718) (by decide +kernel) rfl
theorem wmX4_through : MWv yX4_through cX4_through 5 (some .int) 3 := ⟨⟨by decide, by decide, by decide +kernel⟩, KT_of (i := 589) (by decide +kernel) rfl, KT_of (i := 60) (by decide +kernel) rfl, KT_of (i := 587) (by decide +kernel) rfl, KT_of (i := 588) (by decide +kernel) rfl⟩
theorem lkX4_315 : Cond.methodLink RX4 315 yX4_sure ∈ KT := KT_of (i := 719) (by decide +kernel) rfl
theorem wmX4_sure : MWv yX4_sure cX4_sure 5 (some .int) 3 := ⟨⟨by decide, by decide, by decide +kernel⟩, KT_of (i := 596) (by decide +kernel) rfl, KT_of (i := 60) (by decide +kernel) rfl, KT_of (i := 594) (by decide +kernel) rfl, KT_of (i := 595) (by decide +kernel) rfl⟩
theorem lkX4_318 : Cond.methodLink RX4 318 yX4_safest ∈ KT := KT_of (i := 720) (by decide +kernel) rfl
theorem wmX4_safest : MWv yX4_safest cX4_safest 5 (some .int) 3 := ⟨⟨by decide, by decide, by decide +kernel⟩, KT_of (i := 600) (by decide +kernel) rfl, KT_of (i := 60) (by decide +kernel) rfl, KT_of (i := 598) (by decide +kernel) rfl, KT_of (i := 599) (by decide +kernel) rfl⟩
theorem lkX4_321 : Cond.methodLink RX4 321 yX4_worth ∈ KT := KT_of (i := 721) (by decide +kernel) rfl
theorem wmX4_worth : MWv yX4_worth cX4_worth 7 (some .int) 2 := ⟨⟨by decide, by decide, by decide +kernel⟩, KT_of (i := 614) (by decide +kernel) rfl, KT_of (i := 60) (by decide +kernel) rfl, KT_of (i := 612) (by decide +kernel) rfl, KT_of (i := 613) (by decide +kernel) rfl⟩
theorem lkX4_269 : Cond.methodLink RX4 269 yX4_digestNight ∈ KT := KT_of (i := 707) (by decide +kernel) rfl
theorem wmX4_digestNight : MWv yX4_digestNight cX4_digestNight 11 (some .long) 2 := ⟨⟨by decide, by decide, by decide +kernel⟩, KT_of (i := 710) (by decide +kernel) rfl, KT_of (i := 60) (by decide +kernel) rfl, KT_of (i := 709) (by decide +kernel) rfl, KT_of (i := 19) (by decide +kernel) rfl⟩
theorem lkX4_275 : Cond.methodLink RX4 275 yX4_saved ∈ KT := KT_of (i := 722) (by decide +kernel) rfl
theorem wmX4_saved : MWv yX4_saved cX4_saved 7 (some .int) 2 := ⟨⟨by decide, by decide, by decide +kernel⟩, KT_of (i := 486) (by decide +kernel) rfl, KT_of (i := 60) (by decide +kernel) rfl, KT_of (i := 484) (by decide +kernel) rfl, KT_of (i := 485) (by decide +kernel) rfl⟩
theorem lkX4_278 : Cond.methodLink RX4 278 yX4_wreck ∈ KT := KT_of (i := 723) (by decide +kernel) rfl
theorem wmX4_wreck : MWv yX4_wreck cX4_wreck 8 (some .int) 3 := ⟨⟨by decide, by decide, by decide +kernel⟩, KT_of (i := 585) (by decide +kernel) rfl, KT_of (i := 60) (by decide +kernel) rfl, KT_of (i := 583) (by decide +kernel) rfl, KT_of (i := 584) (by decide +kernel) rfl⟩
theorem lkX4_281 : Cond.methodLink RX4 281 yX4_season ∈ KT := KT_of (i := 724) (by decide +kernel) rfl
theorem wmX4_season : MWv yX4_season cX4_season 10 (some .int) 4 := ⟨⟨by decide, by decide, by decide +kernel⟩, KT_of (i := 618) (by decide +kernel) rfl, KT_of (i := 60) (by decide +kernel) rfl, KT_of (i := 616) (by decide +kernel) rfl, KT_of (i := 617) (by decide +kernel) rfl⟩
theorem kcX5_279 : Cond.constantLong RX5 279 (17) ∈ KT := KT_of (i := 1150) (by decide +kernel) rfl
theorem kcX5_277 : Cond.constantLong RX5 277 (31) ∈ KT := KT_of (i := 1151) (by decide +kernel) rfl
theorem lkX5_281 : Cond.methodLink RX5 281 yX5_count ∈ KT := KT_of (i := 1152) (by decide +kernel) rfl
theorem wmX5_count : MWv yX5_count cX5_count 4 (some .int) 1 := ⟨⟨by decide, by decide, by decide +kernel⟩, KT_of (i := 1144) (by decide +kernel) rfl, KT_of (i := 65) (by decide +kernel) rfl, KT_of (i := 1142) (by decide +kernel) rfl, KT_of (i := 1143) (by decide +kernel) rfl⟩
theorem lkX5_284 : Cond.methodLink RX5 284 yX5_tellsNow ∈ KT := KT_of (i := 1153) (by decide +kernel) rfl
theorem wmX5_tellsNow : MWv yX5_tellsNow cX5_tellsNow 8 (some .long) 3 := ⟨⟨by decide, by decide, by decide +kernel⟩, KT_of (i := 1156) (by decide +kernel) rfl, KT_of (i := 65) (by decide +kernel) rfl, KT_of (i := 1155) (by decide +kernel) rfl, KT_of (i := 58) (by decide +kernel) rfl⟩
theorem lkX5_288 : Cond.methodLink RX5 288 yX5_wreck ∈ KT := KT_of (i := 1157) (by decide +kernel) rfl
theorem wmX5_wreck : MWv yX5_wreck cX5_wreck 4 (some .int) 3 := ⟨⟨by decide, by decide, by decide +kernel⟩, KT_of (i := 1069) (by decide +kernel) rfl, KT_of (i := 65) (by decide +kernel) rfl, KT_of (i := 1067) (by decide +kernel) rfl, KT_of (i := 1068) (by decide +kernel) rfl⟩
