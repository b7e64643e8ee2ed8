theorem lkL_159 : Cond.methodLink RL 159 yX4_digest ∈ KT := KT_of (i := 686) (by decide +kernel) rfl
theorem wmX4_digest : MWv yX4_digest cX4_digest 7 (some .long) 0 := ⟨⟨by decide, by decide, by decide +kernel⟩, KT_of (i := 689) (by decide +kernel) rfl, KT_of (i := 60) (by decide +kernel) rfl, KT_of (i := 687) (by decide +kernel) rfl, KT_of (i := 688) (by decide +kernel) rfl⟩
theorem lkL_163 : Cond.methodLink RL 163 yX5_digest ∈ KT := KT_of (i := 1146) (by decide +kernel) rfl
theorem wmX5_digest : MWv yX5_digest cX5_digest 5 (some .long) 0 := ⟨⟨by decide, by decide, by decide +kernel⟩, KT_of (i := 1149) (by decide +kernel) rfl, KT_of (i := 65) (by decide +kernel) rfl, KT_of (i := 1147) (by decide +kernel) rfl, KT_of (i := 1148) (by decide +kernel) rfl⟩
theorem lkL_155 : Cond.methodLink RL 155 yX4_count ∈ KT := KT_of (i := 670) (by decide +kernel) rfl
theorem lkL_158 : Cond.methodLink RL 158 yX5_count ∈ KT := KT_of (i := 1141) (by decide +kernel) rfl
theorem lkL_151 : Cond.methodLink RL 151 yX4_write ∈ KT := KT_of (i := 665) (by decide +kernel) rfl
theorem wmX4_write : MWv yX4_write cX4_write 7 (some .int) 3 := ⟨⟨by decide, by decide, by decide +kernel⟩, KT_of (i := 668) (by decide +kernel) rfl, KT_of (i := 60) (by decide +kernel) rfl, KT_of (i := 666) (by decide +kernel) rfl, KT_of (i := 667) (by decide +kernel) rfl⟩
theorem lkL_154 : Cond.methodLink RL 154 yX5_write ∈ KT := KT_of (i := 1137) (by decide +kernel) rfl
theorem wmX5_write : MWv yX5_write cX5_write 6 (some .int) 3 := ⟨⟨by decide, by decide, by decide +kernel⟩, KT_of (i := 1140) (by decide +kernel) rfl, KT_of (i := 65) (by decide +kernel) rfl, KT_of (i := 1138) (by decide +kernel) rfl, KT_of (i := 1139) (by decide +kernel) rfl⟩
theorem lkL_146 : Cond.methodLink RL 146 yX4_copy ∈ KT := KT_of (i := 658) (by decide +kernel) rfl
theorem wmX4_copy : MWv yX4_copy cX4_copy 8 (some .int) 5 := ⟨⟨by decide, by decide, by decide +kernel⟩, KT_of (i := 661) (by decide +kernel) rfl, KT_of (i := 60) (by decide +kernel) rfl, KT_of (i := 659) (by decide +kernel) rfl, KT_of (i := 660) (by decide +kernel) rfl⟩
theorem lkL_150 : Cond.methodLink RL 150 yX5_copy ∈ KT := KT_of (i := 832) (by decide +kernel) rfl
theorem wmX5_copy : MWv yX5_copy cX5_copy 7 (some .int) 5 := ⟨⟨by decide, by decide, by decide +kernel⟩, KT_of (i := 835) (by decide +kernel) rfl, KT_of (i := 65) (by decide +kernel) rfl, KT_of (i := 833) (by decide +kernel) rfl, KT_of (i := 834) (by decide +kernel) rfl⟩
theorem lkL_142 : Cond.methodLink RL 142 yX4_get ∈ KT := KT_of (i := 653) (by decide +kernel) rfl
theorem wmX4_get : MWv yX4_get cX4_get 6 (some .int) 3 := ⟨⟨by decide, by decide, by decide +kernel⟩, KT_of (i := 656) (by decide +kernel) rfl, KT_of (i := 60) (by decide +kernel) rfl, KT_of (i := 654) (by decide +kernel) rfl, KT_of (i := 655) (by decide +kernel) rfl⟩
theorem lkL_145 : Cond.methodLink RL 145 yX5_get ∈ KT := KT_of (i := 827) (by decide +kernel) rfl
theorem wmX5_get : MWv yX5_get cX5_get 4 (some .int) 3 := ⟨⟨by decide, by decide, by decide +kernel⟩, KT_of (i := 830) (by decide +kernel) rfl, KT_of (i := 65) (by decide +kernel) rfl, KT_of (i := 828) (by decide +kernel) rfl, KT_of (i := 829) (by decide +kernel) rfl⟩
theorem lkL_138 : Cond.methodLink RL 138 yX4_lay ∈ KT := KT_of (i := 636) (by decide +kernel) rfl
theorem wmX4_lay : MWv yX4_lay cX4_lay 7 (some .int) 4 := ⟨⟨by decide, by decide, by decide +kernel⟩, KT_of (i := 639) (by decide +kernel) rfl, KT_of (i := 60) (by decide +kernel) rfl, KT_of (i := 637) (by decide +kernel) rfl, KT_of (i := 638) (by decide +kernel) rfl⟩
theorem lkL_141 : Cond.methodLink RL 141 yX5_lay ∈ KT := KT_of (i := 816) (by decide +kernel) rfl
theorem wmX5_lay : MWv yX5_lay cX5_lay 6 (some .int) 4 := ⟨⟨by decide, by decide, by decide +kernel⟩, KT_of (i := 819) (by decide +kernel) rfl, KT_of (i := 65) (by decide +kernel) rfl, KT_of (i := 817) (by decide +kernel) rfl, KT_of (i := 818) (by decide +kernel) rfl⟩
theorem lkL_134 : Cond.methodLink RL 134 yX4_lose ∈ KT := KT_of (i := 632) (by decide +kernel) rfl
theorem wmX4_lose : MWv yX4_lose cX4_lose 4 (some .int) 1 := ⟨⟨by decide, by decide, by decide +kernel⟩, KT_of (i := 635) (by decide +kernel) rfl, KT_of (i := 60) (by decide +kernel) rfl, KT_of (i := 633) (by decide +kernel) rfl, KT_of (i := 634) (by decide +kernel) rfl⟩
theorem lkL_137 : Cond.methodLink RL 137 yX5_lose ∈ KT := KT_of (i := 812) (by decide +kernel) rfl
theorem wmX5_lose : MWv yX5_lose cX5_lose 2 (some .int) 1 := ⟨⟨by decide, by decide, by decide +kernel⟩, KT_of (i := 815) (by decide +kernel) rfl, KT_of (i := 65) (by decide +kernel) rfl, KT_of (i := 813) (by decide +kernel) rfl, KT_of (i := 814) (by decide +kernel) rfl⟩
theorem lkL_130 : Cond.methodLink RL 130 yX4_sheet ∈ KT := KT_of (i := 620) (by decide +kernel) rfl
theorem wmX4_sheet : MWv yX4_sheet cX4_sheet 5 (some .int) 3 := ⟨⟨by decide, by decide, by decide +kernel⟩, KT_of (i := 623) (by decide +kernel) rfl, KT_of (i := 60) (by decide +kernel) rfl, KT_of (i := 621) (by decide +kernel) rfl, KT_of (i := 622) (by decide +kernel) rfl⟩
theorem lkL_133 : Cond.methodLink RL 133 yX5_sheet ∈ KT := KT_of (i := 796) (by decide +kernel) rfl
theorem wmX5_sheet : MWv yX5_sheet cX5_sheet 5 (some .int) 3 := ⟨⟨by decide, by decide, by decide +kernel⟩, KT_of (i := 799) (by decide +kernel) rfl, KT_of (i := 65) (by decide +kernel) rfl, KT_of (i := 797) (by decide +kernel) rfl, KT_of (i := 798) (by decide +kernel) rfl⟩
theorem lkL_125 : Cond.methodLink RL 125 yX4_season ∈ KT := KT_of (i := 615) (by decide +kernel) rfl
theorem lkL_129 : Cond.methodLink RL 129 yX5_season ∈ KT := KT_of (i := 1127) (by decide +kernel) rfl
theorem wmX5_season : MWv yX5_season cX5_season 5 (some .int) 4 := ⟨⟨by decide, by decide, by decide +kernel⟩, KT_of (i := 1130) (by decide +kernel) rfl, KT_of (i := 65) (by decide +kernel) rfl, KT_of (i := 1128) (by decide +kernel) rfl, KT_of (i := 1129) (by decide +kernel) rfl⟩
theorem lkL_121 : Cond.methodLink RL 121 yX4_worth ∈ KT := KT_of (i := 611) (by decide +kernel) rfl
theorem lkL_124 : Cond.methodLink RL 124 yX5_worth ∈ KT := KT_of (i := 1119) (by decide +kernel) rfl
theorem wmX5_worth : MWv yX5_worth cX5_worth 3 (some .int) 2 := ⟨⟨by decide, by decide, by decide +kernel⟩, KT_of (i := 1122) (by decide +kernel) rfl, KT_of (i := 65) (by decide +kernel) rfl, KT_of (i := 1120) (by decide +kernel) rfl, KT_of (i := 1121) (by decide +kernel) rfl⟩
theorem lkL_117 : Cond.methodLink RL 117 yX4_safest ∈ KT := KT_of (i := 597) (by decide +kernel) rfl
theorem lkL_120 : Cond.methodLink RL 120 yX5_safest ∈ KT := KT_of (i := 1093) (by decide +kernel) rfl
theorem wmX5_safest : MWv yX5_safest cX5_safest 4 (some .int) 3 := ⟨⟨by decide, by decide, by decide +kernel⟩, KT_of (i := 1096) (by decide +kernel) rfl, KT_of (i := 65) (by decide +kernel) rfl, KT_of (i := 1094) (by decide +kernel) rfl, KT_of (i := 1095) (by decide +kernel) rfl⟩
theorem lkL_113 : Cond.methodLink RL 113 yX4_sure ∈ KT := KT_of (i := 593) (by decide +kernel) rfl
theorem lkL_116 : Cond.methodLink RL 116 yX5_sure ∈ KT := KT_of (i := 1085) (by decide +kernel) rfl
theorem wmX5_sure : MWv yX5_sure cX5_sure 4 (some .int) 3 := ⟨⟨by decide, by decide, by decide +kernel⟩, KT_of (i := 1088) (by decide +kernel) rfl, KT_of (i := 65) (by decide +kernel) rfl, KT_of (i := 1086) (by decide +kernel) rfl, KT_of (i := 1087) (by decide +kernel) rfl⟩
theorem lkL_109 : Cond.methodLink RL 109 yX4_through ∈ KT := KT_of (i := 586) (by decide +kernel) rfl
theorem lkL_112 : Cond.methodLink RL 112 yX5_through ∈ KT := KT_of (i := 1074) (by decide +kernel) rfl
theorem wmX5_through : MWv yX5_through cX5_through 4 (some .int) 3 := ⟨⟨by decide, by decide, by decide +kernel⟩, KT_of (i := 1077) (by decide +kernel) rfl, KT_of (i := 65) (by decide +kernel) rfl, KT_of (i := 1075) (by decide +kernel) rfl, KT_of (i := 1076) (by decide +kernel) rfl⟩
theorem lkL_105 : Cond.methodLink RL 105 yX4_wreck ∈ KT := KT_of (i := 582) (by decide +kernel) rfl
theorem lkL_108 : Cond.methodLink RL 108 yX5_wreck ∈ KT := KT_of (i := 1066) (by decide +kernel) rfl
theorem lkL_101 : Cond.methodLink RL 101 yX4_tells ∈ KT := KT_of (i := 572) (by decide +kernel) rfl
theorem lkL_104 : Cond.methodLink RL 104 yX5_tells ∈ KT := KT_of (i := 1054) (by decide +kernel) rfl
theorem wmX5_tells : MWv yX5_tells cX5_tells 3 (some .int) 2 := ⟨⟨by decide, by decide, by decide +kernel⟩, KT_of (i := 1057) (by decide +kernel) rfl, KT_of (i := 65) (by decide +kernel) rfl, KT_of (i := 1055) (by decide +kernel) rfl, KT_of (i := 1056) (by decide +kernel) rfl⟩
theorem lkL_97 : Cond.methodLink RL 97 yX4_next ∈ KT := KT_of (i := 565) (by decide +kernel) rfl
theorem lkL_100 : Cond.methodLink RL 100 yX5_next ∈ KT := KT_of (i := 1046) (by decide +kernel) rfl
theorem wmX5_next : MWv yX5_next cX5_next 3 (some .int) 2 := ⟨⟨by decide, by decide, by decide +kernel⟩, KT_of (i := 1049) (by decide +kernel) rfl, KT_of (i := 65) (by decide +kernel) rfl, KT_of (i := 1047) (by decide +kernel) rfl, KT_of (i := 1048) (by decide +kernel) rfl⟩
theorem lkL_93 : Cond.methodLink RL 93 yX4_laws ∈ KT := KT_of (i := 536) (by decide +kernel) rfl
theorem lkL_96 : Cond.methodLink RL 96 yX5_laws ∈ KT := KT_of (i := 1033) (by decide +kernel) rfl
theorem wmX5_laws : MWv yX5_laws cX5_laws 3 (some .int) 2 := ⟨⟨by decide, by decide, by decide +kernel⟩, KT_of (i := 1036) (by decide +kernel) rfl, KT_of (i := 65) (by decide +kernel) rfl, KT_of (i := 1034) (by decide +kernel) rfl, KT_of (i := 1035) (by decide +kernel) rfl⟩
theorem lkL_89 : Cond.methodLink RL 89 yX4_read ∈ KT := KT_of (i := 515) (by decide +kernel) rfl
theorem wmX4_read : MWv yX4_read cX4_read 8 (some .int) 1 := ⟨⟨by decide, by decide, by decide +kernel⟩, KT_of (i := 518) (by decide +kernel) rfl, KT_of (i := 60) (by decide +kernel) rfl, KT_of (i := 516) (by decide +kernel) rfl, KT_of (i := 517) (by decide +kernel) rfl⟩
theorem lkL_92 : Cond.methodLink RL 92 yX5_read ∈ KT := KT_of (i := 1028) (by decide +kernel) rfl
theorem wmX5_read : MWv yX5_read cX5_read 5 (some .int) 1 := ⟨⟨by decide, by decide, by decide +kernel⟩, KT_of (i := 1031) (by decide +kernel) rfl, KT_of (i := 65) (by decide +kernel) rfl, KT_of (i := 1029) (by decide +kernel) rfl, KT_of (i := 1030) (by decide +kernel) rfl⟩
theorem lkL_85 : Cond.methodLink RL 85 yX4_forget ∈ KT := KT_of (i := 507) (by decide +kernel) rfl
theorem wmX4_forget : MWv yX4_forget cX4_forget 2 (some .int) 0 := ⟨⟨by decide, by decide, by decide +kernel⟩, KT_of (i := 510) (by decide +kernel) rfl, KT_of (i := 60) (by decide +kernel) rfl, KT_of (i := 508) (by decide +kernel) rfl, KT_of (i := 509) (by decide +kernel) rfl⟩
theorem lkL_88 : Cond.methodLink RL 88 yX5_forget ∈ KT := KT_of (i := 1024) (by decide +kernel) rfl
theorem wmX5_forget : MWv yX5_forget cX5_forget 2 (some .int) 0 := ⟨⟨by decide, by decide, by decide +kernel⟩, KT_of (i := 1027) (by decide +kernel) rfl, KT_of (i := 65) (by decide +kernel) rfl, KT_of (i := 1025) (by decide +kernel) rfl, KT_of (i := 1026) (by decide +kernel) rfl⟩
theorem lkL_81 : Cond.methodLink RL 81 yX4_sounded ∈ KT := KT_of (i := 495) (by decide +kernel) rfl
theorem wmX4_sounded : MWv yX4_sounded cX4_sounded 4 (some .int) 3 := ⟨⟨by decide, by decide, by decide +kernel⟩, KT_of (i := 498) (by decide +kernel) rfl, KT_of (i := 60) (by decide +kernel) rfl, KT_of (i := 496) (by decide +kernel) rfl, KT_of (i := 497) (by decide +kernel) rfl⟩
theorem lkL_84 : Cond.methodLink RL 84 yX5_sounded ∈ KT := KT_of (i := 1019) (by decide +kernel) rfl
theorem lkL_77 : Cond.methodLink RL 77 yX4_saved ∈ KT := KT_of (i := 483) (by decide +kernel) rfl
theorem lkL_80 : Cond.methodLink RL 80 yX5_saved ∈ KT := KT_of (i := 1008) (by decide +kernel) rfl
theorem wmX5_saved : MWv yX5_saved cX5_saved 3 (some .int) 2 := ⟨⟨by decide, by decide, by decide +kernel⟩, KT_of (i := 1011) (by decide +kernel) rfl, KT_of (i := 65) (by decide +kernel) rfl, KT_of (i := 1009) (by decide +kernel) rfl, KT_of (i := 1010) (by decide +kernel) rfl⟩
theorem lkL_73 : Cond.methodLink RL 73 yX4_byChange ∈ KT := KT_of (i := 474) (by decide +kernel) rfl
theorem lkL_76 : Cond.methodLink RL 76 yX5_byChange ∈ KT := KT_of (i := 996) (by decide +kernel) rfl
theorem wmX5_byChange : MWv yX5_byChange cX5_byChange 3 (some .int) 2 := ⟨⟨by decide, by decide, by decide +kernel⟩, KT_of (i := 999) (by decide +kernel) rfl, KT_of (i := 65) (by decide +kernel) rfl, KT_of (i := 997) (by decide +kernel) rfl, KT_of (i := 998) (by decide +kernel) rfl⟩
theorem lkL_69 : Cond.methodLink RL 69 yX4_byMap ∈ KT := KT_of (i := 462) (by decide +kernel) rfl
theorem lkL_72 : Cond.methodLink RL 72 yX5_byMap ∈ KT := KT_of (i := 976) (by decide +kernel) rfl
theorem wmX5_byMap : MWv yX5_byMap cX5_byMap 3 (some .int) 2 := ⟨⟨by decide, by decide, by decide +kernel⟩, KT_of (i := 979) (by decide +kernel) rfl, KT_of (i := 65) (by decide +kernel) rfl, KT_of (i := 977) (by decide +kernel) rfl, KT_of (i := 978) (by decide +kernel) rfl⟩
theorem lkL_65 : Cond.methodLink RL 65 yX4_waits ∈ KT := KT_of (i := 454) (by decide +kernel) rfl
theorem lkL_68 : Cond.methodLink RL 68 yX5_waits ∈ KT := KT_of (i := 968) (by decide +kernel) rfl
theorem wmX5_waits : MWv yX5_waits cX5_waits 3 (some .int) 2 := ⟨⟨by decide, by decide, by decide +kernel⟩, KT_of (i := 971) (by decide +kernel) rfl, KT_of (i := 65) (by decide +kernel) rfl, KT_of (i := 969) (by decide +kernel) rfl, KT_of (i := 970) (by decide +kernel) rfl⟩
theorem lkL_61 : Cond.methodLink RL 61 yX4_draft ∈ KT := KT_of (i := 450) (by decide +kernel) rfl
theorem lkL_64 : Cond.methodLink RL 64 yX5_draft ∈ KT := KT_of (i := 960) (by decide +kernel) rfl
theorem wmX5_draft : MWv yX5_draft cX5_draft 2 (some .int) 1 := ⟨⟨by decide, by decide, by decide +kernel⟩, KT_of (i := 963) (by decide +kernel) rfl, KT_of (i := 65) (by decide +kernel) rfl, KT_of (i := 961) (by decide +kernel) rfl, KT_of (i := 962) (by decide +kernel) rfl⟩
theorem lkL_56 : Cond.methodLink RL 56 yX4_ways ∈ KT := KT_of (i := 413) (by decide +kernel) rfl
theorem lkL_60 : Cond.methodLink RL 60 yX5_ways ∈ KT := KT_of (i := 932) (by decide +kernel) rfl
theorem wmX5_ways : MWv yX5_ways cX5_ways 4 (some .int) 3 := ⟨⟨by decide, by decide, by decide +kernel⟩, KT_of (i := 935) (by decide +kernel) rfl, KT_of (i := 65) (by decide +kernel) rfl, KT_of (i := 933) (by decide +kernel) rfl, KT_of (i := 934) (by decide +kernel) rfl⟩
theorem lkL_52 : Cond.methodLink RL 52 yX4_map ∈ KT := KT_of (i := 404) (by decide +kernel) rfl
theorem lkL_55 : Cond.methodLink RL 55 yX5_map ∈ KT := KT_of (i := 924) (by decide +kernel) rfl
theorem wmX5_map : MWv yX5_map cX5_map 3 (some .int) 2 := ⟨⟨by decide, by decide, by decide +kernel⟩, KT_of (i := 927) (by decide +kernel) rfl, KT_of (i := 65) (by decide +kernel) rfl, KT_of (i := 925) (by decide +kernel) rfl, KT_of (i := 926) (by decide +kernel) rfl⟩
theorem lkL_48 : Cond.methodLink RL 48 yX4_deep ∈ KT := KT_of (i := 385) (by decide +kernel) rfl
theorem lkL_51 : Cond.methodLink RL 51 yX5_deep ∈ KT := KT_of (i := 899) (by decide +kernel) rfl
theorem wmX5_deep : MWv yX5_deep cX5_deep 3 (some .int) 2 := ⟨⟨by decide, by decide, by decide +kernel⟩, KT_of (i := 902) (by decide +kernel) rfl, KT_of (i := 65) (by decide +kernel) rfl, KT_of (i := 900) (by decide +kernel) rfl, KT_of (i := 901) (by decide +kernel) rfl⟩
theorem lkL_44 : Cond.methodLink RL 44 yX4_odds ∈ KT := KT_of (i := 381) (by decide +kernel) rfl
theorem wmX4_odds : MWv yX4_odds cX4_odds 3 (some .int) 1 := ⟨⟨by decide, by decide, by decide +kernel⟩, KT_of (i := 384) (by decide +kernel) rfl, KT_of (i := 60) (by decide +kernel) rfl, KT_of (i := 382) (by decide +kernel) rfl, KT_of (i := 383) (by decide +kernel) rfl⟩
theorem lkL_47 : Cond.methodLink RL 47 yX5_odds ∈ KT := KT_of (i := 894) (by decide +kernel) rfl
theorem wmX5_odds : MWv yX5_odds cX5_odds 3 (some .int) 1 := ⟨⟨by decide, by decide, by decide +kernel⟩, KT_of (i := 897) (by decide +kernel) rfl, KT_of (i := 65) (by decide +kernel) rfl, KT_of (i := 895) (by decide +kernel) rfl, KT_of (i := 896) (by decide +kernel) rfl⟩
theorem lkL_40 : Cond.methodLink RL 40 yX4_calm ∈ KT := KT_of (i := 373) (by decide +kernel) rfl
theorem wmX4_calm : MWv yX4_calm cX4_calm 1 (some .int) 0 := ⟨⟨by decide, by decide, by decide +kernel⟩, KT_of (i := 376) (by decide +kernel) rfl, KT_of (i := 60) (by decide +kernel) rfl, KT_of (i := 374) (by decide +kernel) rfl, KT_of (i := 375) (by decide +kernel) rfl⟩
theorem lkL_43 : Cond.methodLink RL 43 yX5_calm ∈ KT := KT_of (i := 890) (by decide +kernel) rfl
theorem wmX5_calm : MWv yX5_calm cX5_calm 1 (some .int) 0 := ⟨⟨by decide, by decide, by decide +kernel⟩, KT_of (i := 893) (by decide +kernel) rfl, KT_of (i := 65) (by decide +kernel) rfl, KT_of (i := 891) (by decide +kernel) rfl, KT_of (i := 892) (by decide +kernel) rfl⟩
theorem lkL_36 : Cond.methodLink RL 36 yX4_storm ∈ KT := KT_of (i := 362) (by decide +kernel) rfl
theorem wmX4_storm : MWv yX4_storm cX4_storm 2 (some .int) 1 := ⟨⟨by decide, by decide, by decide +kernel⟩, KT_of (i := 365) (by decide +kernel) rfl, KT_of (i := 60) (by decide +kernel) rfl, KT_of (i := 363) (by decide +kernel) rfl, KT_of (i := 364) (by decide +kernel) rfl⟩
theorem lkL_39 : Cond.methodLink RL 39 yX5_storm ∈ KT := KT_of (i := 882) (by decide +kernel) rfl
theorem wmX5_storm : MWv yX5_storm cX5_storm 2 (some .int) 1 := ⟨⟨by decide, by decide, by decide +kernel⟩, KT_of (i := 885) (by decide +kernel) rfl, KT_of (i := 65) (by decide +kernel) rfl, KT_of (i := 883) (by decide +kernel) rfl, KT_of (i := 884) (by decide +kernel) rfl⟩
theorem lkL_31 : Cond.methodLink RL 31 yX4_channel ∈ KT := KT_of (i := 357) (by decide +kernel) rfl
theorem lkL_35 : Cond.methodLink RL 35 yX5_channel ∈ KT := KT_of (i := 873) (by decide +kernel) rfl
theorem wmX5_channel : MWv yX5_channel cX5_channel 3 (some .int) 2 := ⟨⟨by decide, by decide, by decide +kernel⟩, KT_of (i := 876) (by decide +kernel) rfl, KT_of (i := 65) (by decide +kernel) rfl, KT_of (i := 874) (by decide +kernel) rfl, KT_of (i := 875) (by decide +kernel) rfl⟩
theorem lkL_27 : Cond.methodLink RL 27 yX4_fault ∈ KT := KT_of (i := 353) (by decide +kernel) rfl
theorem lkL_30 : Cond.methodLink RL 30 yX5_fault ∈ KT := KT_of (i := 845) (by decide +kernel) rfl
theorem wmX5_fault : MWv yX5_fault cX5_fault 1 (some .int) 0 := ⟨⟨by decide, by decide, by decide +kernel⟩, KT_of (i := 848) (by decide +kernel) rfl, KT_of (i := 65) (by decide +kernel) rfl, KT_of (i := 846) (by decide +kernel) rfl, KT_of (i := 847) (by decide +kernel) rfl⟩
theorem lkL_23 : Cond.methodLink RL 23 yX4_undo ∈ KT := KT_of (i := 343) (by decide +kernel) rfl
theorem wmX4_undo : MWv yX4_undo cX4_undo 1 (some .int) 0 := ⟨⟨by decide, by decide, by decide +kernel⟩, KT_of (i := 346) (by decide +kernel) rfl, KT_of (i := 60) (by decide +kernel) rfl, KT_of (i := 344) (by decide +kernel) rfl, KT_of (i := 345) (by decide +kernel) rfl⟩
theorem lkL_26 : Cond.methodLink RL 26 yX5_undo ∈ KT := KT_of (i := 869) (by decide +kernel) rfl
theorem wmX5_undo : MWv yX5_undo cX5_undo 1 (some .int) 0 := ⟨⟨by decide, by decide, by decide +kernel⟩, KT_of (i := 872) (by decide +kernel) rfl, KT_of (i := 65) (by decide +kernel) rfl, KT_of (i := 870) (by decide +kernel) rfl, KT_of (i := 871) (by decide +kernel) rfl⟩
theorem lkL_18 : Cond.methodLink RL 18 yX4_wipe ∈ KT := KT_of (i := 335) (by decide +kernel) rfl
theorem wmX4_wipe : MWv yX4_wipe cX4_wipe 2 (some .int) 0 := ⟨⟨by decide, by decide, by decide +kernel⟩, KT_of (i := 338) (by decide +kernel) rfl, KT_of (i := 60) (by decide +kernel) rfl, KT_of (i := 336) (by decide +kernel) rfl, KT_of (i := 337) (by decide +kernel) rfl⟩
theorem lkL_22 : Cond.methodLink RL 22 yX5_wipe ∈ KT := KT_of (i := 841) (by decide +kernel) rfl
theorem wmX5_wipe : MWv yX5_wipe cX5_wipe 2 (some .int) 0 := ⟨⟨by decide, by decide, by decide +kernel⟩, KT_of (i := 844) (by decide +kernel) rfl, KT_of (i := 65) (by decide +kernel) rfl, KT_of (i := 842) (by decide +kernel) rfl, KT_of (i := 843) (by decide +kernel) rfl⟩
theorem lkL_13 : Cond.methodLink RL 13 yX4_type ∈ KT := KT_of (i := 209) (by decide +kernel) rfl
theorem wmX4_type : MWv yX4_type cX4_type 2 (some .int) 1 := ⟨⟨by decide, by decide, by decide +kernel⟩, KT_of (i := 212) (by decide +kernel) rfl, KT_of (i := 60) (by decide +kernel) rfl, KT_of (i := 210) (by decide +kernel) rfl, KT_of (i := 211) (by decide +kernel) rfl⟩
theorem lkL_17 : Cond.methodLink RL 17 yX5_type ∈ KT := KT_of (i := 836) (by decide +kernel) rfl
theorem wmX5_type : MWv yX5_type cX5_type 2 (some .int) 1 := ⟨⟨by decide, by decide, by decide +kernel⟩, KT_of (i := 839) (by decide +kernel) rfl, KT_of (i := 65) (by decide +kernel) rfl, KT_of (i := 837) (by decide +kernel) rfl, KT_of (i := 838) (by decide +kernel) rfl⟩
def fL_law_18 (L : Nat) (xs : Nat → Int32) : Nat → Int32 → Mem → Option (Bool × Mem)
  | 0, _, _ => none
  | n + 1, x3, M => if ((nI L) - (6 : Int32)) < x3 then some (true, M) else gd (inb x3 L) (if ((xs (x3).toNatClampNeg) &&& (63 : Int32)) = 0 then gd (inb (x3 + (1 : Int32)) L) (bW (fX4_type (xs ((x3 + (1 : Int32))).toNatClampNeg) M) fun z343 M344 => gd (inb (x3 + (1 : Int32)) L) (bW (fX5_type (xs ((x3 + (1 : Int32))).toNatClampNeg) M344) fun z346 M347 => if z343 = z346 then fL_law_18 L xs n (x3 + 6) M347 else some (false, M347))) else if ((xs (x3).toNatClampNeg) &&& (63 : Int32)) = 1 then bW (fX4_wipe M) fun z337 M338 => bW (fX5_wipe M338) fun z339 M340 => if z337 = z339 then fL_law_18 L xs n (x3 + 6) M340 else some (false, M340) else if ((xs (x3).toNatClampNeg) &&& (63 : Int32)) = 2 then bW (fX4_undo M) fun z332 M333 => bW (fX5_undo M333) fun z334 M335 => if z332 = z334 then fL_law_18 L xs n (x3 + 6) M335 else some (false, M335) else if ((xs (x3).toNatClampNeg) &&& (63 : Int32)) = 3 then bW (fX5_fault M) fun z329 M330 => if (fX4_fault M) = z329 then fL_law_18 L xs n (x3 + 6) M330 else some (false, M330) else if ((xs (x3).toNatClampNeg) &&& (63 : Int32)) = 4 then gd (inb (x3 + (1 : Int32)) L) (gd (inb (x3 + (2 : Int32)) L) (bP (fX4_channel M (xs ((x3 + (1 : Int32))).toNatClampNeg) (xs ((x3 + (2 : Int32))).toNatClampNeg)) fun z323 => gd (inb (x3 + (1 : Int32)) L) (gd (inb (x3 + (2 : Int32)) L) (bW (fX5_channel (xs ((x3 + (1 : Int32))).toNatClampNeg) (xs ((x3 + (2 : Int32))).toNatClampNeg) M) fun z326 M327 => if z323 = z326 then fL_law_18 L xs n (x3 + 6) M327 else some (false, M327))))) else if ((xs (x3).toNatClampNeg) &&& (63 : Int32)) = 5 then gd (inb (x3 + (1 : Int32)) L) (bW (fX4_storm (xs ((x3 + (1 : Int32))).toNatClampNeg) M) fun z315 M316 => gd (inb (x3 + (1 : Int32)) L) (bW (fX5_storm (xs ((x3 + (1 : Int32))).toNatClampNeg) M316) fun z318 M319 => if z315 = z318 then fL_law_18 L xs n (x3 + 6) M319 else some (false, M319))) else if ((xs (x3).toNatClampNeg) &&& (63 : Int32)) = 6 then bW (fX4_calm M) fun z309 M310 => bW (fX5_calm M310) fun z311 M312 => if z309 = z311 then fL_law_18 L xs n (x3 + 6) M312 else some (false, M312) else if ((xs (x3).toNatClampNeg) &&& (63 : Int32)) = 7 then gd (inb (x3 + (1 : Int32)) L) (bW (fX4_odds (xs ((x3 + (1 : Int32))).toNatClampNeg) M) fun z303 M304 => gd (inb (x3 + (1 : Int32)) L) (bW (fX5_odds (xs ((x3 + (1 : Int32))).toNatClampNeg) M304) fun z306 M307 => if z303 = z306 then fL_law_18 L xs n (x3 + 6) M307 else some (false, M307))) else if ((xs (x3).toNatClampNeg) &&& (63 : Int32)) = 8 then gd (inb (x3 + (1 : Int32)) L) (gd (inb (x3 + (2 : Int32)) L) (bP (fX4_deep M (xs ((x3 + (1 : Int32))).toNatClampNeg) (xs ((x3 + (2 : Int32))).toNatClampNeg)) fun z296 => gd (inb (x3 + (1 : Int32)) L) (gd (inb (x3 + (2 : Int32)) L) (bW (fX5_deep (xs ((x3 + (1 : Int32))).toNatClampNeg) (xs ((x3 + (2 : Int32))).toNatClampNeg) M) fun z299 M300 => if z296 = z299 then fL_law_18 L xs n (x3 + 6) M300 else some (false, M300))))) else if ((xs (x3).toNatClampNeg) &&& (63 : Int32)) = 9 then gd (inb (x3 + (1 : Int32)) L) (gd (inb (x3 + (2 : Int32)) L) (bP (fX4_map M (xs ((x3 + (1 : Int32))).toNatClampNeg) (xs ((x3 + (2 : Int32))).toNatClampNeg)) fun z288 => gd (inb (x3 + (1 : Int32)) L) (gd (inb (x3 + (2 : Int32)) L) (bW (fX5_map (xs ((x3 + (1 : Int32))).toNatClampNeg) (xs ((x3 + (2 : Int32))).toNatClampNeg) M) fun z291 M292 => if z288 = z291 then fL_law_18 L xs n (x3 + 6) M292 else some (false, M292))))) else if ((xs (x3).toNatClampNeg) &&& (63 : Int32)) = 10 then gd (inb (x3 + (1 : Int32)) L) (gd (inb (x3 + (2 : Int32)) L) (gd (inb (x3 + (3 : Int32)) L) (bW (fX4_ways (xs ((x3 + (1 : Int32))).toNatClampNeg) (xs ((x3 + (2 : Int32))).toNatClampNeg) (xs ((x3 + (3 : Int32))).toNatClampNeg) M) fun z278 M279 => gd (inb (x3 + (1 : Int32)) L) (gd (inb (x3 + (2 : Int32)) L) (gd (inb (x3 + (3 : Int32)) L) (bW (fX5_ways (xs ((x3 + (1 : Int32))).toNatClampNeg) (xs ((x3 + (2 : Int32))).toNatClampNeg) (xs ((x3 + (3 : Int32))).toNatClampNeg) M279) fun z283 M284 => if z278 = z283 then fL_law_18 L xs n (x3 + 6) M284 else some (false, M284))))))) else if ((xs (x3).toNatClampNeg) &&& (63 : Int32)) = 11 then gd (inb (x3 + (1 : Int32)) L) (bW (fX4_draft (xs ((x3 + (1 : Int32))).toNatClampNeg) M) fun z269 M270 => gd (inb (x3 + (1 : Int32)) L) (bW (fX5_draft (xs ((x3 + (1 : Int32))).toNatClampNeg) M270) fun z272 M273 => if z269 = z272 then fL_law_18 L xs n (x3 + 6) M273 else some (false, M273))) else if ((xs (x3).toNatClampNeg) &&& (63 : Int32)) = 12 then gd (inb (x3 + (1 : Int32)) L) (gd (inb (x3 + (2 : Int32)) L) (bW (fX4_waits (xs ((x3 + (1 : Int32))).toNatClampNeg) (xs ((x3 + (2 : Int32))).toNatClampNeg) M) fun z261 M262 => gd (inb (x3 + (1 : Int32)) L) (gd (inb (x3 + (2 : Int32)) L) (bW (fX5_waits (xs ((x3 + (1 : Int32))).toNatClampNeg) (xs ((x3 + (2 : Int32))).toNatClampNeg) M262) fun z265 M266 => if z261 = z265 then fL_law_18 L xs n (x3 + 6) M266 else some (false, M266))))) else if ((xs (x3).toNatClampNeg) &&& (63 : Int32)) = 13 then gd (inb (x3 + (1 : Int32)) L) (gd (inb (x3 + (2 : Int32)) L) (bW (fX4_byMap (xs ((x3 + (1 : Int32))).toNatClampNeg) (xs ((x3 + (2 : Int32))).toNatClampNeg) M) fun z252 M253 => gd (inb (x3 + (1 : Int32)) L) (gd (inb (x3 + (2 : Int32)) L) (bW (fX5_byMap (xs ((x3 + (1 : Int32))).toNatClampNeg) (xs ((x3 + (2 : Int32))).toNatClampNeg) M253) fun z256 M257 => if z252 = z256 then fL_law_18 L xs n (x3 + 6) M257 else some (false, M257))))) else if ((xs (x3).toNatClampNeg) &&& (63 : Int32)) = 14 then gd (inb (x3 + (1 : Int32)) L) (gd (inb (x3 + (2 : Int32)) L) (bW (fX4_byChange (xs ((x3 + (1 : Int32))).toNatClampNeg) (xs ((x3 + (2 : Int32))).toNatClampNeg) M) fun z243 M244 => gd (inb (x3 + (1 : Int32)) L) (gd (inb (x3 + (2 : Int32)) L) (bW (fX5_byChange (xs ((x3 + (1 : Int32))).toNatClampNeg) (xs ((x3 + (2 : Int32))).toNatClampNeg) M244) fun z247 M248 => if z243 = z247 then fL_law_18 L xs n (x3 + 6) M248 else some (false, M248))))) else if ((xs (x3).toNatClampNeg) &&& (63 : Int32)) = 15 then gd (inb (x3 + (1 : Int32)) L) (gd (inb (x3 + (2 : Int32)) L) (bW (fX4_saved (xs ((x3 + (1 : Int32))).toNatClampNeg) (xs ((x3 + (2 : Int32))).toNatClampNeg) M) fun z234 M235 => gd (inb (x3 + (1 : Int32)) L) (gd (inb (x3 + (2 : Int32)) L) (bW (fX5_saved (xs ((x3 + (1 : Int32))).toNatClampNeg) (xs ((x3 + (2 : Int32))).toNatClampNeg) M235) fun z238 M239 => if z234 = z238 then fL_law_18 L xs n (x3 + 6) M239 else some (false, M239))))) else if ((xs (x3).toNatClampNeg) &&& (63 : Int32)) = 16 then gd (inb (x3 + (1 : Int32)) L) (gd (inb (x3 + (2 : Int32)) L) (gd (inb (x3 + (3 : Int32)) L) (bW (fX4_sounded (xs ((x3 + (1 : Int32))).toNatClampNeg) (xs ((x3 + (2 : Int32))).toNatClampNeg) (xs ((x3 + (3 : Int32))).toNatClampNeg) M) fun z224 M225 => gd (inb (x3 + (1 : Int32)) L) (gd (inb (x3 + (2 : Int32)) L) (gd (inb (x3 + (3 : Int32)) L) (bW (fX5_sounded (xs ((x3 + (1 : Int32))).toNatClampNeg) (xs ((x3 + (2 : Int32))).toNatClampNeg) (xs ((x3 + (3 : Int32))).toNatClampNeg) M225) fun z229 M230 => if z224 = z229 then fL_law_18 L xs n (x3 + 6) M230 else some (false, M230))))))) else if ((xs (x3).toNatClampNeg) &&& (63 : Int32)) = 17 then bW (fX4_forget M) fun z216 M217 => bW (fX5_forget M217) fun z218 M219 => if z216 = z218 then fL_law_18 L xs n (x3 + 6) M219 else some (false, M219) else if ((xs (x3).toNatClampNeg) &&& (63 : Int32)) = 18 then gd (inb (x3 + (1 : Int32)) L) (bW (fX4_read (xs ((x3 + (1 : Int32))).toNatClampNeg) M) fun z210 M211 => gd (inb (x3 + (1 : Int32)) L) (bW (fX5_read (xs ((x3 + (1 : Int32))).toNatClampNeg) M211) fun z213 M214 => if z210 = z213 then fL_law_18 L xs n (x3 + 6) M214 else some (false, M214))) else if ((xs (x3).toNatClampNeg) &&& (63 : Int32)) = 19 then gd (inb (x3 + (1 : Int32)) L) (gd (inb (x3 + (2 : Int32)) L) (bP (fX4_laws M (xs ((x3 + (1 : Int32))).toNatClampNeg) (xs ((x3 + (2 : Int32))).toNatClampNeg)) fun z203 => gd (inb (x3 + (1 : Int32)) L) (gd (inb (x3 + (2 : Int32)) L) (bW (fX5_laws (xs ((x3 + (1 : Int32))).toNatClampNeg) (xs ((x3 + (2 : Int32))).toNatClampNeg) M) fun z206 M207 => if z203 = z206 then fL_law_18 L xs n (x3 + 6) M207 else some (false, M207))))) else if ((xs (x3).toNatClampNeg) &&& (63 : Int32)) = 20 then gd (inb (x3 + (1 : Int32)) L) (gd (inb (x3 + (2 : Int32)) L) (bP (fX4_next M (xs ((x3 + (1 : Int32))).toNatClampNeg) (xs ((x3 + (2 : Int32))).toNatClampNeg)) fun z195 => gd (inb (x3 + (1 : Int32)) L) (gd (inb (x3 + (2 : Int32)) L) (bW (fX5_next (xs ((x3 + (1 : Int32))).toNatClampNeg) (xs ((x3 + (2 : Int32))).toNatClampNeg) M) fun z198 M199 => if z195 = z198 then fL_law_18 L xs n (x3 + 6) M199 else some (false, M199))))) else if ((xs (x3).toNatClampNeg) &&& (63 : Int32)) = 21 then gd (inb (x3 + (1 : Int32)) L) (gd (inb (x3 + (2 : Int32)) L) (bW (fX4_tells (xs ((x3 + (1 : Int32))).toNatClampNeg) (xs ((x3 + (2 : Int32))).toNatClampNeg) M) fun z186 M187 => gd (inb (x3 + (1 : Int32)) L) (gd (inb (x3 + (2 : Int32)) L) (bW (fX5_tells (xs ((x3 + (1 : Int32))).toNatClampNeg) (xs ((x3 + (2 : Int32))).toNatClampNeg) M187) fun z190 M191 => if z186 = z190 then fL_law_18 L xs n (x3 + 6) M191 else some (false, M191))))) else if ((xs (x3).toNatClampNeg) &&& (63 : Int32)) = 22 then gd (inb (x3 + (1 : Int32)) L) (gd (inb (x3 + (2 : Int32)) L) (gd (inb (x3 + (3 : Int32)) L) (bW (fX4_wreck (xs ((x3 + (1 : Int32))).toNatClampNeg) (xs ((x3 + (2 : Int32))).toNatClampNeg) (xs ((x3 + (3 : Int32))).toNatClampNeg) M) fun z176 M177 => gd (inb (x3 + (1 : Int32)) L) (gd (inb (x3 + (2 : Int32)) L) (gd (inb (x3 + (3 : Int32)) L) (bW (fX5_wreck (xs ((x3 + (1 : Int32))).toNatClampNeg) (xs ((x3 + (2 : Int32))).toNatClampNeg) (xs ((x3 + (3 : Int32))).toNatClampNeg) M177) fun z181 M182 => if z176 = z181 then fL_law_18 L xs n (x3 + 6) M182 else some (false, M182))))))) else if ((xs (x3).toNatClampNeg) &&& (63 : Int32)) = 23 then gd (inb (x3 + (1 : Int32)) L) (gd (inb (x3 + (2 : Int32)) L) (gd (inb (x3 + (3 : Int32)) L) (bW (fX4_through (xs ((x3 + (1 : Int32))).toNatClampNeg) (xs ((x3 + (2 : Int32))).toNatClampNeg) (xs ((x3 + (3 : Int32))).toNatClampNeg) M) fun z165 M166 => gd (inb (x3 + (1 : Int32)) L) (gd (inb (x3 + (2 : Int32)) L) (gd (inb (x3 + (3 : Int32)) L) (bW (fX5_through (xs ((x3 + (1 : Int32))).toNatClampNeg) (xs ((x3 + (2 : Int32))).toNatClampNeg) (xs ((x3 + (3 : Int32))).toNatClampNeg) M166) fun z170 M171 => if z165 = z170 then fL_law_18 L xs n (x3 + 6) M171 else some (false, M171))))))) else if ((xs (x3).toNatClampNeg) &&& (63 : Int32)) = 24 then gd (inb (x3 + (1 : Int32)) L) (gd (inb (x3 + (2 : Int32)) L) (gd (inb (x3 + (3 : Int32)) L) (bW (fX4_sure (xs ((x3 + (1 : Int32))).toNatClampNeg) (xs ((x3 + (2 : Int32))).toNatClampNeg) (xs ((x3 + (3 : Int32))).toNatClampNeg) M) fun z154 M155 => gd (inb (x3 + (1 : Int32)) L) (gd (inb (x3 + (2 : Int32)) L) (gd (inb (x3 + (3 : Int32)) L) (bW (fX5_sure (xs ((x3 + (1 : Int32))).toNatClampNeg) (xs ((x3 + (2 : Int32))).toNatClampNeg) (xs ((x3 + (3 : Int32))).toNatClampNeg) M155) fun z159 M160 => if z154 = z159 then fL_law_18 L xs n (x3 + 6) M160 else some (false, M160))))))) else if ((xs (x3).toNatClampNeg) &&& (63 : Int32)) = 25 then gd (inb (x3 + (1 : Int32)) L) (gd (inb (x3 + (2 : Int32)) L) (gd (inb (x3 + (3 : Int32)) L) (bW (fX4_safest (xs ((x3 + (1 : Int32))).toNatClampNeg) (xs ((x3 + (2 : Int32))).toNatClampNeg) (xs ((x3 + (3 : Int32))).toNatClampNeg) M) fun z143 M144 => gd (inb (x3 + (1 : Int32)) L) (gd (inb (x3 + (2 : Int32)) L) (gd (inb (x3 + (3 : Int32)) L) (bW (fX5_safest (xs ((x3 + (1 : Int32))).toNatClampNeg) (xs ((x3 + (2 : Int32))).toNatClampNeg) (xs ((x3 + (3 : Int32))).toNatClampNeg) M144) fun z148 M149 => if z143 = z148 then fL_law_18 L xs n (x3 + 6) M149 else some (false, M149))))))) else if ((xs (x3).toNatClampNeg) &&& (63 : Int32)) = 26 then gd (inb (x3 + (1 : Int32)) L) (gd (inb (x3 + (2 : Int32)) L) (bW (fX4_worth (xs ((x3 + (1 : Int32))).toNatClampNeg) (xs ((x3 + (2 : Int32))).toNatClampNeg) M) fun z133 M134 => gd (inb (x3 + (1 : Int32)) L) (gd (inb (x3 + (2 : Int32)) L) (bW (fX5_worth (xs ((x3 + (1 : Int32))).toNatClampNeg) (xs ((x3 + (2 : Int32))).toNatClampNeg) M134) fun z137 M138 => if z133 = z137 then fL_law_18 L xs n (x3 + 6) M138 else some (false, M138))))) else if ((xs (x3).toNatClampNeg) &&& (63 : Int32)) = 27 then gd (inb (x3 + (1 : Int32)) L) (gd (inb (x3 + (2 : Int32)) L) (gd (inb (x3 + (3 : Int32)) L) (gd (inb (x3 + (4 : Int32)) L) (bW (fX4_season (xs ((x3 + (1 : Int32))).toNatClampNeg) (xs ((x3 + (2 : Int32))).toNatClampNeg) (xs ((x3 + (3 : Int32))).toNatClampNeg) (xs ((x3 + (4 : Int32))).toNatClampNeg) M) fun z122 M123 => gd (inb (x3 + (1 : Int32)) L) (gd (inb (x3 + (2 : Int32)) L) (gd (inb (x3 + (3 : Int32)) L) (gd (inb (x3 + (4 : Int32)) L) (bW (fX5_season (xs ((x3 + (1 : Int32))).toNatClampNeg) (xs ((x3 + (2 : Int32))).toNatClampNeg) (xs ((x3 + (3 : Int32))).toNatClampNeg) (xs ((x3 + (4 : Int32))).toNatClampNeg) M123) fun z128 M129 => if z122 = z128 then fL_law_18 L xs n (x3 + 6) M129 else some (false, M129))))))))) else if ((xs (x3).toNatClampNeg) &&& (63 : Int32)) = 28 then gd (inb (x3 + (1 : Int32)) L) (gd (inb (x3 + (2 : Int32)) L) (gd (inb (x3 + (3 : Int32)) L) (bW (fX4_sheet (xs ((x3 + (1 : Int32))).toNatClampNeg) (xs ((x3 + (2 : Int32))).toNatClampNeg) (xs ((x3 + (3 : Int32))).toNatClampNeg) M) fun z110 M111 => gd (inb (x3 + (1 : Int32)) L) (gd (inb (x3 + (2 : Int32)) L) (gd (inb (x3 + (3 : Int32)) L) (bW (fX5_sheet (xs ((x3 + (1 : Int32))).toNatClampNeg) (xs ((x3 + (2 : Int32))).toNatClampNeg) (xs ((x3 + (3 : Int32))).toNatClampNeg) M111) fun z115 M116 => if z110 = z115 then fL_law_18 L xs n (x3 + 6) M116 else some (false, M116))))))) else if ((xs (x3).toNatClampNeg) &&& (63 : Int32)) = 29 then gd (inb (x3 + (1 : Int32)) L) (bW (fX4_lose (xs ((x3 + (1 : Int32))).toNatClampNeg) M) fun z101 M102 => gd (inb (x3 + (1 : Int32)) L) (bW (fX5_lose (xs ((x3 + (1 : Int32))).toNatClampNeg) M102) fun z104 M105 => if z101 = z104 then fL_law_18 L xs n (x3 + 6) M105 else some (false, M105))) else if ((xs (x3).toNatClampNeg) &&& (63 : Int32)) = 30 then gd (inb (x3 + (1 : Int32)) L) (gd (inb (x3 + (2 : Int32)) L) (gd (inb (x3 + (3 : Int32)) L) (gd (inb (x3 + (4 : Int32)) L) (bW (fX4_lay (xs ((x3 + (1 : Int32))).toNatClampNeg) (xs ((x3 + (2 : Int32))).toNatClampNeg) (xs ((x3 + (3 : Int32))).toNatClampNeg) (xs ((x3 + (4 : Int32))).toNatClampNeg) M) fun z91 M92 => gd (inb (x3 + (1 : Int32)) L) (gd (inb (x3 + (2 : Int32)) L) (gd (inb (x3 + (3 : Int32)) L) (gd (inb (x3 + (4 : Int32)) L) (bW (fX5_lay (xs ((x3 + (1 : Int32))).toNatClampNeg) (xs ((x3 + (2 : Int32))).toNatClampNeg) (xs ((x3 + (3 : Int32))).toNatClampNeg) (xs ((x3 + (4 : Int32))).toNatClampNeg) M92) fun z97 M98 => if z91 = z97 then fL_law_18 L xs n (x3 + 6) M98 else some (false, M98))))))))) else if ((xs (x3).toNatClampNeg) &&& (63 : Int32)) = 31 then gd (inb (x3 + (1 : Int32)) L) (gd (inb (x3 + (2 : Int32)) L) (gd (inb (x3 + (3 : Int32)) L) (bW (fX4_get (xs ((x3 + (1 : Int32))).toNatClampNeg) (xs ((x3 + (2 : Int32))).toNatClampNeg) (xs ((x3 + (3 : Int32))).toNatClampNeg) M) fun z79 M80 => gd (inb (x3 + (1 : Int32)) L) (gd (inb (x3 + (2 : Int32)) L) (gd (inb (x3 + (3 : Int32)) L) (bW (fX5_get (xs ((x3 + (1 : Int32))).toNatClampNeg) (xs ((x3 + (2 : Int32))).toNatClampNeg) (xs ((x3 + (3 : Int32))).toNatClampNeg) M80) fun z84 M85 => if z79 = z84 then fL_law_18 L xs n (x3 + 6) M85 else some (false, M85))))))) else if ((xs (x3).toNatClampNeg) &&& (63 : Int32)) = 32 then gd (inb (x3 + (1 : Int32)) L) (gd (inb (x3 + (2 : Int32)) L) (gd (inb (x3 + (3 : Int32)) L) (gd (inb (x3 + (4 : Int32)) L) (gd (inb (x3 + (5 : Int32)) L) (bW (fX4_copy (xs ((x3 + (1 : Int32))).toNatClampNeg) (xs ((x3 + (2 : Int32))).toNatClampNeg) (xs ((x3 + (3 : Int32))).toNatClampNeg) (xs ((x3 + (4 : Int32))).toNatClampNeg) (xs ((x3 + (5 : Int32))).toNatClampNeg) M) fun z66 M67 => gd (inb (x3 + (1 : Int32)) L) (gd (inb (x3 + (2 : Int32)) L) (gd (inb (x3 + (3 : Int32)) L) (gd (inb (x3 + (4 : Int32)) L) (gd (inb (x3 + (5 : Int32)) L) (bW (fX5_copy (xs ((x3 + (1 : Int32))).toNatClampNeg) (xs ((x3 + (2 : Int32))).toNatClampNeg) (xs ((x3 + (3 : Int32))).toNatClampNeg) (xs ((x3 + (4 : Int32))).toNatClampNeg) (xs ((x3 + (5 : Int32))).toNatClampNeg) M67) fun z73 M74 => if z66 = z73 then fL_law_18 L xs n (x3 + 6) M74 else some (false, M74))))))))))) else if ((xs (x3).toNatClampNeg) &&& (63 : Int32)) = 33 then gd (inb (x3 + (1 : Int32)) L) (gd (inb (x3 + (2 : Int32)) L) (gd (inb (x3 + (3 : Int32)) L) (bW (fX4_write (xs ((x3 + (1 : Int32))).toNatClampNeg) (xs ((x3 + (2 : Int32))).toNatClampNeg) (xs ((x3 + (3 : Int32))).toNatClampNeg) M) fun z53 M54 => gd (inb (x3 + (1 : Int32)) L) (gd (inb (x3 + (2 : Int32)) L) (gd (inb (x3 + (3 : Int32)) L) (bW (fX5_write (xs ((x3 + (1 : Int32))).toNatClampNeg) (xs ((x3 + (2 : Int32))).toNatClampNeg) (xs ((x3 + (3 : Int32))).toNatClampNeg) M54) fun z58 M59 => if z53 = z58 then fL_law_18 L xs n (x3 + 6) M59 else some (false, M59))))))) else if ((xs (x3).toNatClampNeg) &&& (63 : Int32)) = 34 then gd (inb (x3 + (1 : Int32)) L) (bW (fX4_count (xs ((x3 + (1 : Int32))).toNatClampNeg) M) fun z44 M45 => gd (inb (x3 + (1 : Int32)) L) (bW (fX5_count (xs ((x3 + (1 : Int32))).toNatClampNeg) M45) fun z47 M48 => if z44 = z47 then fL_law_18 L xs n (x3 + 6) M48 else some (false, M48))) else if ((xs (x3).toNatClampNeg) &&& (63 : Int32)) = 35 then bW (fX4_digest M) fun z38 M39 => bW (fX5_digest M39) fun z40 M41 => if (lg_cmp z38 z40) = 0 then fL_law_18 L xs n (x3 + 6) M41 else some (false, M41) else fL_law_18 L xs n (x3 + 6) M)
set_option maxHeartbeats 4000000 in
set_option maxRecDepth 100000 in
theorem vL_law_18 {p : Program} {l : Launch} {e : Env} {s : State} {m : MethodId} {below : List Frame} {meth : Method} {c : Code} {D : va_G} {T3 : ClassId × ClassId × ClassId} {ad sd : Nat → Nat} {b : Nat}  (C : CX p s m #[Value.ref b] meth c code 4 RL ret D T3 ad sd (lA s)) {M9 : Mem} (L : Nat) (xs : Nat → Int32) (hX : va_X b L xs s s.heap) (hbl : b < s.heap.size) (hbA : ¬ lA s b) : ∀ (n : Nat) (x3 : Int32) (M : Mem), fL_law_18 L xs n x3 M = some (true, M9) → VV p l e room_1 s m #[Value.ref b] below meth c D T3 ad (lA s) 4 40 1186 (lw_Z below #[Value.ref b] s) M [(0, .ref b), (1, .ref (ad 0)), (2, .ref (ad 26)), (3, .int x3)] 18 [] := by
  intro n
  induction n with
  | zero => intro x3 M h; exact nomatch (show (none : Option (Bool × Mem)) = some _ from h)
  | succ n ih =>
    intro x3 M h
    rw [fL_law_18] at h
    refine V_iload_n C 3 dL_law_18 rfl ?_
    refine V_aload_n C 0 dL_law_19 rfl ?_
    refine V_xlen C hX hbl hbA dL_law_20 ?_
    refine V_bipush C (6 : Int32) dL_law_21 (by decide) ?_
    refine V_isub C dL_law_23 ?_
    refine V_icmp_gt C 1357 dL_law_24 (by decide) (fun q349 => ?_) (fun q349 => ?_)
    · replace h := ite_p q349 h
      refine V_iconst C (1 : Int32) dL_law_1357 (by decide) ?_
      exact V_lawret C dL_law_1358
    · replace h := ite_n q349 h
      refine V_aload_n C 0 dL_law_27 rfl ?_
      refine V_iload_n C 3 dL_law_28 rfl ?_
      obtain ⟨g1, h⟩ := gd_t h
      refine V_xld C hX hbl hbA (inb_in g1) dL_law_29 ?_
      refine V_bipush C (63 : Int32) dL_law_30 (by decide) ?_
      refine V_iand C dL_law_32 ?_
      by_cases q2 : ((xs (x3).toNatClampNeg) &&& (63 : Int32)) = 0
      · replace h := ite_p q2 h
        refine V_tblI C 192 dL_law_33 (by rw [q2]; decide) (by rw [q2]; decide) (by rw [q2]; rfl) (by decide) ?_
        refine V_aload_n C 1 dL_law_192 rfl ?_
        refine V_aload_n C 0 dL_law_193 rfl ?_
        refine V_iload_n C 3 dL_law_194 rfl ?_
        refine V_iconst C (1 : Int32) dL_law_195 (by decide) ?_
        refine V_iadd C dL_law_196 ?_
        obtain ⟨g342, h⟩ := gd_t h
        refine V_xld C hX hbl hbA (inb_in g342) dL_law_197 ?_
        obtain ⟨z343, M344, hz343, h⟩ := bW_t h
        refine V_callV C (st := []) (st' := [.int z343]) (mX4_type l (xs ((x3 + (1 : Int32))).toNatClampNeg) M hz343) wmX4_type lkL_13 dL_law_198 (wo_0 T3 ad _) rfl rfl rfl rfl rfl rfl ⟨rfl, rfl, (Nat.le_of_ble_eq_true rfl), (Nat.le_of_ble_eq_true rfl)⟩ ⟨Nat.le_of_ble_eq_true rfl, Nat.le_of_ble_eq_true rfl⟩ (Nat.le_of_ble_eq_true rfl) ?_
        refine V_aload_n C 2 dL_law_201 rfl ?_
        refine V_aload_n C 0 dL_law_202 rfl ?_
        refine V_iload_n C 3 dL_law_203 rfl ?_
        refine V_iconst C (1 : Int32) dL_law_204 (by decide) ?_
        refine V_iadd C dL_law_205 ?_
        obtain ⟨g345, h⟩ := gd_t h
        refine V_xld C hX hbl hbA (inb_in g345) dL_law_206 ?_
        obtain ⟨z346, M347, hz346, h⟩ := bW_t h
        refine V_callV C (st := [.int z343]) (st' := [.int z346, .int z343]) (mX5_type l (xs ((x3 + (1 : Int32))).toNatClampNeg) M344 hz346) wmX5_type lkL_17 dL_law_207 (wo_26 T3 ad _) rfl rfl rfl rfl rfl rfl ⟨rfl, rfl, (Nat.le_of_ble_eq_true rfl), (Nat.le_of_ble_eq_true rfl)⟩ ⟨Nat.le_of_ble_eq_true rfl, Nat.le_of_ble_eq_true rfl⟩ (Nat.le_of_ble_eq_true rfl) ?_
        refine V_icmp_eq C 1351 dL_law_210 (by decide) (fun q348 => ?_) (fun q348 => ?_)
        · replace h := ite_p q348 h
          refine V_iinc C 3 (x3 + 6) [(3, .int (x3 + 6)), (0, .ref b), (1, .ref (ad 0)), (2, .ref (ad 26))] dL_law_1351 rfl rfl (by decide) rfl ?_
          refine V_goto C 18 dL_law_1354 (by decide) ?_
          refine V_sub (lv' := [(0, .ref b), (1, .ref (ad 0)), (2, .ref (ad 26)), (3, .int (x3 + 6))]) [1, 2, 3, 0] rfl ?_
          exact ih (x3 + 6) M347 h
        · replace h := ite_n q348 h
          refine V_iconst C (0 : Int32) dL_law_213 (by decide) ?_
          exact absurd (ret_W h).1 (by decide)
      · replace h := ite_n q2 h
        by_cases q3 : ((xs (x3).toNatClampNeg) &&& (63 : Int32)) = 1
        · replace h := ite_p q3 h
          refine V_tblI C 215 dL_law_33 (by rw [q3]; decide) (by rw [q3]; decide) (by rw [q3]; rfl) (by decide) ?_
          refine V_aload_n C 1 dL_law_215 rfl ?_
          obtain ⟨z337, M338, hz337, h⟩ := bW_t h
          refine V_callV C (st := []) (st' := [.int z337]) (mX4_wipe l M hz337) wmX4_wipe lkL_18 dL_law_216 (wo_0 T3 ad _) rfl rfl rfl rfl rfl rfl ⟨rfl, rfl, (Nat.le_of_ble_eq_true rfl), (Nat.le_of_ble_eq_true rfl)⟩ ⟨Nat.le_of_ble_eq_true rfl, Nat.le_of_ble_eq_true rfl⟩ (Nat.le_of_ble_eq_true rfl) ?_
          refine V_aload_n C 2 dL_law_219 rfl ?_
          obtain ⟨z339, M340, hz339, h⟩ := bW_t h
          refine V_callV C (st := [.int z337]) (st' := [.int z339, .int z337]) (mX5_wipe l M338 hz339) wmX5_wipe lkL_22 dL_law_220 (wo_26 T3 ad _) rfl rfl rfl rfl rfl rfl ⟨rfl, rfl, (Nat.le_of_ble_eq_true rfl), (Nat.le_of_ble_eq_true rfl)⟩ ⟨Nat.le_of_ble_eq_true rfl, Nat.le_of_ble_eq_true rfl⟩ (Nat.le_of_ble_eq_true rfl) ?_
          refine V_icmp_eq C 1351 dL_law_223 (by decide) (fun q341 => ?_) (fun q341 => ?_)
          · replace h := ite_p q341 h
            refine V_iinc C 3 (x3 + 6) [(3, .int (x3 + 6)), (0, .ref b), (1, .ref (ad 0)), (2, .ref (ad 26))] dL_law_1351 rfl rfl (by decide) rfl ?_
            refine V_goto C 18 dL_law_1354 (by decide) ?_
            refine V_sub (lv' := [(0, .ref b), (1, .ref (ad 0)), (2, .ref (ad 26)), (3, .int (x3 + 6))]) [1, 2, 3, 0] rfl ?_
            exact ih (x3 + 6) M340 h
          · replace h := ite_n q341 h
            refine V_iconst C (0 : Int32) dL_law_226 (by decide) ?_
            exact absurd (ret_W h).1 (by decide)
        · replace h := ite_n q3 h
          by_cases q4 : ((xs (x3).toNatClampNeg) &&& (63 : Int32)) = 2
          · replace h := ite_p q4 h
            refine V_tblI C 228 dL_law_33 (by rw [q4]; decide) (by rw [q4]; decide) (by rw [q4]; rfl) (by decide) ?_
            refine V_aload_n C 1 dL_law_228 rfl ?_
            obtain ⟨z332, M333, hz332, h⟩ := bW_t h
            refine V_callV C (st := []) (st' := [.int z332]) (mX4_undo l M hz332) wmX4_undo lkL_23 dL_law_229 (wo_0 T3 ad _) rfl rfl rfl rfl rfl rfl ⟨rfl, rfl, (Nat.le_of_ble_eq_true rfl), (Nat.le_of_ble_eq_true rfl)⟩ ⟨Nat.le_of_ble_eq_true rfl, Nat.le_of_ble_eq_true rfl⟩ (Nat.le_of_ble_eq_true rfl) ?_
            refine V_aload_n C 2 dL_law_232 rfl ?_
            obtain ⟨z334, M335, hz334, h⟩ := bW_t h
            refine V_callV C (st := [.int z332]) (st' := [.int z334, .int z332]) (mX5_undo l M333 hz334) wmX5_undo lkL_26 dL_law_233 (wo_26 T3 ad _) rfl rfl rfl rfl rfl rfl ⟨rfl, rfl, (Nat.le_of_ble_eq_true rfl), (Nat.le_of_ble_eq_true rfl)⟩ ⟨Nat.le_of_ble_eq_true rfl, Nat.le_of_ble_eq_true rfl⟩ (Nat.le_of_ble_eq_true rfl) ?_
            refine V_icmp_eq C 1351 dL_law_236 (by decide) (fun q336 => ?_) (fun q336 => ?_)
            · replace h := ite_p q336 h
              refine V_iinc C 3 (x3 + 6) [(3, .int (x3 + 6)), (0, .ref b), (1, .ref (ad 0)), (2, .ref (ad 26))] dL_law_1351 rfl rfl (by decide) rfl ?_
              refine V_goto C 18 dL_law_1354 (by decide) ?_
              refine V_sub (lv' := [(0, .ref b), (1, .ref (ad 0)), (2, .ref (ad 26)), (3, .int (x3 + 6))]) [1, 2, 3, 0] rfl ?_
              exact ih (x3 + 6) M335 h
            · replace h := ite_n q336 h
              refine V_iconst C (0 : Int32) dL_law_239 (by decide) ?_
              exact absurd (ret_W h).1 (by decide)
          · replace h := ite_n q4 h
            by_cases q5 : ((xs (x3).toNatClampNeg) &&& (63 : Int32)) = 3
            · replace h := ite_p q5 h
              refine V_tblI C 241 dL_law_33 (by rw [q5]; decide) (by rw [q5]; decide) (by rw [q5]; rfl) (by decide) ?_
              refine V_aload_n C 1 dL_law_241 rfl ?_
              refine V_callV C (st := []) (st' := [.int (fX4_fault M)]) (mX4_fault l M rfl) wmX4_fault lkL_27 dL_law_242 (wo_0 T3 ad _) rfl rfl rfl rfl rfl rfl ⟨rfl, rfl, (Nat.le_of_ble_eq_true rfl), (Nat.le_of_ble_eq_true rfl)⟩ ⟨Nat.le_of_ble_eq_true rfl, Nat.le_of_ble_eq_true rfl⟩ (Nat.le_of_ble_eq_true rfl) ?_
              refine V_aload_n C 2 dL_law_245 rfl ?_
              obtain ⟨z329, M330, hz329, h⟩ := bW_t h
              refine V_callV C (st := [.int (fX4_fault M)]) (st' := [.int z329, .int (fX4_fault M)]) (mX5_fault l M hz329) wmX5_fault lkL_30 dL_law_246 (wo_26 T3 ad _) rfl rfl rfl rfl rfl rfl ⟨rfl, rfl, (Nat.le_of_ble_eq_true rfl), (Nat.le_of_ble_eq_true rfl)⟩ ⟨Nat.le_of_ble_eq_true rfl, Nat.le_of_ble_eq_true rfl⟩ (Nat.le_of_ble_eq_true rfl) ?_
              refine V_icmp_eq C 1351 dL_law_249 (by decide) (fun q331 => ?_) (fun q331 => ?_)
              · replace h := ite_p q331 h
                refine V_iinc C 3 (x3 + 6) [(3, .int (x3 + 6)), (0, .ref b), (1, .ref (ad 0)), (2, .ref (ad 26))] dL_law_1351 rfl rfl (by decide) rfl ?_
                refine V_goto C 18 dL_law_1354 (by decide) ?_
                refine V_sub (lv' := [(0, .ref b), (1, .ref (ad 0)), (2, .ref (ad 26)), (3, .int (x3 + 6))]) [1, 2, 3, 0] rfl ?_
                exact ih (x3 + 6) M330 h
              · replace h := ite_n q331 h
                refine V_iconst C (0 : Int32) dL_law_252 (by decide) ?_
                exact absurd (ret_W h).1 (by decide)
            · replace h := ite_n q5 h
              by_cases q6 : ((xs (x3).toNatClampNeg) &&& (63 : Int32)) = 4
              · replace h := ite_p q6 h
                refine V_tblI C 254 dL_law_33 (by rw [q6]; decide) (by rw [q6]; decide) (by rw [q6]; rfl) (by decide) ?_
                refine V_aload_n C 1 dL_law_254 rfl ?_
                refine V_aload_n C 0 dL_law_255 rfl ?_
                refine V_iload_n C 3 dL_law_256 rfl ?_
                refine V_iconst C (1 : Int32) dL_law_257 (by decide) ?_
                refine V_iadd C dL_law_258 ?_
                obtain ⟨g321, h⟩ := gd_t h
                refine V_xld C hX hbl hbA (inb_in g321) dL_law_259 ?_
                refine V_aload_n C 0 dL_law_260 rfl ?_
                refine V_iload_n C 3 dL_law_261 rfl ?_
                refine V_iconst C (2 : Int32) dL_law_262 (by decide) ?_
                refine V_iadd C dL_law_263 ?_
                obtain ⟨g322, h⟩ := gd_t h
                refine V_xld C hX hbl hbA (inb_in g322) dL_law_264 ?_
                obtain ⟨z323, hz323, h⟩ := bP_t h
                refine V_callV C (st := []) (st' := [.int z323]) (mX4_channel l (xs ((x3 + (1 : Int32))).toNatClampNeg) (xs ((x3 + (2 : Int32))).toNatClampNeg) M hz323) wmX4_channel lkL_31 dL_law_265 (wo_0 T3 ad _) rfl rfl rfl rfl rfl rfl ⟨rfl, rfl, (Nat.le_of_ble_eq_true rfl), (Nat.le_of_ble_eq_true rfl)⟩ ⟨Nat.le_of_ble_eq_true rfl, Nat.le_of_ble_eq_true rfl⟩ (Nat.le_of_ble_eq_true rfl) ?_
                refine V_aload_n C 2 dL_law_268 rfl ?_
                refine V_aload_n C 0 dL_law_269 rfl ?_
                refine V_iload_n C 3 dL_law_270 rfl ?_
                refine V_iconst C (1 : Int32) dL_law_271 (by decide) ?_
                refine V_iadd C dL_law_272 ?_
                obtain ⟨g324, h⟩ := gd_t h
                refine V_xld C hX hbl hbA (inb_in g324) dL_law_273 ?_
                refine V_aload_n C 0 dL_law_274 rfl ?_
                refine V_iload_n C 3 dL_law_275 rfl ?_
                refine V_iconst C (2 : Int32) dL_law_276 (by decide) ?_
                refine V_iadd C dL_law_277 ?_
                obtain ⟨g325, h⟩ := gd_t h
                refine V_xld C hX hbl hbA (inb_in g325) dL_law_278 ?_
                obtain ⟨z326, M327, hz326, h⟩ := bW_t h
                refine V_callV C (st := [.int z323]) (st' := [.int z326, .int z323]) (mX5_channel l (xs ((x3 + (1 : Int32))).toNatClampNeg) (xs ((x3 + (2 : Int32))).toNatClampNeg) M hz326) wmX5_channel lkL_35 dL_law_279 (wo_26 T3 ad _) rfl rfl rfl rfl rfl rfl ⟨rfl, rfl, (Nat.le_of_ble_eq_true rfl), (Nat.le_of_ble_eq_true rfl)⟩ ⟨Nat.le_of_ble_eq_true rfl, Nat.le_of_ble_eq_true rfl⟩ (Nat.le_of_ble_eq_true rfl) ?_
                refine V_icmp_eq C 1351 dL_law_282 (by decide) (fun q328 => ?_) (fun q328 => ?_)
                · replace h := ite_p q328 h
                  refine V_iinc C 3 (x3 + 6) [(3, .int (x3 + 6)), (0, .ref b), (1, .ref (ad 0)), (2, .ref (ad 26))] dL_law_1351 rfl rfl (by decide) rfl ?_
                  refine V_goto C 18 dL_law_1354 (by decide) ?_
                  refine V_sub (lv' := [(0, .ref b), (1, .ref (ad 0)), (2, .ref (ad 26)), (3, .int (x3 + 6))]) [1, 2, 3, 0] rfl ?_
                  exact ih (x3 + 6) M327 h
                · replace h := ite_n q328 h
                  refine V_iconst C (0 : Int32) dL_law_285 (by decide) ?_
                  exact absurd (ret_W h).1 (by decide)
              · replace h := ite_n q6 h
                by_cases q7 : ((xs (x3).toNatClampNeg) &&& (63 : Int32)) = 5
                · replace h := ite_p q7 h
                  refine V_tblI C 287 dL_law_33 (by rw [q7]; decide) (by rw [q7]; decide) (by rw [q7]; rfl) (by decide) ?_
                  refine V_aload_n C 1 dL_law_287 rfl ?_
                  refine V_aload_n C 0 dL_law_288 rfl ?_
                  refine V_iload_n C 3 dL_law_289 rfl ?_
                  refine V_iconst C (1 : Int32) dL_law_290 (by decide) ?_
                  refine V_iadd C dL_law_291 ?_
                  obtain ⟨g314, h⟩ := gd_t h
                  refine V_xld C hX hbl hbA (inb_in g314) dL_law_292 ?_
                  obtain ⟨z315, M316, hz315, h⟩ := bW_t h
                  refine V_callV C (st := []) (st' := [.int z315]) (mX4_storm l (xs ((x3 + (1 : Int32))).toNatClampNeg) M hz315) wmX4_storm lkL_36 dL_law_293 (wo_0 T3 ad _) rfl rfl rfl rfl rfl rfl ⟨rfl, rfl, (Nat.le_of_ble_eq_true rfl), (Nat.le_of_ble_eq_true rfl)⟩ ⟨Nat.le_of_ble_eq_true rfl, Nat.le_of_ble_eq_true rfl⟩ (Nat.le_of_ble_eq_true rfl) ?_
                  refine V_aload_n C 2 dL_law_296 rfl ?_
                  refine V_aload_n C 0 dL_law_297 rfl ?_
                  refine V_iload_n C 3 dL_law_298 rfl ?_
                  refine V_iconst C (1 : Int32) dL_law_299 (by decide) ?_
                  refine V_iadd C dL_law_300 ?_
                  obtain ⟨g317, h⟩ := gd_t h
                  refine V_xld C hX hbl hbA (inb_in g317) dL_law_301 ?_
                  obtain ⟨z318, M319, hz318, h⟩ := bW_t h
                  refine V_callV C (st := [.int z315]) (st' := [.int z318, .int z315]) (mX5_storm l (xs ((x3 + (1 : Int32))).toNatClampNeg) M316 hz318) wmX5_storm lkL_39 dL_law_302 (wo_26 T3 ad _) rfl rfl rfl rfl rfl rfl ⟨rfl, rfl, (Nat.le_of_ble_eq_true rfl), (Nat.le_of_ble_eq_true rfl)⟩ ⟨Nat.le_of_ble_eq_true rfl, Nat.le_of_ble_eq_true rfl⟩ (Nat.le_of_ble_eq_true rfl) ?_
                  refine V_icmp_eq C 1351 dL_law_305 (by decide) (fun q320 => ?_) (fun q320 => ?_)
                  · replace h := ite_p q320 h
                    refine V_iinc C 3 (x3 + 6) [(3, .int (x3 + 6)), (0, .ref b), (1, .ref (ad 0)), (2, .ref (ad 26))] dL_law_1351 rfl rfl (by decide) rfl ?_
                    refine V_goto C 18 dL_law_1354 (by decide) ?_
                    refine V_sub (lv' := [(0, .ref b), (1, .ref (ad 0)), (2, .ref (ad 26)), (3, .int (x3 + 6))]) [1, 2, 3, 0] rfl ?_
                    exact ih (x3 + 6) M319 h
                  · replace h := ite_n q320 h
                    refine V_iconst C (0 : Int32) dL_law_308 (by decide) ?_
                    exact absurd (ret_W h).1 (by decide)
                · replace h := ite_n q7 h
                  by_cases q8 : ((xs (x3).toNatClampNeg) &&& (63 : Int32)) = 6
                  · replace h := ite_p q8 h
                    refine V_tblI C 310 dL_law_33 (by rw [q8]; decide) (by rw [q8]; decide) (by rw [q8]; rfl) (by decide) ?_
                    refine V_aload_n C 1 dL_law_310 rfl ?_
                    obtain ⟨z309, M310, hz309, h⟩ := bW_t h
                    refine V_callV C (st := []) (st' := [.int z309]) (mX4_calm l M hz309) wmX4_calm lkL_40 dL_law_311 (wo_0 T3 ad _) rfl rfl rfl rfl rfl rfl ⟨rfl, rfl, (Nat.le_of_ble_eq_true rfl), (Nat.le_of_ble_eq_true rfl)⟩ ⟨Nat.le_of_ble_eq_true rfl, Nat.le_of_ble_eq_true rfl⟩ (Nat.le_of_ble_eq_true rfl) ?_
                    refine V_aload_n C 2 dL_law_314 rfl ?_
                    obtain ⟨z311, M312, hz311, h⟩ := bW_t h
                    refine V_callV C (st := [.int z309]) (st' := [.int z311, .int z309]) (mX5_calm l M310 hz311) wmX5_calm lkL_43 dL_law_315 (wo_26 T3 ad _) rfl rfl rfl rfl rfl rfl ⟨rfl, rfl, (Nat.le_of_ble_eq_true rfl), (Nat.le_of_ble_eq_true rfl)⟩ ⟨Nat.le_of_ble_eq_true rfl, Nat.le_of_ble_eq_true rfl⟩ (Nat.le_of_ble_eq_true rfl) ?_
                    refine V_icmp_eq C 1351 dL_law_318 (by decide) (fun q313 => ?_) (fun q313 => ?_)
                    · replace h := ite_p q313 h
                      refine V_iinc C 3 (x3 + 6) [(3, .int (x3 + 6)), (0, .ref b), (1, .ref (ad 0)), (2, .ref (ad 26))] dL_law_1351 rfl rfl (by decide) rfl ?_
                      refine V_goto C 18 dL_law_1354 (by decide) ?_
                      refine V_sub (lv' := [(0, .ref b), (1, .ref (ad 0)), (2, .ref (ad 26)), (3, .int (x3 + 6))]) [1, 2, 3, 0] rfl ?_
                      exact ih (x3 + 6) M312 h
                    · replace h := ite_n q313 h
                      refine V_iconst C (0 : Int32) dL_law_321 (by decide) ?_
                      exact absurd (ret_W h).1 (by decide)
                  · replace h := ite_n q8 h
                    by_cases q9 : ((xs (x3).toNatClampNeg) &&& (63 : Int32)) = 7
                    · replace h := ite_p q9 h
                      refine V_tblI C 323 dL_law_33 (by rw [q9]; decide) (by rw [q9]; decide) (by rw [q9]; rfl) (by decide) ?_
                      refine V_aload_n C 1 dL_law_323 rfl ?_
                      refine V_aload_n C 0 dL_law_324 rfl ?_
                      refine V_iload_n C 3 dL_law_325 rfl ?_
                      refine V_iconst C (1 : Int32) dL_law_326 (by decide) ?_
                      refine V_iadd C dL_law_327 ?_
                      obtain ⟨g302, h⟩ := gd_t h
                      refine V_xld C hX hbl hbA (inb_in g302) dL_law_328 ?_
                      obtain ⟨z303, M304, hz303, h⟩ := bW_t h
                      refine V_callV C (st := []) (st' := [.int z303]) (mX4_odds l (xs ((x3 + (1 : Int32))).toNatClampNeg) M hz303) wmX4_odds lkL_44 dL_law_329 (wo_0 T3 ad _) rfl rfl rfl rfl rfl rfl ⟨rfl, rfl, (Nat.le_of_ble_eq_true rfl), (Nat.le_of_ble_eq_true rfl)⟩ ⟨Nat.le_of_ble_eq_true rfl, Nat.le_of_ble_eq_true rfl⟩ (Nat.le_of_ble_eq_true rfl) ?_
                      refine V_aload_n C 2 dL_law_332 rfl ?_
                      refine V_aload_n C 0 dL_law_333 rfl ?_
                      refine V_iload_n C 3 dL_law_334 rfl ?_
                      refine V_iconst C (1 : Int32) dL_law_335 (by decide) ?_
                      refine V_iadd C dL_law_336 ?_
                      obtain ⟨g305, h⟩ := gd_t h
                      refine V_xld C hX hbl hbA (inb_in g305) dL_law_337 ?_
                      obtain ⟨z306, M307, hz306, h⟩ := bW_t h
                      refine V_callV C (st := [.int z303]) (st' := [.int z306, .int z303]) (mX5_odds l (xs ((x3 + (1 : Int32))).toNatClampNeg) M304 hz306) wmX5_odds lkL_47 dL_law_338 (wo_26 T3 ad _) rfl rfl rfl rfl rfl rfl ⟨rfl, rfl, (Nat.le_of_ble_eq_true rfl), (Nat.le_of_ble_eq_true rfl)⟩ ⟨Nat.le_of_ble_eq_true rfl, Nat.le_of_ble_eq_true rfl⟩ (Nat.le_of_ble_eq_true rfl) ?_
                      refine V_icmp_eq C 1351 dL_law_341 (by decide) (fun q308 => ?_) (fun q308 => ?_)
                      · replace h := ite_p q308 h
                        refine V_iinc C 3 (x3 + 6) [(3, .int (x3 + 6)), (0, .ref b), (1, .ref (ad 0)), (2, .ref (ad 26))] dL_law_1351 rfl rfl (by decide) rfl ?_
                        refine V_goto C 18 dL_law_1354 (by decide) ?_
                        refine V_sub (lv' := [(0, .ref b), (1, .ref (ad 0)), (2, .ref (ad 26)), (3, .int (x3 + 6))]) [1, 2, 3, 0] rfl ?_
                        exact ih (x3 + 6) M307 h
                      · replace h := ite_n q308 h
                        refine V_iconst C (0 : Int32) dL_law_344 (by decide) ?_
                        exact absurd (ret_W h).1 (by decide)
                    · replace h := ite_n q9 h
                      by_cases q10 : ((xs (x3).toNatClampNeg) &&& (63 : Int32)) = 8
                      · replace h := ite_p q10 h
                        refine V_tblI C 346 dL_law_33 (by rw [q10]; decide) (by rw [q10]; decide) (by rw [q10]; rfl) (by decide) ?_
                        refine V_aload_n C 1 dL_law_346 rfl ?_
                        refine V_aload_n C 0 dL_law_347 rfl ?_
                        refine V_iload_n C 3 dL_law_348 rfl ?_
                        refine V_iconst C (1 : Int32) dL_law_349 (by decide) ?_
                        refine V_iadd C dL_law_350 ?_
                        obtain ⟨g294, h⟩ := gd_t h
                        refine V_xld C hX hbl hbA (inb_in g294) dL_law_351 ?_
                        refine V_aload_n C 0 dL_law_352 rfl ?_
                        refine V_iload_n C 3 dL_law_353 rfl ?_
                        refine V_iconst C (2 : Int32) dL_law_354 (by decide) ?_
                        refine V_iadd C dL_law_355 ?_
                        obtain ⟨g295, h⟩ := gd_t h
                        refine V_xld C hX hbl hbA (inb_in g295) dL_law_356 ?_
                        obtain ⟨z296, hz296, h⟩ := bP_t h
                        refine V_callV C (st := []) (st' := [.int z296]) (mX4_deep l (xs ((x3 + (1 : Int32))).toNatClampNeg) (xs ((x3 + (2 : Int32))).toNatClampNeg) M hz296) wmX4_deep lkL_48 dL_law_357 (wo_0 T3 ad _) rfl rfl rfl rfl rfl rfl ⟨rfl, rfl, (Nat.le_of_ble_eq_true rfl), (Nat.le_of_ble_eq_true rfl)⟩ ⟨Nat.le_of_ble_eq_true rfl, Nat.le_of_ble_eq_true rfl⟩ (Nat.le_of_ble_eq_true rfl) ?_
                        refine V_aload_n C 2 dL_law_360 rfl ?_
                        refine V_aload_n C 0 dL_law_361 rfl ?_
                        refine V_iload_n C 3 dL_law_362 rfl ?_
                        refine V_iconst C (1 : Int32) dL_law_363 (by decide) ?_
                        refine V_iadd C dL_law_364 ?_
                        obtain ⟨g297, h⟩ := gd_t h
                        refine V_xld C hX hbl hbA (inb_in g297) dL_law_365 ?_
                        refine V_aload_n C 0 dL_law_366 rfl ?_
                        refine V_iload_n C 3 dL_law_367 rfl ?_
                        refine V_iconst C (2 : Int32) dL_law_368 (by decide) ?_
                        refine V_iadd C dL_law_369 ?_
                        obtain ⟨g298, h⟩ := gd_t h
                        refine V_xld C hX hbl hbA (inb_in g298) dL_law_370 ?_
                        obtain ⟨z299, M300, hz299, h⟩ := bW_t h
                        refine V_callV C (st := [.int z296]) (st' := [.int z299, .int z296]) (mX5_deep l (xs ((x3 + (1 : Int32))).toNatClampNeg) (xs ((x3 + (2 : Int32))).toNatClampNeg) M hz299) wmX5_deep lkL_51 dL_law_371 (wo_26 T3 ad _) rfl rfl rfl rfl rfl rfl ⟨rfl, rfl, (Nat.le_of_ble_eq_true rfl), (Nat.le_of_ble_eq_true rfl)⟩ ⟨Nat.le_of_ble_eq_true rfl, Nat.le_of_ble_eq_true rfl⟩ (Nat.le_of_ble_eq_true rfl) ?_
                        refine V_icmp_eq C 1351 dL_law_374 (by decide) (fun q301 => ?_) (fun q301 => ?_)
                        · replace h := ite_p q301 h
                          refine V_iinc C 3 (x3 + 6) [(3, .int (x3 + 6)), (0, .ref b), (1, .ref (ad 0)), (2, .ref (ad 26))] dL_law_1351 rfl rfl (by decide) rfl ?_
                          refine V_goto C 18 dL_law_1354 (by decide) ?_
                          refine V_sub (lv' := [(0, .ref b), (1, .ref (ad 0)), (2, .ref (ad 26)), (3, .int (x3 + 6))]) [1, 2, 3, 0] rfl ?_
                          exact ih (x3 + 6) M300 h
                        · replace h := ite_n q301 h
                          refine V_iconst C (0 : Int32) dL_law_377 (by decide) ?_
                          exact absurd (ret_W h).1 (by decide)
                      · replace h := ite_n q10 h
                        by_cases q11 : ((xs (x3).toNatClampNeg) &&& (63 : Int32)) = 9
                        · replace h := ite_p q11 h
                          refine V_tblI C 379 dL_law_33 (by rw [q11]; decide) (by rw [q11]; decide) (by rw [q11]; rfl) (by decide) ?_
                          refine V_aload_n C 1 dL_law_379 rfl ?_
                          refine V_aload_n C 0 dL_law_380 rfl ?_
                          refine V_iload_n C 3 dL_law_381 rfl ?_
                          refine V_iconst C (1 : Int32) dL_law_382 (by decide) ?_
                          refine V_iadd C dL_law_383 ?_
                          obtain ⟨g286, h⟩ := gd_t h
                          refine V_xld C hX hbl hbA (inb_in g286) dL_law_384 ?_
                          refine V_aload_n C 0 dL_law_385 rfl ?_
                          refine V_iload_n C 3 dL_law_386 rfl ?_
                          refine V_iconst C (2 : Int32) dL_law_387 (by decide) ?_
                          refine V_iadd C dL_law_388 ?_
                          obtain ⟨g287, h⟩ := gd_t h
                          refine V_xld C hX hbl hbA (inb_in g287) dL_law_389 ?_
                          obtain ⟨z288, hz288, h⟩ := bP_t h
                          refine V_callV C (st := []) (st' := [.int z288]) (mX4_map l (xs ((x3 + (1 : Int32))).toNatClampNeg) (xs ((x3 + (2 : Int32))).toNatClampNeg) M hz288) wmX4_map lkL_52 dL_law_390 (wo_0 T3 ad _) rfl rfl rfl rfl rfl rfl ⟨rfl, rfl, (Nat.le_of_ble_eq_true rfl), (Nat.le_of_ble_eq_true rfl)⟩ ⟨Nat.le_of_ble_eq_true rfl, Nat.le_of_ble_eq_true rfl⟩ (Nat.le_of_ble_eq_true rfl) ?_
                          refine V_aload_n C 2 dL_law_393 rfl ?_
                          refine V_aload_n C 0 dL_law_394 rfl ?_
                          refine V_iload_n C 3 dL_law_395 rfl ?_
                          refine V_iconst C (1 : Int32) dL_law_396 (by decide) ?_
                          refine V_iadd C dL_law_397 ?_
                          obtain ⟨g289, h⟩ := gd_t h
                          refine V_xld C hX hbl hbA (inb_in g289) dL_law_398 ?_
                          refine V_aload_n C 0 dL_law_399 rfl ?_
                          refine V_iload_n C 3 dL_law_400 rfl ?_
                          refine V_iconst C (2 : Int32) dL_law_401 (by decide) ?_
                          refine V_iadd C dL_law_402 ?_
                          obtain ⟨g290, h⟩ := gd_t h
                          refine V_xld C hX hbl hbA (inb_in g290) dL_law_403 ?_
                          obtain ⟨z291, M292, hz291, h⟩ := bW_t h
                          refine V_callV C (st := [.int z288]) (st' := [.int z291, .int z288]) (mX5_map l (xs ((x3 + (1 : Int32))).toNatClampNeg) (xs ((x3 + (2 : Int32))).toNatClampNeg) M hz291) wmX5_map lkL_55 dL_law_404 (wo_26 T3 ad _) rfl rfl rfl rfl rfl rfl ⟨rfl, rfl, (Nat.le_of_ble_eq_true rfl), (Nat.le_of_ble_eq_true rfl)⟩ ⟨Nat.le_of_ble_eq_true rfl, Nat.le_of_ble_eq_true rfl⟩ (Nat.le_of_ble_eq_true rfl) ?_
                          refine V_icmp_eq C 1351 dL_law_407 (by decide) (fun q293 => ?_) (fun q293 => ?_)
                          · replace h := ite_p q293 h
                            refine V_iinc C 3 (x3 + 6) [(3, .int (x3 + 6)), (0, .ref b), (1, .ref (ad 0)), (2, .ref (ad 26))] dL_law_1351 rfl rfl (by decide) rfl ?_
                            refine V_goto C 18 dL_law_1354 (by decide) ?_
                            refine V_sub (lv' := [(0, .ref b), (1, .ref (ad 0)), (2, .ref (ad 26)), (3, .int (x3 + 6))]) [1, 2, 3, 0] rfl ?_
                            exact ih (x3 + 6) M292 h
                          · replace h := ite_n q293 h
                            refine V_iconst C (0 : Int32) dL_law_410 (by decide) ?_
                            exact absurd (ret_W h).1 (by decide)
                        · replace h := ite_n q11 h
                          by_cases q12 : ((xs (x3).toNatClampNeg) &&& (63 : Int32)) = 10
                          · replace h := ite_p q12 h
                            refine V_tblI C 412 dL_law_33 (by rw [q12]; decide) (by rw [q12]; decide) (by rw [q12]; rfl) (by decide) ?_
                            refine V_aload_n C 1 dL_law_412 rfl ?_
                            refine V_aload_n C 0 dL_law_413 rfl ?_
                            refine V_iload_n C 3 dL_law_414 rfl ?_
                            refine V_iconst C (1 : Int32) dL_law_415 (by decide) ?_
                            refine V_iadd C dL_law_416 ?_
                            obtain ⟨g275, h⟩ := gd_t h
                            refine V_xld C hX hbl hbA (inb_in g275) dL_law_417 ?_
                            refine V_aload_n C 0 dL_law_418 rfl ?_
                            refine V_iload_n C 3 dL_law_419 rfl ?_
                            refine V_iconst C (2 : Int32) dL_law_420 (by decide) ?_
                            refine V_iadd C dL_law_421 ?_
                            obtain ⟨g276, h⟩ := gd_t h
                            refine V_xld C hX hbl hbA (inb_in g276) dL_law_422 ?_
                            refine V_aload_n C 0 dL_law_423 rfl ?_
                            refine V_iload_n C 3 dL_law_424 rfl ?_
                            refine V_iconst C (3 : Int32) dL_law_425 (by decide) ?_
                            refine V_iadd C dL_law_426 ?_
                            obtain ⟨g277, h⟩ := gd_t h
                            refine V_xld C hX hbl hbA (inb_in g277) dL_law_427 ?_
                            obtain ⟨z278, M279, hz278, h⟩ := bW_t h
                            refine V_callV C (st := []) (st' := [.int z278]) (mX4_ways l (xs ((x3 + (1 : Int32))).toNatClampNeg) (xs ((x3 + (2 : Int32))).toNatClampNeg) (xs ((x3 + (3 : Int32))).toNatClampNeg) M hz278) wmX4_ways lkL_56 dL_law_428 (wo_0 T3 ad _) rfl rfl rfl rfl rfl rfl ⟨rfl, rfl, (Nat.le_of_ble_eq_true rfl), (Nat.le_of_ble_eq_true rfl)⟩ ⟨Nat.le_of_ble_eq_true rfl, Nat.le_of_ble_eq_true rfl⟩ (Nat.le_of_ble_eq_true rfl) ?_
                            refine V_aload_n C 2 dL_law_431 rfl ?_
                            refine V_aload_n C 0 dL_law_432 rfl ?_
                            refine V_iload_n C 3 dL_law_433 rfl ?_
                            refine V_iconst C (1 : Int32) dL_law_434 (by decide) ?_
                            refine V_iadd C dL_law_435 ?_
                            obtain ⟨g280, h⟩ := gd_t h
                            refine V_xld C hX hbl hbA (inb_in g280) dL_law_436 ?_
                            refine V_aload_n C 0 dL_law_437 rfl ?_
                            refine V_iload_n C 3 dL_law_438 rfl ?_
                            refine V_iconst C (2 : Int32) dL_law_439 (by decide) ?_
                            refine V_iadd C dL_law_440 ?_
                            obtain ⟨g281, h⟩ := gd_t h
                            refine V_xld C hX hbl hbA (inb_in g281) dL_law_441 ?_
                            refine V_aload_n C 0 dL_law_442 rfl ?_
                            refine V_iload_n C 3 dL_law_443 rfl ?_
                            refine V_iconst C (3 : Int32) dL_law_444 (by decide) ?_
                            refine V_iadd C dL_law_445 ?_
                            obtain ⟨g282, h⟩ := gd_t h
                            refine V_xld C hX hbl hbA (inb_in g282) dL_law_446 ?_
                            obtain ⟨z283, M284, hz283, h⟩ := bW_t h
                            refine V_callV C (st := [.int z278]) (st' := [.int z283, .int z278]) (mX5_ways l (xs ((x3 + (1 : Int32))).toNatClampNeg) (xs ((x3 + (2 : Int32))).toNatClampNeg) (xs ((x3 + (3 : Int32))).toNatClampNeg) M279 hz283) wmX5_ways lkL_60 dL_law_447 (wo_26 T3 ad _) rfl rfl rfl rfl rfl rfl ⟨rfl, rfl, (Nat.le_of_ble_eq_true rfl), (Nat.le_of_ble_eq_true rfl)⟩ ⟨Nat.le_of_ble_eq_true rfl, Nat.le_of_ble_eq_true rfl⟩ (Nat.le_of_ble_eq_true rfl) ?_
                            refine V_icmp_eq C 1351 dL_law_450 (by decide) (fun q285 => ?_) (fun q285 => ?_)
                            · replace h := ite_p q285 h
                              refine V_iinc C 3 (x3 + 6) [(3, .int (x3 + 6)), (0, .ref b), (1, .ref (ad 0)), (2, .ref (ad 26))] dL_law_1351 rfl rfl (by decide) rfl ?_
                              refine V_goto C 18 dL_law_1354 (by decide) ?_
                              refine V_sub (lv' := [(0, .ref b), (1, .ref (ad 0)), (2, .ref (ad 26)), (3, .int (x3 + 6))]) [1, 2, 3, 0] rfl ?_
                              exact ih (x3 + 6) M284 h
                            · replace h := ite_n q285 h
                              refine V_iconst C (0 : Int32) dL_law_453 (by decide) ?_
                              exact absurd (ret_W h).1 (by decide)
                          · replace h := ite_n q12 h
                            by_cases q13 : ((xs (x3).toNatClampNeg) &&& (63 : Int32)) = 11
                            · replace h := ite_p q13 h
                              refine V_tblI C 455 dL_law_33 (by rw [q13]; decide) (by rw [q13]; decide) (by rw [q13]; rfl) (by decide) ?_
                              refine V_aload_n C 1 dL_law_455 rfl ?_
                              refine V_aload_n C 0 dL_law_456 rfl ?_
                              refine V_iload_n C 3 dL_law_457 rfl ?_
                              refine V_iconst C (1 : Int32) dL_law_458 (by decide) ?_
                              refine V_iadd C dL_law_459 ?_
                              obtain ⟨g268, h⟩ := gd_t h
                              refine V_xld C hX hbl hbA (inb_in g268) dL_law_460 ?_
                              obtain ⟨z269, M270, hz269, h⟩ := bW_t h
                              refine V_callV C (st := []) (st' := [.int z269]) (mX4_draft l (xs ((x3 + (1 : Int32))).toNatClampNeg) M hz269) wmX4_draft lkL_61 dL_law_461 (wo_0 T3 ad _) rfl rfl rfl rfl rfl rfl ⟨rfl, rfl, (Nat.le_of_ble_eq_true rfl), (Nat.le_of_ble_eq_true rfl)⟩ ⟨Nat.le_of_ble_eq_true rfl, Nat.le_of_ble_eq_true rfl⟩ (Nat.le_of_ble_eq_true rfl) ?_
                              refine V_aload_n C 2 dL_law_464 rfl ?_
                              refine V_aload_n C 0 dL_law_465 rfl ?_
                              refine V_iload_n C 3 dL_law_466 rfl ?_
                              refine V_iconst C (1 : Int32) dL_law_467 (by decide) ?_
                              refine V_iadd C dL_law_468 ?_
                              obtain ⟨g271, h⟩ := gd_t h
                              refine V_xld C hX hbl hbA (inb_in g271) dL_law_469 ?_
                              obtain ⟨z272, M273, hz272, h⟩ := bW_t h
                              refine V_callV C (st := [.int z269]) (st' := [.int z272, .int z269]) (mX5_draft l (xs ((x3 + (1 : Int32))).toNatClampNeg) M270 hz272) wmX5_draft lkL_64 dL_law_470 (wo_26 T3 ad _) rfl rfl rfl rfl rfl rfl ⟨rfl, rfl, (Nat.le_of_ble_eq_true rfl), (Nat.le_of_ble_eq_true rfl)⟩ ⟨Nat.le_of_ble_eq_true rfl, Nat.le_of_ble_eq_true rfl⟩ (Nat.le_of_ble_eq_true rfl) ?_
                              refine V_icmp_eq C 1351 dL_law_473 (by decide) (fun q274 => ?_) (fun q274 => ?_)
                              · replace h := ite_p q274 h
                                refine V_iinc C 3 (x3 + 6) [(3, .int (x3 + 6)), (0, .ref b), (1, .ref (ad 0)), (2, .ref (ad 26))] dL_law_1351 rfl rfl (by decide) rfl ?_
                                refine V_goto C 18 dL_law_1354 (by decide) ?_
                                refine V_sub (lv' := [(0, .ref b), (1, .ref (ad 0)), (2, .ref (ad 26)), (3, .int (x3 + 6))]) [1, 2, 3, 0] rfl ?_
                                exact ih (x3 + 6) M273 h
                              · replace h := ite_n q274 h
                                refine V_iconst C (0 : Int32) dL_law_476 (by decide) ?_
                                exact absurd (ret_W h).1 (by decide)
                            · replace h := ite_n q13 h
                              by_cases q14 : ((xs (x3).toNatClampNeg) &&& (63 : Int32)) = 12
                              · replace h := ite_p q14 h
                                refine V_tblI C 478 dL_law_33 (by rw [q14]; decide) (by rw [q14]; decide) (by rw [q14]; rfl) (by decide) ?_
                                refine V_aload_n C 1 dL_law_478 rfl ?_
                                refine V_aload_n C 0 dL_law_479 rfl ?_
                                refine V_iload_n C 3 dL_law_480 rfl ?_
                                refine V_iconst C (1 : Int32) dL_law_481 (by decide) ?_
                                refine V_iadd C dL_law_482 ?_
                                obtain ⟨g259, h⟩ := gd_t h
                                refine V_xld C hX hbl hbA (inb_in g259) dL_law_483 ?_
                                refine V_aload_n C 0 dL_law_484 rfl ?_
                                refine V_iload_n C 3 dL_law_485 rfl ?_
                                refine V_iconst C (2 : Int32) dL_law_486 (by decide) ?_
                                refine V_iadd C dL_law_487 ?_
                                obtain ⟨g260, h⟩ := gd_t h
                                refine V_xld C hX hbl hbA (inb_in g260) dL_law_488 ?_
                                obtain ⟨z261, M262, hz261, h⟩ := bW_t h
                                refine V_callV C (st := []) (st' := [.int z261]) (mX4_waits l (xs ((x3 + (1 : Int32))).toNatClampNeg) (xs ((x3 + (2 : Int32))).toNatClampNeg) M hz261) wmX4_waits lkL_65 dL_law_489 (wo_0 T3 ad _) rfl rfl rfl rfl rfl rfl ⟨rfl, rfl, (Nat.le_of_ble_eq_true rfl), (Nat.le_of_ble_eq_true rfl)⟩ ⟨Nat.le_of_ble_eq_true rfl, Nat.le_of_ble_eq_true rfl⟩ (Nat.le_of_ble_eq_true rfl) ?_
                                refine V_aload_n C 2 dL_law_492 rfl ?_
                                refine V_aload_n C 0 dL_law_493 rfl ?_
                                refine V_iload_n C 3 dL_law_494 rfl ?_
                                refine V_iconst C (1 : Int32) dL_law_495 (by decide) ?_
                                refine V_iadd C dL_law_496 ?_
                                obtain ⟨g263, h⟩ := gd_t h
                                refine V_xld C hX hbl hbA (inb_in g263) dL_law_497 ?_
                                refine V_aload_n C 0 dL_law_498 rfl ?_
                                refine V_iload_n C 3 dL_law_499 rfl ?_
                                refine V_iconst C (2 : Int32) dL_law_500 (by decide) ?_
                                refine V_iadd C dL_law_501 ?_
                                obtain ⟨g264, h⟩ := gd_t h
                                refine V_xld C hX hbl hbA (inb_in g264) dL_law_502 ?_
                                obtain ⟨z265, M266, hz265, h⟩ := bW_t h
                                refine V_callV C (st := [.int z261]) (st' := [.int z265, .int z261]) (mX5_waits l (xs ((x3 + (1 : Int32))).toNatClampNeg) (xs ((x3 + (2 : Int32))).toNatClampNeg) M262 hz265) wmX5_waits lkL_68 dL_law_503 (wo_26 T3 ad _) rfl rfl rfl rfl rfl rfl ⟨rfl, rfl, (Nat.le_of_ble_eq_true rfl), (Nat.le_of_ble_eq_true rfl)⟩ ⟨Nat.le_of_ble_eq_true rfl, Nat.le_of_ble_eq_true rfl⟩ (Nat.le_of_ble_eq_true rfl) ?_
                                refine V_icmp_eq C 1351 dL_law_506 (by decide) (fun q267 => ?_) (fun q267 => ?_)
                                · replace h := ite_p q267 h
                                  refine V_iinc C 3 (x3 + 6) [(3, .int (x3 + 6)), (0, .ref b), (1, .ref (ad 0)), (2, .ref (ad 26))] dL_law_1351 rfl rfl (by decide) rfl ?_
                                  refine V_goto C 18 dL_law_1354 (by decide) ?_
                                  refine V_sub (lv' := [(0, .ref b), (1, .ref (ad 0)), (2, .ref (ad 26)), (3, .int (x3 + 6))]) [1, 2, 3, 0] rfl ?_
                                  exact ih (x3 + 6) M266 h
                                · replace h := ite_n q267 h
                                  refine V_iconst C (0 : Int32) dL_law_509 (by decide) ?_
                                  exact absurd (ret_W h).1 (by decide)
                              · replace h := ite_n q14 h
                                by_cases q15 : ((xs (x3).toNatClampNeg) &&& (63 : Int32)) = 13
                                · replace h := ite_p q15 h
                                  refine V_tblI C 511 dL_law_33 (by rw [q15]; decide) (by rw [q15]; decide) (by rw [q15]; rfl) (by decide) ?_
                                  refine V_aload_n C 1 dL_law_511 rfl ?_
                                  refine V_aload_n C 0 dL_law_512 rfl ?_
                                  refine V_iload_n C 3 dL_law_513 rfl ?_
                                  refine V_iconst C (1 : Int32) dL_law_514 (by decide) ?_
                                  refine V_iadd C dL_law_515 ?_
                                  obtain ⟨g250, h⟩ := gd_t h
                                  refine V_xld C hX hbl hbA (inb_in g250) dL_law_516 ?_
                                  refine V_aload_n C 0 dL_law_517 rfl ?_
                                  refine V_iload_n C 3 dL_law_518 rfl ?_
                                  refine V_iconst C (2 : Int32) dL_law_519 (by decide) ?_
                                  refine V_iadd C dL_law_520 ?_
                                  obtain ⟨g251, h⟩ := gd_t h
                                  refine V_xld C hX hbl hbA (inb_in g251) dL_law_521 ?_
                                  obtain ⟨z252, M253, hz252, h⟩ := bW_t h
                                  refine V_callV C (st := []) (st' := [.int z252]) (mX4_byMap l (xs ((x3 + (1 : Int32))).toNatClampNeg) (xs ((x3 + (2 : Int32))).toNatClampNeg) M hz252) wmX4_byMap lkL_69 dL_law_522 (wo_0 T3 ad _) rfl rfl rfl rfl rfl rfl ⟨rfl, rfl, (Nat.le_of_ble_eq_true rfl), (Nat.le_of_ble_eq_true rfl)⟩ ⟨Nat.le_of_ble_eq_true rfl, Nat.le_of_ble_eq_true rfl⟩ (Nat.le_of_ble_eq_true rfl) ?_
                                  refine V_aload_n C 2 dL_law_525 rfl ?_
                                  refine V_aload_n C 0 dL_law_526 rfl ?_
                                  refine V_iload_n C 3 dL_law_527 rfl ?_
                                  refine V_iconst C (1 : Int32) dL_law_528 (by decide) ?_
                                  refine V_iadd C dL_law_529 ?_
                                  obtain ⟨g254, h⟩ := gd_t h
                                  refine V_xld C hX hbl hbA (inb_in g254) dL_law_530 ?_
                                  refine V_aload_n C 0 dL_law_531 rfl ?_
                                  refine V_iload_n C 3 dL_law_532 rfl ?_
                                  refine V_iconst C (2 : Int32) dL_law_533 (by decide) ?_
                                  refine V_iadd C dL_law_534 ?_
                                  obtain ⟨g255, h⟩ := gd_t h
                                  refine V_xld C hX hbl hbA (inb_in g255) dL_law_535 ?_
                                  obtain ⟨z256, M257, hz256, h⟩ := bW_t h
                                  refine V_callV C (st := [.int z252]) (st' := [.int z256, .int z252]) (mX5_byMap l (xs ((x3 + (1 : Int32))).toNatClampNeg) (xs ((x3 + (2 : Int32))).toNatClampNeg) M253 hz256) wmX5_byMap lkL_72 dL_law_536 (wo_26 T3 ad _) rfl rfl rfl rfl rfl rfl ⟨rfl, rfl, (Nat.le_of_ble_eq_true rfl), (Nat.le_of_ble_eq_true rfl)⟩ ⟨Nat.le_of_ble_eq_true rfl, Nat.le_of_ble_eq_true rfl⟩ (Nat.le_of_ble_eq_true rfl) ?_
                                  refine V_icmp_eq C 1351 dL_law_539 (by decide) (fun q258 => ?_) (fun q258 => ?_)
                                  · replace h := ite_p q258 h
                                    refine V_iinc C 3 (x3 + 6) [(3, .int (x3 + 6)), (0, .ref b), (1, .ref (ad 0)), (2, .ref (ad 26))] dL_law_1351 rfl rfl (by decide) rfl ?_
                                    refine V_goto C 18 dL_law_1354 (by decide) ?_
                                    refine V_sub (lv' := [(0, .ref b), (1, .ref (ad 0)), (2, .ref (ad 26)), (3, .int (x3 + 6))]) [1, 2, 3, 0] rfl ?_
                                    exact ih (x3 + 6) M257 h
                                  · replace h := ite_n q258 h
                                    refine V_iconst C (0 : Int32) dL_law_542 (by decide) ?_
                                    exact absurd (ret_W h).1 (by decide)
                                · replace h := ite_n q15 h
                                  by_cases q16 : ((xs (x3).toNatClampNeg) &&& (63 : Int32)) = 14
                                  · replace h := ite_p q16 h
                                    refine V_tblI C 544 dL_law_33 (by rw [q16]; decide) (by rw [q16]; decide) (by rw [q16]; rfl) (by decide) ?_
                                    refine V_aload_n C 1 dL_law_544 rfl ?_
                                    refine V_aload_n C 0 dL_law_545 rfl ?_
                                    refine V_iload_n C 3 dL_law_546 rfl ?_
                                    refine V_iconst C (1 : Int32) dL_law_547 (by decide) ?_
                                    refine V_iadd C dL_law_548 ?_
                                    obtain ⟨g241, h⟩ := gd_t h
                                    refine V_xld C hX hbl hbA (inb_in g241) dL_law_549 ?_
                                    refine V_aload_n C 0 dL_law_550 rfl ?_
                                    refine V_iload_n C 3 dL_law_551 rfl ?_
                                    refine V_iconst C (2 : Int32) dL_law_552 (by decide) ?_
                                    refine V_iadd C dL_law_553 ?_
                                    obtain ⟨g242, h⟩ := gd_t h
                                    refine V_xld C hX hbl hbA (inb_in g242) dL_law_554 ?_
                                    obtain ⟨z243, M244, hz243, h⟩ := bW_t h
                                    refine V_callV C (st := []) (st' := [.int z243]) (mX4_byChange l (xs ((x3 + (1 : Int32))).toNatClampNeg) (xs ((x3 + (2 : Int32))).toNatClampNeg) M hz243) wmX4_byChange lkL_73 dL_law_555 (wo_0 T3 ad _) rfl rfl rfl rfl rfl rfl ⟨rfl, rfl, (Nat.le_of_ble_eq_true rfl), (Nat.le_of_ble_eq_true rfl)⟩ ⟨Nat.le_of_ble_eq_true rfl, Nat.le_of_ble_eq_true rfl⟩ (Nat.le_of_ble_eq_true rfl) ?_
                                    refine V_aload_n C 2 dL_law_558 rfl ?_
                                    refine V_aload_n C 0 dL_law_559 rfl ?_
                                    refine V_iload_n C 3 dL_law_560 rfl ?_
                                    refine V_iconst C (1 : Int32) dL_law_561 (by decide) ?_
                                    refine V_iadd C dL_law_562 ?_
                                    obtain ⟨g245, h⟩ := gd_t h
                                    refine V_xld C hX hbl hbA (inb_in g245) dL_law_563 ?_
                                    refine V_aload_n C 0 dL_law_564 rfl ?_
                                    refine V_iload_n C 3 dL_law_565 rfl ?_
                                    refine V_iconst C (2 : Int32) dL_law_566 (by decide) ?_
                                    refine V_iadd C dL_law_567 ?_
                                    obtain ⟨g246, h⟩ := gd_t h
                                    refine V_xld C hX hbl hbA (inb_in g246) dL_law_568 ?_
                                    obtain ⟨z247, M248, hz247, h⟩ := bW_t h
                                    refine V_callV C (st := [.int z243]) (st' := [.int z247, .int z243]) (mX5_byChange l (xs ((x3 + (1 : Int32))).toNatClampNeg) (xs ((x3 + (2 : Int32))).toNatClampNeg) M244 hz247) wmX5_byChange lkL_76 dL_law_569 (wo_26 T3 ad _) rfl rfl rfl rfl rfl rfl ⟨rfl, rfl, (Nat.le_of_ble_eq_true rfl), (Nat.le_of_ble_eq_true rfl)⟩ ⟨Nat.le_of_ble_eq_true rfl, Nat.le_of_ble_eq_true rfl⟩ (Nat.le_of_ble_eq_true rfl) ?_
                                    refine V_icmp_eq C 1351 dL_law_572 (by decide) (fun q249 => ?_) (fun q249 => ?_)
                                    · replace h := ite_p q249 h
                                      refine V_iinc C 3 (x3 + 6) [(3, .int (x3 + 6)), (0, .ref b), (1, .ref (ad 0)), (2, .ref (ad 26))] dL_law_1351 rfl rfl (by decide) rfl ?_
                                      refine V_goto C 18 dL_law_1354 (by decide) ?_
                                      refine V_sub (lv' := [(0, .ref b), (1, .ref (ad 0)), (2, .ref (ad 26)), (3, .int (x3 + 6))]) [1, 2, 3, 0] rfl ?_
                                      exact ih (x3 + 6) M248 h
                                    · replace h := ite_n q249 h
                                      refine V_iconst C (0 : Int32) dL_law_575 (by decide) ?_
                                      exact absurd (ret_W h).1 (by decide)
                                  · replace h := ite_n q16 h
                                    by_cases q17 : ((xs (x3).toNatClampNeg) &&& (63 : Int32)) = 15
                                    · replace h := ite_p q17 h
                                      refine V_tblI C 577 dL_law_33 (by rw [q17]; decide) (by rw [q17]; decide) (by rw [q17]; rfl) (by decide) ?_
                                      refine V_aload_n C 1 dL_law_577 rfl ?_
                                      refine V_aload_n C 0 dL_law_578 rfl ?_
                                      refine V_iload_n C 3 dL_law_579 rfl ?_
                                      refine V_iconst C (1 : Int32) dL_law_580 (by decide) ?_
                                      refine V_iadd C dL_law_581 ?_
                                      obtain ⟨g232, h⟩ := gd_t h
                                      refine V_xld C hX hbl hbA (inb_in g232) dL_law_582 ?_
                                      refine V_aload_n C 0 dL_law_583 rfl ?_
                                      refine V_iload_n C 3 dL_law_584 rfl ?_
                                      refine V_iconst C (2 : Int32) dL_law_585 (by decide) ?_
                                      refine V_iadd C dL_law_586 ?_
                                      obtain ⟨g233, h⟩ := gd_t h
                                      refine V_xld C hX hbl hbA (inb_in g233) dL_law_587 ?_
                                      obtain ⟨z234, M235, hz234, h⟩ := bW_t h
                                      refine V_callV C (st := []) (st' := [.int z234]) (mX4_saved l (xs ((x3 + (1 : Int32))).toNatClampNeg) (xs ((x3 + (2 : Int32))).toNatClampNeg) M hz234) wmX4_saved lkL_77 dL_law_588 (wo_0 T3 ad _) rfl rfl rfl rfl rfl rfl ⟨rfl, rfl, (Nat.le_of_ble_eq_true rfl), (Nat.le_of_ble_eq_true rfl)⟩ ⟨Nat.le_of_ble_eq_true rfl, Nat.le_of_ble_eq_true rfl⟩ (Nat.le_of_ble_eq_true rfl) ?_
                                      refine V_aload_n C 2 dL_law_591 rfl ?_
                                      refine V_aload_n C 0 dL_law_592 rfl ?_
                                      refine V_iload_n C 3 dL_law_593 rfl ?_
                                      refine V_iconst C (1 : Int32) dL_law_594 (by decide) ?_
                                      refine V_iadd C dL_law_595 ?_
                                      obtain ⟨g236, h⟩ := gd_t h
                                      refine V_xld C hX hbl hbA (inb_in g236) dL_law_596 ?_
                                      refine V_aload_n C 0 dL_law_597 rfl ?_
                                      refine V_iload_n C 3 dL_law_598 rfl ?_
                                      refine V_iconst C (2 : Int32) dL_law_599 (by decide) ?_
                                      refine V_iadd C dL_law_600 ?_
                                      obtain ⟨g237, h⟩ := gd_t h
                                      refine V_xld C hX hbl hbA (inb_in g237) dL_law_601 ?_
                                      obtain ⟨z238, M239, hz238, h⟩ := bW_t h
                                      refine V_callV C (st := [.int z234]) (st' := [.int z238, .int z234]) (mX5_saved l (xs ((x3 + (1 : Int32))).toNatClampNeg) (xs ((x3 + (2 : Int32))).toNatClampNeg) M235 hz238) wmX5_saved lkL_80 dL_law_602 (wo_26 T3 ad _) rfl rfl rfl rfl rfl rfl ⟨rfl, rfl, (Nat.le_of_ble_eq_true rfl), (Nat.le_of_ble_eq_true rfl)⟩ ⟨Nat.le_of_ble_eq_true rfl, Nat.le_of_ble_eq_true rfl⟩ (Nat.le_of_ble_eq_true rfl) ?_
                                      refine V_icmp_eq C 1351 dL_law_605 (by decide) (fun q240 => ?_) (fun q240 => ?_)
                                      · replace h := ite_p q240 h
                                        refine V_iinc C 3 (x3 + 6) [(3, .int (x3 + 6)), (0, .ref b), (1, .ref (ad 0)), (2, .ref (ad 26))] dL_law_1351 rfl rfl (by decide) rfl ?_
                                        refine V_goto C 18 dL_law_1354 (by decide) ?_
                                        refine V_sub (lv' := [(0, .ref b), (1, .ref (ad 0)), (2, .ref (ad 26)), (3, .int (x3 + 6))]) [1, 2, 3, 0] rfl ?_
                                        exact ih (x3 + 6) M239 h
                                      · replace h := ite_n q240 h
                                        refine V_iconst C (0 : Int32) dL_law_608 (by decide) ?_
                                        exact absurd (ret_W h).1 (by decide)
                                    · replace h := ite_n q17 h
                                      by_cases q18 : ((xs (x3).toNatClampNeg) &&& (63 : Int32)) = 16
                                      · replace h := ite_p q18 h
                                        refine V_tblI C 610 dL_law_33 (by rw [q18]; decide) (by rw [q18]; decide) (by rw [q18]; rfl) (by decide) ?_
                                        refine V_aload_n C 1 dL_law_610 rfl ?_
                                        refine V_aload_n C 0 dL_law_611 rfl ?_
                                        refine V_iload_n C 3 dL_law_612 rfl ?_
                                        refine V_iconst C (1 : Int32) dL_law_613 (by decide) ?_
                                        refine V_iadd C dL_law_614 ?_
                                        obtain ⟨g221, h⟩ := gd_t h
                                        refine V_xld C hX hbl hbA (inb_in g221) dL_law_615 ?_
                                        refine V_aload_n C 0 dL_law_616 rfl ?_
                                        refine V_iload_n C 3 dL_law_617 rfl ?_
                                        refine V_iconst C (2 : Int32) dL_law_618 (by decide) ?_
                                        refine V_iadd C dL_law_619 ?_
                                        obtain ⟨g222, h⟩ := gd_t h
                                        refine V_xld C hX hbl hbA (inb_in g222) dL_law_620 ?_
                                        refine V_aload_n C 0 dL_law_621 rfl ?_
                                        refine V_iload_n C 3 dL_law_622 rfl ?_
                                        refine V_iconst C (3 : Int32) dL_law_623 (by decide) ?_
                                        refine V_iadd C dL_law_624 ?_
                                        obtain ⟨g223, h⟩ := gd_t h
                                        refine V_xld C hX hbl hbA (inb_in g223) dL_law_625 ?_
                                        obtain ⟨z224, M225, hz224, h⟩ := bW_t h
                                        refine V_callV C (st := []) (st' := [.int z224]) (mX4_sounded l (xs ((x3 + (1 : Int32))).toNatClampNeg) (xs ((x3 + (2 : Int32))).toNatClampNeg) (xs ((x3 + (3 : Int32))).toNatClampNeg) M hz224) wmX4_sounded lkL_81 dL_law_626 (wo_0 T3 ad _) rfl rfl rfl rfl rfl rfl ⟨rfl, rfl, (Nat.le_of_ble_eq_true rfl), (Nat.le_of_ble_eq_true rfl)⟩ ⟨Nat.le_of_ble_eq_true rfl, Nat.le_of_ble_eq_true rfl⟩ (Nat.le_of_ble_eq_true rfl) ?_
                                        refine V_aload_n C 2 dL_law_629 rfl ?_
                                        refine V_aload_n C 0 dL_law_630 rfl ?_
                                        refine V_iload_n C 3 dL_law_631 rfl ?_
                                        refine V_iconst C (1 : Int32) dL_law_632 (by decide) ?_
                                        refine V_iadd C dL_law_633 ?_
                                        obtain ⟨g226, h⟩ := gd_t h
                                        refine V_xld C hX hbl hbA (inb_in g226) dL_law_634 ?_
                                        refine V_aload_n C 0 dL_law_635 rfl ?_
                                        refine V_iload_n C 3 dL_law_636 rfl ?_
                                        refine V_iconst C (2 : Int32) dL_law_637 (by decide) ?_
                                        refine V_iadd C dL_law_638 ?_
                                        obtain ⟨g227, h⟩ := gd_t h
                                        refine V_xld C hX hbl hbA (inb_in g227) dL_law_639 ?_
                                        refine V_aload_n C 0 dL_law_640 rfl ?_
                                        refine V_iload_n C 3 dL_law_641 rfl ?_
                                        refine V_iconst C (3 : Int32) dL_law_642 (by decide) ?_
                                        refine V_iadd C dL_law_643 ?_
                                        obtain ⟨g228, h⟩ := gd_t h
                                        refine V_xld C hX hbl hbA (inb_in g228) dL_law_644 ?_
                                        obtain ⟨z229, M230, hz229, h⟩ := bW_t h
                                        refine V_callV C (st := [.int z224]) (st' := [.int z229, .int z224]) (mX5_sounded l (xs ((x3 + (1 : Int32))).toNatClampNeg) (xs ((x3 + (2 : Int32))).toNatClampNeg) (xs ((x3 + (3 : Int32))).toNatClampNeg) M225 hz229) wmX5_sounded lkL_84 dL_law_645 (wo_26 T3 ad _) rfl rfl rfl rfl rfl rfl ⟨rfl, rfl, (Nat.le_of_ble_eq_true rfl), (Nat.le_of_ble_eq_true rfl)⟩ ⟨Nat.le_of_ble_eq_true rfl, Nat.le_of_ble_eq_true rfl⟩ (Nat.le_of_ble_eq_true rfl) ?_
                                        refine V_icmp_eq C 1351 dL_law_648 (by decide) (fun q231 => ?_) (fun q231 => ?_)
                                        · replace h := ite_p q231 h
                                          refine V_iinc C 3 (x3 + 6) [(3, .int (x3 + 6)), (0, .ref b), (1, .ref (ad 0)), (2, .ref (ad 26))] dL_law_1351 rfl rfl (by decide) rfl ?_
                                          refine V_goto C 18 dL_law_1354 (by decide) ?_
                                          refine V_sub (lv' := [(0, .ref b), (1, .ref (ad 0)), (2, .ref (ad 26)), (3, .int (x3 + 6))]) [1, 2, 3, 0] rfl ?_
                                          exact ih (x3 + 6) M230 h
                                        · replace h := ite_n q231 h
                                          refine V_iconst C (0 : Int32) dL_law_651 (by decide) ?_
                                          exact absurd (ret_W h).1 (by decide)
                                      · replace h := ite_n q18 h
                                        by_cases q19 : ((xs (x3).toNatClampNeg) &&& (63 : Int32)) = 17
                                        · replace h := ite_p q19 h
                                          refine V_tblI C 653 dL_law_33 (by rw [q19]; decide) (by rw [q19]; decide) (by rw [q19]; rfl) (by decide) ?_
                                          refine V_aload_n C 1 dL_law_653 rfl ?_
                                          obtain ⟨z216, M217, hz216, h⟩ := bW_t h
                                          refine V_callV C (st := []) (st' := [.int z216]) (mX4_forget l M hz216) wmX4_forget lkL_85 dL_law_654 (wo_0 T3 ad _) rfl rfl rfl rfl rfl rfl ⟨rfl, rfl, (Nat.le_of_ble_eq_true rfl), (Nat.le_of_ble_eq_true rfl)⟩ ⟨Nat.le_of_ble_eq_true rfl, Nat.le_of_ble_eq_true rfl⟩ (Nat.le_of_ble_eq_true rfl) ?_
                                          refine V_aload_n C 2 dL_law_657 rfl ?_
                                          obtain ⟨z218, M219, hz218, h⟩ := bW_t h
                                          refine V_callV C (st := [.int z216]) (st' := [.int z218, .int z216]) (mX5_forget l M217 hz218) wmX5_forget lkL_88 dL_law_658 (wo_26 T3 ad _) rfl rfl rfl rfl rfl rfl ⟨rfl, rfl, (Nat.le_of_ble_eq_true rfl), (Nat.le_of_ble_eq_true rfl)⟩ ⟨Nat.le_of_ble_eq_true rfl, Nat.le_of_ble_eq_true rfl⟩ (Nat.le_of_ble_eq_true rfl) ?_
                                          refine V_icmp_eq C 1351 dL_law_661 (by decide) (fun q220 => ?_) (fun q220 => ?_)
                                          · replace h := ite_p q220 h
                                            refine V_iinc C 3 (x3 + 6) [(3, .int (x3 + 6)), (0, .ref b), (1, .ref (ad 0)), (2, .ref (ad 26))] dL_law_1351 rfl rfl (by decide) rfl ?_
                                            refine V_goto C 18 dL_law_1354 (by decide) ?_
                                            refine V_sub (lv' := [(0, .ref b), (1, .ref (ad 0)), (2, .ref (ad 26)), (3, .int (x3 + 6))]) [1, 2, 3, 0] rfl ?_
                                            exact ih (x3 + 6) M219 h
                                          · replace h := ite_n q220 h
                                            refine V_iconst C (0 : Int32) dL_law_664 (by decide) ?_
                                            exact absurd (ret_W h).1 (by decide)
                                        · replace h := ite_n q19 h
                                          by_cases q20 : ((xs (x3).toNatClampNeg) &&& (63 : Int32)) = 18
                                          · replace h := ite_p q20 h
                                            refine V_tblI C 666 dL_law_33 (by rw [q20]; decide) (by rw [q20]; decide) (by rw [q20]; rfl) (by decide) ?_
                                            refine V_aload_n C 1 dL_law_666 rfl ?_
                                            refine V_aload_n C 0 dL_law_667 rfl ?_
                                            refine V_iload_n C 3 dL_law_668 rfl ?_
                                            refine V_iconst C (1 : Int32) dL_law_669 (by decide) ?_
                                            refine V_iadd C dL_law_670 ?_
                                            obtain ⟨g209, h⟩ := gd_t h
                                            refine V_xld C hX hbl hbA (inb_in g209) dL_law_671 ?_
                                            obtain ⟨z210, M211, hz210, h⟩ := bW_t h
                                            refine V_callV C (st := []) (st' := [.int z210]) (mX4_read l (xs ((x3 + (1 : Int32))).toNatClampNeg) M hz210) wmX4_read lkL_89 dL_law_672 (wo_0 T3 ad _) rfl rfl rfl rfl rfl rfl ⟨rfl, rfl, (Nat.le_of_ble_eq_true rfl), (Nat.le_of_ble_eq_true rfl)⟩ ⟨Nat.le_of_ble_eq_true rfl, Nat.le_of_ble_eq_true rfl⟩ (Nat.le_of_ble_eq_true rfl) ?_
                                            refine V_aload_n C 2 dL_law_675 rfl ?_
                                            refine V_aload_n C 0 dL_law_676 rfl ?_
                                            refine V_iload_n C 3 dL_law_677 rfl ?_
                                            refine V_iconst C (1 : Int32) dL_law_678 (by decide) ?_
                                            refine V_iadd C dL_law_679 ?_
                                            obtain ⟨g212, h⟩ := gd_t h
                                            refine V_xld C hX hbl hbA (inb_in g212) dL_law_680 ?_
                                            obtain ⟨z213, M214, hz213, h⟩ := bW_t h
                                            refine V_callV C (st := [.int z210]) (st' := [.int z213, .int z210]) (mX5_read l (xs ((x3 + (1 : Int32))).toNatClampNeg) M211 hz213) wmX5_read lkL_92 dL_law_681 (wo_26 T3 ad _) rfl rfl rfl rfl rfl rfl ⟨rfl, rfl, (Nat.le_of_ble_eq_true rfl), (Nat.le_of_ble_eq_true rfl)⟩ ⟨Nat.le_of_ble_eq_true rfl, Nat.le_of_ble_eq_true rfl⟩ (Nat.le_of_ble_eq_true rfl) ?_
                                            refine V_icmp_eq C 1351 dL_law_684 (by decide) (fun q215 => ?_) (fun q215 => ?_)
                                            · replace h := ite_p q215 h
                                              refine V_iinc C 3 (x3 + 6) [(3, .int (x3 + 6)), (0, .ref b), (1, .ref (ad 0)), (2, .ref (ad 26))] dL_law_1351 rfl rfl (by decide) rfl ?_
                                              refine V_goto C 18 dL_law_1354 (by decide) ?_
                                              refine V_sub (lv' := [(0, .ref b), (1, .ref (ad 0)), (2, .ref (ad 26)), (3, .int (x3 + 6))]) [1, 2, 3, 0] rfl ?_
                                              exact ih (x3 + 6) M214 h
                                            · replace h := ite_n q215 h
                                              refine V_iconst C (0 : Int32) dL_law_687 (by decide) ?_
                                              exact absurd (ret_W h).1 (by decide)
                                          · replace h := ite_n q20 h
                                            by_cases q21 : ((xs (x3).toNatClampNeg) &&& (63 : Int32)) = 19
                                            · replace h := ite_p q21 h
                                              refine V_tblI C 689 dL_law_33 (by rw [q21]; decide) (by rw [q21]; decide) (by rw [q21]; rfl) (by decide) ?_
                                              refine V_aload_n C 1 dL_law_689 rfl ?_
                                              refine V_aload_n C 0 dL_law_690 rfl ?_
                                              refine V_iload_n C 3 dL_law_691 rfl ?_
                                              refine V_iconst C (1 : Int32) dL_law_692 (by decide) ?_
                                              refine V_iadd C dL_law_693 ?_
                                              obtain ⟨g201, h⟩ := gd_t h
                                              refine V_xld C hX hbl hbA (inb_in g201) dL_law_694 ?_
                                              refine V_aload_n C 0 dL_law_695 rfl ?_
                                              refine V_iload_n C 3 dL_law_696 rfl ?_
                                              refine V_iconst C (2 : Int32) dL_law_697 (by decide) ?_
                                              refine V_iadd C dL_law_698 ?_
                                              obtain ⟨g202, h⟩ := gd_t h
                                              refine V_xld C hX hbl hbA (inb_in g202) dL_law_699 ?_
                                              obtain ⟨z203, hz203, h⟩ := bP_t h
                                              refine V_callV C (st := []) (st' := [.int z203]) (mX4_laws l (xs ((x3 + (1 : Int32))).toNatClampNeg) (xs ((x3 + (2 : Int32))).toNatClampNeg) M hz203) wmX4_laws lkL_93 dL_law_700 (wo_0 T3 ad _) rfl rfl rfl rfl rfl rfl ⟨rfl, rfl, (Nat.le_of_ble_eq_true rfl), (Nat.le_of_ble_eq_true rfl)⟩ ⟨Nat.le_of_ble_eq_true rfl, Nat.le_of_ble_eq_true rfl⟩ (Nat.le_of_ble_eq_true rfl) ?_
                                              refine V_aload_n C 2 dL_law_703 rfl ?_
                                              refine V_aload_n C 0 dL_law_704 rfl ?_
                                              refine V_iload_n C 3 dL_law_705 rfl ?_
                                              refine V_iconst C (1 : Int32) dL_law_706 (by decide) ?_
                                              refine V_iadd C dL_law_707 ?_
                                              obtain ⟨g204, h⟩ := gd_t h
                                              refine V_xld C hX hbl hbA (inb_in g204) dL_law_708 ?_
                                              refine V_aload_n C 0 dL_law_709 rfl ?_
                                              refine V_iload_n C 3 dL_law_710 rfl ?_
                                              refine V_iconst C (2 : Int32) dL_law_711 (by decide) ?_
                                              refine V_iadd C dL_law_712 ?_
                                              obtain ⟨g205, h⟩ := gd_t h
                                              refine V_xld C hX hbl hbA (inb_in g205) dL_law_713 ?_
                                              obtain ⟨z206, M207, hz206, h⟩ := bW_t h
                                              refine V_callV C (st := [.int z203]) (st' := [.int z206, .int z203]) (mX5_laws l (xs ((x3 + (1 : Int32))).toNatClampNeg) (xs ((x3 + (2 : Int32))).toNatClampNeg) M hz206) wmX5_laws lkL_96 dL_law_714 (wo_26 T3 ad _) rfl rfl rfl rfl rfl rfl ⟨rfl, rfl, (Nat.le_of_ble_eq_true rfl), (Nat.le_of_ble_eq_true rfl)⟩ ⟨Nat.le_of_ble_eq_true rfl, Nat.le_of_ble_eq_true rfl⟩ (Nat.le_of_ble_eq_true rfl) ?_
                                              refine V_icmp_eq C 1351 dL_law_717 (by decide) (fun q208 => ?_) (fun q208 => ?_)
                                              · replace h := ite_p q208 h
                                                refine V_iinc C 3 (x3 + 6) [(3, .int (x3 + 6)), (0, .ref b), (1, .ref (ad 0)), (2, .ref (ad 26))] dL_law_1351 rfl rfl (by decide) rfl ?_
                                                refine V_goto C 18 dL_law_1354 (by decide) ?_
                                                refine V_sub (lv' := [(0, .ref b), (1, .ref (ad 0)), (2, .ref (ad 26)), (3, .int (x3 + 6))]) [1, 2, 3, 0] rfl ?_
                                                exact ih (x3 + 6) M207 h
                                              · replace h := ite_n q208 h
                                                refine V_iconst C (0 : Int32) dL_law_720 (by decide) ?_
                                                exact absurd (ret_W h).1 (by decide)
                                            · replace h := ite_n q21 h
                                              by_cases q22 : ((xs (x3).toNatClampNeg) &&& (63 : Int32)) = 20
                                              · replace h := ite_p q22 h
                                                refine V_tblI C 722 dL_law_33 (by rw [q22]; decide) (by rw [q22]; decide) (by rw [q22]; rfl) (by decide) ?_
                                                refine V_aload_n C 1 dL_law_722 rfl ?_
                                                refine V_aload_n C 0 dL_law_723 rfl ?_
                                                refine V_iload_n C 3 dL_law_724 rfl ?_
                                                refine V_iconst C (1 : Int32) dL_law_725 (by decide) ?_
                                                refine V_iadd C dL_law_726 ?_
                                                obtain ⟨g193, h⟩ := gd_t h
                                                refine V_xld C hX hbl hbA (inb_in g193) dL_law_727 ?_
                                                refine V_aload_n C 0 dL_law_728 rfl ?_
                                                refine V_iload_n C 3 dL_law_729 rfl ?_
                                                refine V_iconst C (2 : Int32) dL_law_730 (by decide) ?_
                                                refine V_iadd C dL_law_731 ?_
                                                obtain ⟨g194, h⟩ := gd_t h
                                                refine V_xld C hX hbl hbA (inb_in g194) dL_law_732 ?_
                                                obtain ⟨z195, hz195, h⟩ := bP_t h
                                                refine V_callV C (st := []) (st' := [.int z195]) (mX4_next l (xs ((x3 + (1 : Int32))).toNatClampNeg) (xs ((x3 + (2 : Int32))).toNatClampNeg) M hz195) wmX4_next lkL_97 dL_law_733 (wo_0 T3 ad _) rfl rfl rfl rfl rfl rfl ⟨rfl, rfl, (Nat.le_of_ble_eq_true rfl), (Nat.le_of_ble_eq_true rfl)⟩ ⟨Nat.le_of_ble_eq_true rfl, Nat.le_of_ble_eq_true rfl⟩ (Nat.le_of_ble_eq_true rfl) ?_
                                                refine V_aload_n C 2 dL_law_736 rfl ?_
                                                refine V_aload_n C 0 dL_law_737 rfl ?_
                                                refine V_iload_n C 3 dL_law_738 rfl ?_
                                                refine V_iconst C (1 : Int32) dL_law_739 (by decide) ?_
                                                refine V_iadd C dL_law_740 ?_
                                                obtain ⟨g196, h⟩ := gd_t h
                                                refine V_xld C hX hbl hbA (inb_in g196) dL_law_741 ?_
                                                refine V_aload_n C 0 dL_law_742 rfl ?_
                                                refine V_iload_n C 3 dL_law_743 rfl ?_
                                                refine V_iconst C (2 : Int32) dL_law_744 (by decide) ?_
                                                refine V_iadd C dL_law_745 ?_
                                                obtain ⟨g197, h⟩ := gd_t h
                                                refine V_xld C hX hbl hbA (inb_in g197) dL_law_746 ?_
                                                obtain ⟨z198, M199, hz198, h⟩ := bW_t h
                                                refine V_callV C (st := [.int z195]) (st' := [.int z198, .int z195]) (mX5_next l (xs ((x3 + (1 : Int32))).toNatClampNeg) (xs ((x3 + (2 : Int32))).toNatClampNeg) M hz198) wmX5_next lkL_100 dL_law_747 (wo_26 T3 ad _) rfl rfl rfl rfl rfl rfl ⟨rfl, rfl, (Nat.le_of_ble_eq_true rfl), (Nat.le_of_ble_eq_true rfl)⟩ ⟨Nat.le_of_ble_eq_true rfl, Nat.le_of_ble_eq_true rfl⟩ (Nat.le_of_ble_eq_true rfl) ?_
                                                refine V_icmp_eq C 1351 dL_law_750 (by decide) (fun q200 => ?_) (fun q200 => ?_)
                                                · replace h := ite_p q200 h
                                                  refine V_iinc C 3 (x3 + 6) [(3, .int (x3 + 6)), (0, .ref b), (1, .ref (ad 0)), (2, .ref (ad 26))] dL_law_1351 rfl rfl (by decide) rfl ?_
                                                  refine V_goto C 18 dL_law_1354 (by decide) ?_
                                                  refine V_sub (lv' := [(0, .ref b), (1, .ref (ad 0)), (2, .ref (ad 26)), (3, .int (x3 + 6))]) [1, 2, 3, 0] rfl ?_
                                                  exact ih (x3 + 6) M199 h
                                                · replace h := ite_n q200 h
                                                  refine V_iconst C (0 : Int32) dL_law_753 (by decide) ?_
                                                  exact absurd (ret_W h).1 (by decide)
                                              · replace h := ite_n q22 h
                                                by_cases q23 : ((xs (x3).toNatClampNeg) &&& (63 : Int32)) = 21
                                                · replace h := ite_p q23 h
                                                  refine V_tblI C 755 dL_law_33 (by rw [q23]; decide) (by rw [q23]; decide) (by rw [q23]; rfl) (by decide) ?_
                                                  refine V_aload_n C 1 dL_law_755 rfl ?_
                                                  refine V_aload_n C 0 dL_law_756 rfl ?_
                                                  refine V_iload_n C 3 dL_law_757 rfl ?_
                                                  refine V_iconst C (1 : Int32) dL_law_758 (by decide) ?_
                                                  refine V_iadd C dL_law_759 ?_
                                                  obtain ⟨g184, h⟩ := gd_t h
                                                  refine V_xld C hX hbl hbA (inb_in g184) dL_law_760 ?_
                                                  refine V_aload_n C 0 dL_law_761 rfl ?_
                                                  refine V_iload_n C 3 dL_law_762 rfl ?_
                                                  refine V_iconst C (2 : Int32) dL_law_763 (by decide) ?_
                                                  refine V_iadd C dL_law_764 ?_
                                                  obtain ⟨g185, h⟩ := gd_t h
                                                  refine V_xld C hX hbl hbA (inb_in g185) dL_law_765 ?_
                                                  obtain ⟨z186, M187, hz186, h⟩ := bW_t h
                                                  refine V_callV C (st := []) (st' := [.int z186]) (mX4_tells l (xs ((x3 + (1 : Int32))).toNatClampNeg) (xs ((x3 + (2 : Int32))).toNatClampNeg) M hz186) wmX4_tells lkL_101 dL_law_766 (wo_0 T3 ad _) rfl rfl rfl rfl rfl rfl ⟨rfl, rfl, (Nat.le_of_ble_eq_true rfl), (Nat.le_of_ble_eq_true rfl)⟩ ⟨Nat.le_of_ble_eq_true rfl, Nat.le_of_ble_eq_true rfl⟩ (Nat.le_of_ble_eq_true rfl) ?_
                                                  refine V_aload_n C 2 dL_law_769 rfl ?_
                                                  refine V_aload_n C 0 dL_law_770 rfl ?_
                                                  refine V_iload_n C 3 dL_law_771 rfl ?_
                                                  refine V_iconst C (1 : Int32) dL_law_772 (by decide) ?_
                                                  refine V_iadd C dL_law_773 ?_
                                                  obtain ⟨g188, h⟩ := gd_t h
                                                  refine V_xld C hX hbl hbA (inb_in g188) dL_law_774 ?_
                                                  refine V_aload_n C 0 dL_law_775 rfl ?_
                                                  refine V_iload_n C 3 dL_law_776 rfl ?_
                                                  refine V_iconst C (2 : Int32) dL_law_777 (by decide) ?_
                                                  refine V_iadd C dL_law_778 ?_
                                                  obtain ⟨g189, h⟩ := gd_t h
                                                  refine V_xld C hX hbl hbA (inb_in g189) dL_law_779 ?_
                                                  obtain ⟨z190, M191, hz190, h⟩ := bW_t h
                                                  refine V_callV C (st := [.int z186]) (st' := [.int z190, .int z186]) (mX5_tells l (xs ((x3 + (1 : Int32))).toNatClampNeg) (xs ((x3 + (2 : Int32))).toNatClampNeg) M187 hz190) wmX5_tells lkL_104 dL_law_780 (wo_26 T3 ad _) rfl rfl rfl rfl rfl rfl ⟨rfl, rfl, (Nat.le_of_ble_eq_true rfl), (Nat.le_of_ble_eq_true rfl)⟩ ⟨Nat.le_of_ble_eq_true rfl, Nat.le_of_ble_eq_true rfl⟩ (Nat.le_of_ble_eq_true rfl) ?_
                                                  refine V_icmp_eq C 1351 dL_law_783 (by decide) (fun q192 => ?_) (fun q192 => ?_)
                                                  · replace h := ite_p q192 h
                                                    refine V_iinc C 3 (x3 + 6) [(3, .int (x3 + 6)), (0, .ref b), (1, .ref (ad 0)), (2, .ref (ad 26))] dL_law_1351 rfl rfl (by decide) rfl ?_
                                                    refine V_goto C 18 dL_law_1354 (by decide) ?_
                                                    refine V_sub (lv' := [(0, .ref b), (1, .ref (ad 0)), (2, .ref (ad 26)), (3, .int (x3 + 6))]) [1, 2, 3, 0] rfl ?_
                                                    exact ih (x3 + 6) M191 h
                                                  · replace h := ite_n q192 h
                                                    refine V_iconst C (0 : Int32) dL_law_786 (by decide) ?_
                                                    exact absurd (ret_W h).1 (by decide)
                                                · replace h := ite_n q23 h
                                                  by_cases q24 : ((xs (x3).toNatClampNeg) &&& (63 : Int32)) = 22
                                                  · replace h := ite_p q24 h
                                                    refine V_tblI C 788 dL_law_33 (by rw [q24]; decide) (by rw [q24]; decide) (by rw [q24]; rfl) (by decide) ?_
                                                    refine V_aload_n C 1 dL_law_788 rfl ?_
                                                    refine V_aload_n C 0 dL_law_789 rfl ?_
                                                    refine V_iload_n C 3 dL_law_790 rfl ?_
                                                    refine V_iconst C (1 : Int32) dL_law_791 (by decide) ?_
                                                    refine V_iadd C dL_law_792 ?_
                                                    obtain ⟨g173, h⟩ := gd_t h
                                                    refine V_xld C hX hbl hbA (inb_in g173) dL_law_793 ?_
                                                    refine V_aload_n C 0 dL_law_794 rfl ?_
                                                    refine V_iload_n C 3 dL_law_795 rfl ?_
                                                    refine V_iconst C (2 : Int32) dL_law_796 (by decide) ?_
                                                    refine V_iadd C dL_law_797 ?_
                                                    obtain ⟨g174, h⟩ := gd_t h
                                                    refine V_xld C hX hbl hbA (inb_in g174) dL_law_798 ?_
                                                    refine V_aload_n C 0 dL_law_799 rfl ?_
                                                    refine V_iload_n C 3 dL_law_800 rfl ?_
                                                    refine V_iconst C (3 : Int32) dL_law_801 (by decide) ?_
                                                    refine V_iadd C dL_law_802 ?_
                                                    obtain ⟨g175, h⟩ := gd_t h
                                                    refine V_xld C hX hbl hbA (inb_in g175) dL_law_803 ?_
                                                    obtain ⟨z176, M177, hz176, h⟩ := bW_t h
                                                    refine V_callV C (st := []) (st' := [.int z176]) (mX4_wreck l (xs ((x3 + (1 : Int32))).toNatClampNeg) (xs ((x3 + (2 : Int32))).toNatClampNeg) (xs ((x3 + (3 : Int32))).toNatClampNeg) M hz176) wmX4_wreck lkL_105 dL_law_804 (wo_0 T3 ad _) rfl rfl rfl rfl rfl rfl ⟨rfl, rfl, (Nat.le_of_ble_eq_true rfl), (Nat.le_of_ble_eq_true rfl)⟩ ⟨Nat.le_of_ble_eq_true rfl, Nat.le_of_ble_eq_true rfl⟩ (Nat.le_of_ble_eq_true rfl) ?_
                                                    refine V_aload_n C 2 dL_law_807 rfl ?_
                                                    refine V_aload_n C 0 dL_law_808 rfl ?_
                                                    refine V_iload_n C 3 dL_law_809 rfl ?_
                                                    refine V_iconst C (1 : Int32) dL_law_810 (by decide) ?_
                                                    refine V_iadd C dL_law_811 ?_
                                                    obtain ⟨g178, h⟩ := gd_t h
                                                    refine V_xld C hX hbl hbA (inb_in g178) dL_law_812 ?_
                                                    refine V_aload_n C 0 dL_law_813 rfl ?_
                                                    refine V_iload_n C 3 dL_law_814 rfl ?_
                                                    refine V_iconst C (2 : Int32) dL_law_815 (by decide) ?_
                                                    refine V_iadd C dL_law_816 ?_
                                                    obtain ⟨g179, h⟩ := gd_t h
                                                    refine V_xld C hX hbl hbA (inb_in g179) dL_law_817 ?_
                                                    refine V_aload_n C 0 dL_law_818 rfl ?_
                                                    refine V_iload_n C 3 dL_law_819 rfl ?_
                                                    refine V_iconst C (3 : Int32) dL_law_820 (by decide) ?_
                                                    refine V_iadd C dL_law_821 ?_
                                                    obtain ⟨g180, h⟩ := gd_t h
                                                    refine V_xld C hX hbl hbA (inb_in g180) dL_law_822 ?_
                                                    obtain ⟨z181, M182, hz181, h⟩ := bW_t h
                                                    refine V_callV C (st := [.int z176]) (st' := [.int z181, .int z176]) (mX5_wreck l (xs ((x3 + (1 : Int32))).toNatClampNeg) (xs ((x3 + (2 : Int32))).toNatClampNeg) (xs ((x3 + (3 : Int32))).toNatClampNeg) M177 hz181) wmX5_wreck lkL_108 dL_law_823 (wo_26 T3 ad _) rfl rfl rfl rfl rfl rfl ⟨rfl, rfl, (Nat.le_of_ble_eq_true rfl), (Nat.le_of_ble_eq_true rfl)⟩ ⟨Nat.le_of_ble_eq_true rfl, Nat.le_of_ble_eq_true rfl⟩ (Nat.le_of_ble_eq_true rfl) ?_
                                                    refine V_icmp_eq C 1351 dL_law_826 (by decide) (fun q183 => ?_) (fun q183 => ?_)
                                                    · replace h := ite_p q183 h
                                                      refine V_iinc C 3 (x3 + 6) [(3, .int (x3 + 6)), (0, .ref b), (1, .ref (ad 0)), (2, .ref (ad 26))] dL_law_1351 rfl rfl (by decide) rfl ?_
                                                      refine V_goto C 18 dL_law_1354 (by decide) ?_
                                                      refine V_sub (lv' := [(0, .ref b), (1, .ref (ad 0)), (2, .ref (ad 26)), (3, .int (x3 + 6))]) [1, 2, 3, 0] rfl ?_
                                                      exact ih (x3 + 6) M182 h
                                                    · replace h := ite_n q183 h
                                                      refine V_iconst C (0 : Int32) dL_law_829 (by decide) ?_
                                                      exact absurd (ret_W h).1 (by decide)
                                                  · replace h := ite_n q24 h
                                                    by_cases q25 : ((xs (x3).toNatClampNeg) &&& (63 : Int32)) = 23
                                                    · replace h := ite_p q25 h
                                                      refine V_tblI C 831 dL_law_33 (by rw [q25]; decide) (by rw [q25]; decide) (by rw [q25]; rfl) (by decide) ?_
                                                      refine V_aload_n C 1 dL_law_831 rfl ?_
                                                      refine V_aload_n C 0 dL_law_832 rfl ?_
                                                      refine V_iload_n C 3 dL_law_833 rfl ?_
                                                      refine V_iconst C (1 : Int32) dL_law_834 (by decide) ?_
                                                      refine V_iadd C dL_law_835 ?_
                                                      obtain ⟨g162, h⟩ := gd_t h
                                                      refine V_xld C hX hbl hbA (inb_in g162) dL_law_836 ?_
                                                      refine V_aload_n C 0 dL_law_837 rfl ?_
                                                      refine V_iload_n C 3 dL_law_838 rfl ?_
                                                      refine V_iconst C (2 : Int32) dL_law_839 (by decide) ?_
                                                      refine V_iadd C dL_law_840 ?_
                                                      obtain ⟨g163, h⟩ := gd_t h
                                                      refine V_xld C hX hbl hbA (inb_in g163) dL_law_841 ?_
                                                      refine V_aload_n C 0 dL_law_842 rfl ?_
                                                      refine V_iload_n C 3 dL_law_843 rfl ?_
                                                      refine V_iconst C (3 : Int32) dL_law_844 (by decide) ?_
                                                      refine V_iadd C dL_law_845 ?_
                                                      obtain ⟨g164, h⟩ := gd_t h
                                                      refine V_xld C hX hbl hbA (inb_in g164) dL_law_846 ?_
                                                      obtain ⟨z165, M166, hz165, h⟩ := bW_t h
                                                      refine V_callV C (st := []) (st' := [.int z165]) (mX4_through l (xs ((x3 + (1 : Int32))).toNatClampNeg) (xs ((x3 + (2 : Int32))).toNatClampNeg) (xs ((x3 + (3 : Int32))).toNatClampNeg) M hz165) wmX4_through lkL_109 dL_law_847 (wo_0 T3 ad _) rfl rfl rfl rfl rfl rfl ⟨rfl, rfl, (Nat.le_of_ble_eq_true rfl), (Nat.le_of_ble_eq_true rfl)⟩ ⟨Nat.le_of_ble_eq_true rfl, Nat.le_of_ble_eq_true rfl⟩ (Nat.le_of_ble_eq_true rfl) ?_
                                                      refine V_aload_n C 2 dL_law_850 rfl ?_
                                                      refine V_aload_n C 0 dL_law_851 rfl ?_
                                                      refine V_iload_n C 3 dL_law_852 rfl ?_
                                                      refine V_iconst C (1 : Int32) dL_law_853 (by decide) ?_
                                                      refine V_iadd C dL_law_854 ?_
                                                      obtain ⟨g167, h⟩ := gd_t h
                                                      refine V_xld C hX hbl hbA (inb_in g167) dL_law_855 ?_
                                                      refine V_aload_n C 0 dL_law_856 rfl ?_
                                                      refine V_iload_n C 3 dL_law_857 rfl ?_
                                                      refine V_iconst C (2 : Int32) dL_law_858 (by decide) ?_
                                                      refine V_iadd C dL_law_859 ?_
                                                      obtain ⟨g168, h⟩ := gd_t h
                                                      refine V_xld C hX hbl hbA (inb_in g168) dL_law_860 ?_
                                                      refine V_aload_n C 0 dL_law_861 rfl ?_
                                                      refine V_iload_n C 3 dL_law_862 rfl ?_
                                                      refine V_iconst C (3 : Int32) dL_law_863 (by decide) ?_
                                                      refine V_iadd C dL_law_864 ?_
                                                      obtain ⟨g169, h⟩ := gd_t h
                                                      refine V_xld C hX hbl hbA (inb_in g169) dL_law_865 ?_
                                                      obtain ⟨z170, M171, hz170, h⟩ := bW_t h
                                                      refine V_callV C (st := [.int z165]) (st' := [.int z170, .int z165]) (mX5_through l (xs ((x3 + (1 : Int32))).toNatClampNeg) (xs ((x3 + (2 : Int32))).toNatClampNeg) (xs ((x3 + (3 : Int32))).toNatClampNeg) M166 hz170) wmX5_through lkL_112 dL_law_866 (wo_26 T3 ad _) rfl rfl rfl rfl rfl rfl ⟨rfl, rfl, (Nat.le_of_ble_eq_true rfl), (Nat.le_of_ble_eq_true rfl)⟩ ⟨Nat.le_of_ble_eq_true rfl, Nat.le_of_ble_eq_true rfl⟩ (Nat.le_of_ble_eq_true rfl) ?_
                                                      refine V_icmp_eq C 1351 dL_law_869 (by decide) (fun q172 => ?_) (fun q172 => ?_)
                                                      · replace h := ite_p q172 h
                                                        refine V_iinc C 3 (x3 + 6) [(3, .int (x3 + 6)), (0, .ref b), (1, .ref (ad 0)), (2, .ref (ad 26))] dL_law_1351 rfl rfl (by decide) rfl ?_
                                                        refine V_goto C 18 dL_law_1354 (by decide) ?_
                                                        refine V_sub (lv' := [(0, .ref b), (1, .ref (ad 0)), (2, .ref (ad 26)), (3, .int (x3 + 6))]) [1, 2, 3, 0] rfl ?_
                                                        exact ih (x3 + 6) M171 h
                                                      · replace h := ite_n q172 h
                                                        refine V_iconst C (0 : Int32) dL_law_872 (by decide) ?_
                                                        exact absurd (ret_W h).1 (by decide)
                                                    · replace h := ite_n q25 h
                                                      by_cases q26 : ((xs (x3).toNatClampNeg) &&& (63 : Int32)) = 24
                                                      · replace h := ite_p q26 h
                                                        refine V_tblI C 874 dL_law_33 (by rw [q26]; decide) (by rw [q26]; decide) (by rw [q26]; rfl) (by decide) ?_
                                                        refine V_aload_n C 1 dL_law_874 rfl ?_
                                                        refine V_aload_n C 0 dL_law_875 rfl ?_
                                                        refine V_iload_n C 3 dL_law_876 rfl ?_
                                                        refine V_iconst C (1 : Int32) dL_law_877 (by decide) ?_
                                                        refine V_iadd C dL_law_878 ?_
                                                        obtain ⟨g151, h⟩ := gd_t h
                                                        refine V_xld C hX hbl hbA (inb_in g151) dL_law_879 ?_
                                                        refine V_aload_n C 0 dL_law_880 rfl ?_
                                                        refine V_iload_n C 3 dL_law_881 rfl ?_
                                                        refine V_iconst C (2 : Int32) dL_law_882 (by decide) ?_
                                                        refine V_iadd C dL_law_883 ?_
                                                        obtain ⟨g152, h⟩ := gd_t h
                                                        refine V_xld C hX hbl hbA (inb_in g152) dL_law_884 ?_
                                                        refine V_aload_n C 0 dL_law_885 rfl ?_
                                                        refine V_iload_n C 3 dL_law_886 rfl ?_
                                                        refine V_iconst C (3 : Int32) dL_law_887 (by decide) ?_
                                                        refine V_iadd C dL_law_888 ?_
                                                        obtain ⟨g153, h⟩ := gd_t h
                                                        refine V_xld C hX hbl hbA (inb_in g153) dL_law_889 ?_
                                                        obtain ⟨z154, M155, hz154, h⟩ := bW_t h
                                                        refine V_callV C (st := []) (st' := [.int z154]) (mX4_sure l (xs ((x3 + (1 : Int32))).toNatClampNeg) (xs ((x3 + (2 : Int32))).toNatClampNeg) (xs ((x3 + (3 : Int32))).toNatClampNeg) M hz154) wmX4_sure lkL_113 dL_law_890 (wo_0 T3 ad _) rfl rfl rfl rfl rfl rfl ⟨rfl, rfl, (Nat.le_of_ble_eq_true rfl), (Nat.le_of_ble_eq_true rfl)⟩ ⟨Nat.le_of_ble_eq_true rfl, Nat.le_of_ble_eq_true rfl⟩ (Nat.le_of_ble_eq_true rfl) ?_
                                                        refine V_aload_n C 2 dL_law_893 rfl ?_
                                                        refine V_aload_n C 0 dL_law_894 rfl ?_
                                                        refine V_iload_n C 3 dL_law_895 rfl ?_
                                                        refine V_iconst C (1 : Int32) dL_law_896 (by decide) ?_
                                                        refine V_iadd C dL_law_897 ?_
                                                        obtain ⟨g156, h⟩ := gd_t h
                                                        refine V_xld C hX hbl hbA (inb_in g156) dL_law_898 ?_
                                                        refine V_aload_n C 0 dL_law_899 rfl ?_
                                                        refine V_iload_n C 3 dL_law_900 rfl ?_
                                                        refine V_iconst C (2 : Int32) dL_law_901 (by decide) ?_
                                                        refine V_iadd C dL_law_902 ?_
                                                        obtain ⟨g157, h⟩ := gd_t h
                                                        refine V_xld C hX hbl hbA (inb_in g157) dL_law_903 ?_
                                                        refine V_aload_n C 0 dL_law_904 rfl ?_
                                                        refine V_iload_n C 3 dL_law_905 rfl ?_
                                                        refine V_iconst C (3 : Int32) dL_law_906 (by decide) ?_
                                                        refine V_iadd C dL_law_907 ?_
                                                        obtain ⟨g158, h⟩ := gd_t h
                                                        refine V_xld C hX hbl hbA (inb_in g158) dL_law_908 ?_
                                                        obtain ⟨z159, M160, hz159, h⟩ := bW_t h
                                                        refine V_callV C (st := [.int z154]) (st' := [.int z159, .int z154]) (mX5_sure l (xs ((x3 + (1 : Int32))).toNatClampNeg) (xs ((x3 + (2 : Int32))).toNatClampNeg) (xs ((x3 + (3 : Int32))).toNatClampNeg) M155 hz159) wmX5_sure lkL_116 dL_law_909 (wo_26 T3 ad _) rfl rfl rfl rfl rfl rfl ⟨rfl, rfl, (Nat.le_of_ble_eq_true rfl), (Nat.le_of_ble_eq_true rfl)⟩ ⟨Nat.le_of_ble_eq_true rfl, Nat.le_of_ble_eq_true rfl⟩ (Nat.le_of_ble_eq_true rfl) ?_
                                                        refine V_icmp_eq C 1351 dL_law_912 (by decide) (fun q161 => ?_) (fun q161 => ?_)
                                                        · replace h := ite_p q161 h
                                                          refine V_iinc C 3 (x3 + 6) [(3, .int (x3 + 6)), (0, .ref b), (1, .ref (ad 0)), (2, .ref (ad 26))] dL_law_1351 rfl rfl (by decide) rfl ?_
                                                          refine V_goto C 18 dL_law_1354 (by decide) ?_
                                                          refine V_sub (lv' := [(0, .ref b), (1, .ref (ad 0)), (2, .ref (ad 26)), (3, .int (x3 + 6))]) [1, 2, 3, 0] rfl ?_
                                                          exact ih (x3 + 6) M160 h
                                                        · replace h := ite_n q161 h
                                                          refine V_iconst C (0 : Int32) dL_law_915 (by decide) ?_
                                                          exact absurd (ret_W h).1 (by decide)
                                                      · replace h := ite_n q26 h
                                                        by_cases q27 : ((xs (x3).toNatClampNeg) &&& (63 : Int32)) = 25
                                                        · replace h := ite_p q27 h
                                                          refine V_tblI C 917 dL_law_33 (by rw [q27]; decide) (by rw [q27]; decide) (by rw [q27]; rfl) (by decide) ?_
                                                          refine V_aload_n C 1 dL_law_917 rfl ?_
                                                          refine V_aload_n C 0 dL_law_918 rfl ?_
                                                          refine V_iload_n C 3 dL_law_919 rfl ?_
                                                          refine V_iconst C (1 : Int32) dL_law_920 (by decide) ?_
                                                          refine V_iadd C dL_law_921 ?_
                                                          obtain ⟨g140, h⟩ := gd_t h
                                                          refine V_xld C hX hbl hbA (inb_in g140) dL_law_922 ?_
                                                          refine V_aload_n C 0 dL_law_923 rfl ?_
                                                          refine V_iload_n C 3 dL_law_924 rfl ?_
                                                          refine V_iconst C (2 : Int32) dL_law_925 (by decide) ?_
                                                          refine V_iadd C dL_law_926 ?_
                                                          obtain ⟨g141, h⟩ := gd_t h
                                                          refine V_xld C hX hbl hbA (inb_in g141) dL_law_927 ?_
                                                          refine V_aload_n C 0 dL_law_928 rfl ?_
                                                          refine V_iload_n C 3 dL_law_929 rfl ?_
                                                          refine V_iconst C (3 : Int32) dL_law_930 (by decide) ?_
                                                          refine V_iadd C dL_law_931 ?_
                                                          obtain ⟨g142, h⟩ := gd_t h
                                                          refine V_xld C hX hbl hbA (inb_in g142) dL_law_932 ?_
                                                          obtain ⟨z143, M144, hz143, h⟩ := bW_t h
                                                          refine V_callV C (st := []) (st' := [.int z143]) (mX4_safest l (xs ((x3 + (1 : Int32))).toNatClampNeg) (xs ((x3 + (2 : Int32))).toNatClampNeg) (xs ((x3 + (3 : Int32))).toNatClampNeg) M hz143) wmX4_safest lkL_117 dL_law_933 (wo_0 T3 ad _) rfl rfl rfl rfl rfl rfl ⟨rfl, rfl, (Nat.le_of_ble_eq_true rfl), (Nat.le_of_ble_eq_true rfl)⟩ ⟨Nat.le_of_ble_eq_true rfl, Nat.le_of_ble_eq_true rfl⟩ (Nat.le_of_ble_eq_true rfl) ?_
                                                          refine V_aload_n C 2 dL_law_936 rfl ?_
                                                          refine V_aload_n C 0 dL_law_937 rfl ?_
                                                          refine V_iload_n C 3 dL_law_938 rfl ?_
                                                          refine V_iconst C (1 : Int32) dL_law_939 (by decide) ?_
                                                          refine V_iadd C dL_law_940 ?_
                                                          obtain ⟨g145, h⟩ := gd_t h
                                                          refine V_xld C hX hbl hbA (inb_in g145) dL_law_941 ?_
                                                          refine V_aload_n C 0 dL_law_942 rfl ?_
                                                          refine V_iload_n C 3 dL_law_943 rfl ?_
                                                          refine V_iconst C (2 : Int32) dL_law_944 (by decide) ?_
                                                          refine V_iadd C dL_law_945 ?_
                                                          obtain ⟨g146, h⟩ := gd_t h
                                                          refine V_xld C hX hbl hbA (inb_in g146) dL_law_946 ?_
                                                          refine V_aload_n C 0 dL_law_947 rfl ?_
                                                          refine V_iload_n C 3 dL_law_948 rfl ?_
                                                          refine V_iconst C (3 : Int32) dL_law_949 (by decide) ?_
                                                          refine V_iadd C dL_law_950 ?_
                                                          obtain ⟨g147, h⟩ := gd_t h
                                                          refine V_xld C hX hbl hbA (inb_in g147) dL_law_951 ?_
                                                          obtain ⟨z148, M149, hz148, h⟩ := bW_t h
                                                          refine V_callV C (st := [.int z143]) (st' := [.int z148, .int z143]) (mX5_safest l (xs ((x3 + (1 : Int32))).toNatClampNeg) (xs ((x3 + (2 : Int32))).toNatClampNeg) (xs ((x3 + (3 : Int32))).toNatClampNeg) M144 hz148) wmX5_safest lkL_120 dL_law_952 (wo_26 T3 ad _) rfl rfl rfl rfl rfl rfl ⟨rfl, rfl, (Nat.le_of_ble_eq_true rfl), (Nat.le_of_ble_eq_true rfl)⟩ ⟨Nat.le_of_ble_eq_true rfl, Nat.le_of_ble_eq_true rfl⟩ (Nat.le_of_ble_eq_true rfl) ?_
                                                          refine V_icmp_eq C 1351 dL_law_955 (by decide) (fun q150 => ?_) (fun q150 => ?_)
                                                          · replace h := ite_p q150 h
                                                            refine V_iinc C 3 (x3 + 6) [(3, .int (x3 + 6)), (0, .ref b), (1, .ref (ad 0)), (2, .ref (ad 26))] dL_law_1351 rfl rfl (by decide) rfl ?_
                                                            refine V_goto C 18 dL_law_1354 (by decide) ?_
                                                            refine V_sub (lv' := [(0, .ref b), (1, .ref (ad 0)), (2, .ref (ad 26)), (3, .int (x3 + 6))]) [1, 2, 3, 0] rfl ?_
                                                            exact ih (x3 + 6) M149 h
                                                          · replace h := ite_n q150 h
                                                            refine V_iconst C (0 : Int32) dL_law_958 (by decide) ?_
                                                            exact absurd (ret_W h).1 (by decide)
                                                        · replace h := ite_n q27 h
                                                          by_cases q28 : ((xs (x3).toNatClampNeg) &&& (63 : Int32)) = 26
                                                          · replace h := ite_p q28 h
                                                            refine V_tblI C 960 dL_law_33 (by rw [q28]; decide) (by rw [q28]; decide) (by rw [q28]; rfl) (by decide) ?_
                                                            refine V_aload_n C 1 dL_law_960 rfl ?_
                                                            refine V_aload_n C 0 dL_law_961 rfl ?_
                                                            refine V_iload_n C 3 dL_law_962 rfl ?_
                                                            refine V_iconst C (1 : Int32) dL_law_963 (by decide) ?_
                                                            refine V_iadd C dL_law_964 ?_
                                                            obtain ⟨g131, h⟩ := gd_t h
                                                            refine V_xld C hX hbl hbA (inb_in g131) dL_law_965 ?_
                                                            refine V_aload_n C 0 dL_law_966 rfl ?_
                                                            refine V_iload_n C 3 dL_law_967 rfl ?_
                                                            refine V_iconst C (2 : Int32) dL_law_968 (by decide) ?_
                                                            refine V_iadd C dL_law_969 ?_
                                                            obtain ⟨g132, h⟩ := gd_t h
                                                            refine V_xld C hX hbl hbA (inb_in g132) dL_law_970 ?_
                                                            obtain ⟨z133, M134, hz133, h⟩ := bW_t h
                                                            refine V_callV C (st := []) (st' := [.int z133]) (mX4_worth l (xs ((x3 + (1 : Int32))).toNatClampNeg) (xs ((x3 + (2 : Int32))).toNatClampNeg) M hz133) wmX4_worth lkL_121 dL_law_971 (wo_0 T3 ad _) rfl rfl rfl rfl rfl rfl ⟨rfl, rfl, (Nat.le_of_ble_eq_true rfl), (Nat.le_of_ble_eq_true rfl)⟩ ⟨Nat.le_of_ble_eq_true rfl, Nat.le_of_ble_eq_true rfl⟩ (Nat.le_of_ble_eq_true rfl) ?_
                                                            refine V_aload_n C 2 dL_law_974 rfl ?_
                                                            refine V_aload_n C 0 dL_law_975 rfl ?_
                                                            refine V_iload_n C 3 dL_law_976 rfl ?_
                                                            refine V_iconst C (1 : Int32) dL_law_977 (by decide) ?_
                                                            refine V_iadd C dL_law_978 ?_
                                                            obtain ⟨g135, h⟩ := gd_t h
                                                            refine V_xld C hX hbl hbA (inb_in g135) dL_law_979 ?_
                                                            refine V_aload_n C 0 dL_law_980 rfl ?_
                                                            refine V_iload_n C 3 dL_law_981 rfl ?_
                                                            refine V_iconst C (2 : Int32) dL_law_982 (by decide) ?_
                                                            refine V_iadd C dL_law_983 ?_
                                                            obtain ⟨g136, h⟩ := gd_t h
                                                            refine V_xld C hX hbl hbA (inb_in g136) dL_law_984 ?_
                                                            obtain ⟨z137, M138, hz137, h⟩ := bW_t h
                                                            refine V_callV C (st := [.int z133]) (st' := [.int z137, .int z133]) (mX5_worth l (xs ((x3 + (1 : Int32))).toNatClampNeg) (xs ((x3 + (2 : Int32))).toNatClampNeg) M134 hz137) wmX5_worth lkL_124 dL_law_985 (wo_26 T3 ad _) rfl rfl rfl rfl rfl rfl ⟨rfl, rfl, (Nat.le_of_ble_eq_true rfl), (Nat.le_of_ble_eq_true rfl)⟩ ⟨Nat.le_of_ble_eq_true rfl, Nat.le_of_ble_eq_true rfl⟩ (Nat.le_of_ble_eq_true rfl) ?_
                                                            refine V_icmp_eq C 1351 dL_law_988 (by decide) (fun q139 => ?_) (fun q139 => ?_)
                                                            · replace h := ite_p q139 h
                                                              refine V_iinc C 3 (x3 + 6) [(3, .int (x3 + 6)), (0, .ref b), (1, .ref (ad 0)), (2, .ref (ad 26))] dL_law_1351 rfl rfl (by decide) rfl ?_
                                                              refine V_goto C 18 dL_law_1354 (by decide) ?_
                                                              refine V_sub (lv' := [(0, .ref b), (1, .ref (ad 0)), (2, .ref (ad 26)), (3, .int (x3 + 6))]) [1, 2, 3, 0] rfl ?_
                                                              exact ih (x3 + 6) M138 h
                                                            · replace h := ite_n q139 h
                                                              refine V_iconst C (0 : Int32) dL_law_991 (by decide) ?_
                                                              exact absurd (ret_W h).1 (by decide)
                                                          · replace h := ite_n q28 h
                                                            by_cases q29 : ((xs (x3).toNatClampNeg) &&& (63 : Int32)) = 27
                                                            · replace h := ite_p q29 h
                                                              refine V_tblI C 993 dL_law_33 (by rw [q29]; decide) (by rw [q29]; decide) (by rw [q29]; rfl) (by decide) ?_
                                                              refine V_aload_n C 1 dL_law_993 rfl ?_
                                                              refine V_aload_n C 0 dL_law_994 rfl ?_
                                                              refine V_iload_n C 3 dL_law_995 rfl ?_
                                                              refine V_iconst C (1 : Int32) dL_law_996 (by decide) ?_
                                                              refine V_iadd C dL_law_997 ?_
                                                              obtain ⟨g118, h⟩ := gd_t h
                                                              refine V_xld C hX hbl hbA (inb_in g118) dL_law_998 ?_
                                                              refine V_aload_n C 0 dL_law_999 rfl ?_
                                                              refine V_iload_n C 3 dL_law_1000 rfl ?_
                                                              refine V_iconst C (2 : Int32) dL_law_1001 (by decide) ?_
                                                              refine V_iadd C dL_law_1002 ?_
                                                              obtain ⟨g119, h⟩ := gd_t h
                                                              refine V_xld C hX hbl hbA (inb_in g119) dL_law_1003 ?_
                                                              refine V_aload_n C 0 dL_law_1004 rfl ?_
                                                              refine V_iload_n C 3 dL_law_1005 rfl ?_
                                                              refine V_iconst C (3 : Int32) dL_law_1006 (by decide) ?_
                                                              refine V_iadd C dL_law_1007 ?_
                                                              obtain ⟨g120, h⟩ := gd_t h
                                                              refine V_xld C hX hbl hbA (inb_in g120) dL_law_1008 ?_
                                                              refine V_aload_n C 0 dL_law_1009 rfl ?_
                                                              refine V_iload_n C 3 dL_law_1010 rfl ?_
                                                              refine V_iconst C (4 : Int32) dL_law_1011 (by decide) ?_
                                                              refine V_iadd C dL_law_1012 ?_
                                                              obtain ⟨g121, h⟩ := gd_t h
                                                              refine V_xld C hX hbl hbA (inb_in g121) dL_law_1013 ?_
                                                              obtain ⟨z122, M123, hz122, h⟩ := bW_t h
                                                              refine V_callV C (st := []) (st' := [.int z122]) (mX4_season l (xs ((x3 + (1 : Int32))).toNatClampNeg) (xs ((x3 + (2 : Int32))).toNatClampNeg) (xs ((x3 + (3 : Int32))).toNatClampNeg) (xs ((x3 + (4 : Int32))).toNatClampNeg) M hz122) wmX4_season lkL_125 dL_law_1014 (wo_0 T3 ad _) rfl rfl rfl rfl rfl rfl ⟨rfl, rfl, (Nat.le_of_ble_eq_true rfl), (Nat.le_of_ble_eq_true rfl)⟩ ⟨Nat.le_of_ble_eq_true rfl, Nat.le_of_ble_eq_true rfl⟩ (Nat.le_of_ble_eq_true rfl) ?_
                                                              refine V_aload_n C 2 dL_law_1017 rfl ?_
                                                              refine V_aload_n C 0 dL_law_1018 rfl ?_
                                                              refine V_iload_n C 3 dL_law_1019 rfl ?_
                                                              refine V_iconst C (1 : Int32) dL_law_1020 (by decide) ?_
                                                              refine V_iadd C dL_law_1021 ?_
                                                              obtain ⟨g124, h⟩ := gd_t h
                                                              refine V_xld C hX hbl hbA (inb_in g124) dL_law_1022 ?_
                                                              refine V_aload_n C 0 dL_law_1023 rfl ?_
                                                              refine V_iload_n C 3 dL_law_1024 rfl ?_
                                                              refine V_iconst C (2 : Int32) dL_law_1025 (by decide) ?_
                                                              refine V_iadd C dL_law_1026 ?_
                                                              obtain ⟨g125, h⟩ := gd_t h
                                                              refine V_xld C hX hbl hbA (inb_in g125) dL_law_1027 ?_
                                                              refine V_aload_n C 0 dL_law_1028 rfl ?_
                                                              refine V_iload_n C 3 dL_law_1029 rfl ?_
                                                              refine V_iconst C (3 : Int32) dL_law_1030 (by decide) ?_
                                                              refine V_iadd C dL_law_1031 ?_
                                                              obtain ⟨g126, h⟩ := gd_t h
                                                              refine V_xld C hX hbl hbA (inb_in g126) dL_law_1032 ?_
                                                              refine V_aload_n C 0 dL_law_1033 rfl ?_
                                                              refine V_iload_n C 3 dL_law_1034 rfl ?_
                                                              refine V_iconst C (4 : Int32) dL_law_1035 (by decide) ?_
                                                              refine V_iadd C dL_law_1036 ?_
                                                              obtain ⟨g127, h⟩ := gd_t h
                                                              refine V_xld C hX hbl hbA (inb_in g127) dL_law_1037 ?_
                                                              obtain ⟨z128, M129, hz128, h⟩ := bW_t h
                                                              refine V_callV C (st := [.int z122]) (st' := [.int z128, .int z122]) (mX5_season l (xs ((x3 + (1 : Int32))).toNatClampNeg) (xs ((x3 + (2 : Int32))).toNatClampNeg) (xs ((x3 + (3 : Int32))).toNatClampNeg) (xs ((x3 + (4 : Int32))).toNatClampNeg) M123 hz128) wmX5_season lkL_129 dL_law_1038 (wo_26 T3 ad _) rfl rfl rfl rfl rfl rfl ⟨rfl, rfl, (Nat.le_of_ble_eq_true rfl), (Nat.le_of_ble_eq_true rfl)⟩ ⟨Nat.le_of_ble_eq_true rfl, Nat.le_of_ble_eq_true rfl⟩ (Nat.le_of_ble_eq_true rfl) ?_
                                                              refine V_icmp_eq C 1351 dL_law_1041 (by decide) (fun q130 => ?_) (fun q130 => ?_)
                                                              · replace h := ite_p q130 h
                                                                refine V_iinc C 3 (x3 + 6) [(3, .int (x3 + 6)), (0, .ref b), (1, .ref (ad 0)), (2, .ref (ad 26))] dL_law_1351 rfl rfl (by decide) rfl ?_
                                                                refine V_goto C 18 dL_law_1354 (by decide) ?_
                                                                refine V_sub (lv' := [(0, .ref b), (1, .ref (ad 0)), (2, .ref (ad 26)), (3, .int (x3 + 6))]) [1, 2, 3, 0] rfl ?_
                                                                exact ih (x3 + 6) M129 h
                                                              · replace h := ite_n q130 h
                                                                refine V_iconst C (0 : Int32) dL_law_1044 (by decide) ?_
                                                                exact absurd (ret_W h).1 (by decide)
                                                            · replace h := ite_n q29 h
                                                              by_cases q30 : ((xs (x3).toNatClampNeg) &&& (63 : Int32)) = 28
                                                              · replace h := ite_p q30 h
                                                                refine V_tblI C 1046 dL_law_33 (by rw [q30]; decide) (by rw [q30]; decide) (by rw [q30]; rfl) (by decide) ?_
                                                                refine V_aload_n C 1 dL_law_1046 rfl ?_
                                                                refine V_aload_n C 0 dL_law_1047 rfl ?_
                                                                refine V_iload_n C 3 dL_law_1048 rfl ?_
                                                                refine V_iconst C (1 : Int32) dL_law_1049 (by decide) ?_
                                                                refine V_iadd C dL_law_1050 ?_
                                                                obtain ⟨g107, h⟩ := gd_t h
                                                                refine V_xld C hX hbl hbA (inb_in g107) dL_law_1051 ?_
                                                                refine V_aload_n C 0 dL_law_1052 rfl ?_
                                                                refine V_iload_n C 3 dL_law_1053 rfl ?_
                                                                refine V_iconst C (2 : Int32) dL_law_1054 (by decide) ?_
                                                                refine V_iadd C dL_law_1055 ?_
                                                                obtain ⟨g108, h⟩ := gd_t h
                                                                refine V_xld C hX hbl hbA (inb_in g108) dL_law_1056 ?_
                                                                refine V_aload_n C 0 dL_law_1057 rfl ?_
                                                                refine V_iload_n C 3 dL_law_1058 rfl ?_
                                                                refine V_iconst C (3 : Int32) dL_law_1059 (by decide) ?_
                                                                refine V_iadd C dL_law_1060 ?_
                                                                obtain ⟨g109, h⟩ := gd_t h
                                                                refine V_xld C hX hbl hbA (inb_in g109) dL_law_1061 ?_
                                                                obtain ⟨z110, M111, hz110, h⟩ := bW_t h
                                                                refine V_callV C (st := []) (st' := [.int z110]) (mX4_sheet l (xs ((x3 + (1 : Int32))).toNatClampNeg) (xs ((x3 + (2 : Int32))).toNatClampNeg) (xs ((x3 + (3 : Int32))).toNatClampNeg) M hz110) wmX4_sheet lkL_130 dL_law_1062 (wo_0 T3 ad _) rfl rfl rfl rfl rfl rfl ⟨rfl, rfl, (Nat.le_of_ble_eq_true rfl), (Nat.le_of_ble_eq_true rfl)⟩ ⟨Nat.le_of_ble_eq_true rfl, Nat.le_of_ble_eq_true rfl⟩ (Nat.le_of_ble_eq_true rfl) ?_
                                                                refine V_aload_n C 2 dL_law_1065 rfl ?_
                                                                refine V_aload_n C 0 dL_law_1066 rfl ?_
                                                                refine V_iload_n C 3 dL_law_1067 rfl ?_
                                                                refine V_iconst C (1 : Int32) dL_law_1068 (by decide) ?_
                                                                refine V_iadd C dL_law_1069 ?_
                                                                obtain ⟨g112, h⟩ := gd_t h
                                                                refine V_xld C hX hbl hbA (inb_in g112) dL_law_1070 ?_
                                                                refine V_aload_n C 0 dL_law_1071 rfl ?_
                                                                refine V_iload_n C 3 dL_law_1072 rfl ?_
                                                                refine V_iconst C (2 : Int32) dL_law_1073 (by decide) ?_
                                                                refine V_iadd C dL_law_1074 ?_
                                                                obtain ⟨g113, h⟩ := gd_t h
                                                                refine V_xld C hX hbl hbA (inb_in g113) dL_law_1075 ?_
                                                                refine V_aload_n C 0 dL_law_1076 rfl ?_
                                                                refine V_iload_n C 3 dL_law_1077 rfl ?_
                                                                refine V_iconst C (3 : Int32) dL_law_1078 (by decide) ?_
                                                                refine V_iadd C dL_law_1079 ?_
                                                                obtain ⟨g114, h⟩ := gd_t h
                                                                refine V_xld C hX hbl hbA (inb_in g114) dL_law_1080 ?_
                                                                obtain ⟨z115, M116, hz115, h⟩ := bW_t h
                                                                refine V_callV C (st := [.int z110]) (st' := [.int z115, .int z110]) (mX5_sheet l (xs ((x3 + (1 : Int32))).toNatClampNeg) (xs ((x3 + (2 : Int32))).toNatClampNeg) (xs ((x3 + (3 : Int32))).toNatClampNeg) M111 hz115) wmX5_sheet lkL_133 dL_law_1081 (wo_26 T3 ad _) rfl rfl rfl rfl rfl rfl ⟨rfl, rfl, (Nat.le_of_ble_eq_true rfl), (Nat.le_of_ble_eq_true rfl)⟩ ⟨Nat.le_of_ble_eq_true rfl, Nat.le_of_ble_eq_true rfl⟩ (Nat.le_of_ble_eq_true rfl) ?_
                                                                refine V_icmp_eq C 1351 dL_law_1084 (by decide) (fun q117 => ?_) (fun q117 => ?_)
                                                                · replace h := ite_p q117 h
                                                                  refine V_iinc C 3 (x3 + 6) [(3, .int (x3 + 6)), (0, .ref b), (1, .ref (ad 0)), (2, .ref (ad 26))] dL_law_1351 rfl rfl (by decide) rfl ?_
                                                                  refine V_goto C 18 dL_law_1354 (by decide) ?_
                                                                  refine V_sub (lv' := [(0, .ref b), (1, .ref (ad 0)), (2, .ref (ad 26)), (3, .int (x3 + 6))]) [1, 2, 3, 0] rfl ?_
                                                                  exact ih (x3 + 6) M116 h
                                                                · replace h := ite_n q117 h
                                                                  refine V_iconst C (0 : Int32) dL_law_1087 (by decide) ?_
                                                                  exact absurd (ret_W h).1 (by decide)
                                                              · replace h := ite_n q30 h
                                                                by_cases q31 : ((xs (x3).toNatClampNeg) &&& (63 : Int32)) = 29
                                                                · replace h := ite_p q31 h
                                                                  refine V_tblI C 1089 dL_law_33 (by rw [q31]; decide) (by rw [q31]; decide) (by rw [q31]; rfl) (by decide) ?_
                                                                  refine V_aload_n C 1 dL_law_1089 rfl ?_
                                                                  refine V_aload_n C 0 dL_law_1090 rfl ?_
                                                                  refine V_iload_n C 3 dL_law_1091 rfl ?_
                                                                  refine V_iconst C (1 : Int32) dL_law_1092 (by decide) ?_
                                                                  refine V_iadd C dL_law_1093 ?_
                                                                  obtain ⟨g100, h⟩ := gd_t h
                                                                  refine V_xld C hX hbl hbA (inb_in g100) dL_law_1094 ?_
                                                                  obtain ⟨z101, M102, hz101, h⟩ := bW_t h
                                                                  refine V_callV C (st := []) (st' := [.int z101]) (mX4_lose l (xs ((x3 + (1 : Int32))).toNatClampNeg) M hz101) wmX4_lose lkL_134 dL_law_1095 (wo_0 T3 ad _) rfl rfl rfl rfl rfl rfl ⟨rfl, rfl, (Nat.le_of_ble_eq_true rfl), (Nat.le_of_ble_eq_true rfl)⟩ ⟨Nat.le_of_ble_eq_true rfl, Nat.le_of_ble_eq_true rfl⟩ (Nat.le_of_ble_eq_true rfl) ?_
                                                                  refine V_aload_n C 2 dL_law_1098 rfl ?_
                                                                  refine V_aload_n C 0 dL_law_1099 rfl ?_
                                                                  refine V_iload_n C 3 dL_law_1100 rfl ?_
                                                                  refine V_iconst C (1 : Int32) dL_law_1101 (by decide) ?_
                                                                  refine V_iadd C dL_law_1102 ?_
                                                                  obtain ⟨g103, h⟩ := gd_t h
                                                                  refine V_xld C hX hbl hbA (inb_in g103) dL_law_1103 ?_
                                                                  obtain ⟨z104, M105, hz104, h⟩ := bW_t h
                                                                  refine V_callV C (st := [.int z101]) (st' := [.int z104, .int z101]) (mX5_lose l (xs ((x3 + (1 : Int32))).toNatClampNeg) M102 hz104) wmX5_lose lkL_137 dL_law_1104 (wo_26 T3 ad _) rfl rfl rfl rfl rfl rfl ⟨rfl, rfl, (Nat.le_of_ble_eq_true rfl), (Nat.le_of_ble_eq_true rfl)⟩ ⟨Nat.le_of_ble_eq_true rfl, Nat.le_of_ble_eq_true rfl⟩ (Nat.le_of_ble_eq_true rfl) ?_
                                                                  refine V_icmp_eq C 1351 dL_law_1107 (by decide) (fun q106 => ?_) (fun q106 => ?_)
                                                                  · replace h := ite_p q106 h
                                                                    refine V_iinc C 3 (x3 + 6) [(3, .int (x3 + 6)), (0, .ref b), (1, .ref (ad 0)), (2, .ref (ad 26))] dL_law_1351 rfl rfl (by decide) rfl ?_
                                                                    refine V_goto C 18 dL_law_1354 (by decide) ?_
                                                                    refine V_sub (lv' := [(0, .ref b), (1, .ref (ad 0)), (2, .ref (ad 26)), (3, .int (x3 + 6))]) [1, 2, 3, 0] rfl ?_
                                                                    exact ih (x3 + 6) M105 h
                                                                  · replace h := ite_n q106 h
                                                                    refine V_iconst C (0 : Int32) dL_law_1110 (by decide) ?_
                                                                    exact absurd (ret_W h).1 (by decide)
                                                                · replace h := ite_n q31 h
                                                                  by_cases q32 : ((xs (x3).toNatClampNeg) &&& (63 : Int32)) = 30
                                                                  · replace h := ite_p q32 h
                                                                    refine V_tblI C 1112 dL_law_33 (by rw [q32]; decide) (by rw [q32]; decide) (by rw [q32]; rfl) (by decide) ?_
                                                                    refine V_aload_n C 1 dL_law_1112 rfl ?_
                                                                    refine V_aload_n C 0 dL_law_1113 rfl ?_
                                                                    refine V_iload_n C 3 dL_law_1114 rfl ?_
                                                                    refine V_iconst C (1 : Int32) dL_law_1115 (by decide) ?_
                                                                    refine V_iadd C dL_law_1116 ?_
                                                                    obtain ⟨g87, h⟩ := gd_t h
                                                                    refine V_xld C hX hbl hbA (inb_in g87) dL_law_1117 ?_
                                                                    refine V_aload_n C 0 dL_law_1118 rfl ?_
                                                                    refine V_iload_n C 3 dL_law_1119 rfl ?_
                                                                    refine V_iconst C (2 : Int32) dL_law_1120 (by decide) ?_
                                                                    refine V_iadd C dL_law_1121 ?_
                                                                    obtain ⟨g88, h⟩ := gd_t h
                                                                    refine V_xld C hX hbl hbA (inb_in g88) dL_law_1122 ?_
                                                                    refine V_aload_n C 0 dL_law_1123 rfl ?_
                                                                    refine V_iload_n C 3 dL_law_1124 rfl ?_
                                                                    refine V_iconst C (3 : Int32) dL_law_1125 (by decide) ?_
                                                                    refine V_iadd C dL_law_1126 ?_
                                                                    obtain ⟨g89, h⟩ := gd_t h
                                                                    refine V_xld C hX hbl hbA (inb_in g89) dL_law_1127 ?_
                                                                    refine V_aload_n C 0 dL_law_1128 rfl ?_
                                                                    refine V_iload_n C 3 dL_law_1129 rfl ?_
                                                                    refine V_iconst C (4 : Int32) dL_law_1130 (by decide) ?_
                                                                    refine V_iadd C dL_law_1131 ?_
                                                                    obtain ⟨g90, h⟩ := gd_t h
                                                                    refine V_xld C hX hbl hbA (inb_in g90) dL_law_1132 ?_
                                                                    obtain ⟨z91, M92, hz91, h⟩ := bW_t h
                                                                    refine V_callV C (st := []) (st' := [.int z91]) (mX4_lay l (xs ((x3 + (1 : Int32))).toNatClampNeg) (xs ((x3 + (2 : Int32))).toNatClampNeg) (xs ((x3 + (3 : Int32))).toNatClampNeg) (xs ((x3 + (4 : Int32))).toNatClampNeg) M hz91) wmX4_lay lkL_138 dL_law_1133 (wo_0 T3 ad _) rfl rfl rfl rfl rfl rfl ⟨rfl, rfl, (Nat.le_of_ble_eq_true rfl), (Nat.le_of_ble_eq_true rfl)⟩ ⟨Nat.le_of_ble_eq_true rfl, Nat.le_of_ble_eq_true rfl⟩ (Nat.le_of_ble_eq_true rfl) ?_
                                                                    refine V_aload_n C 2 dL_law_1136 rfl ?_
                                                                    refine V_aload_n C 0 dL_law_1137 rfl ?_
                                                                    refine V_iload_n C 3 dL_law_1138 rfl ?_
                                                                    refine V_iconst C (1 : Int32) dL_law_1139 (by decide) ?_
                                                                    refine V_iadd C dL_law_1140 ?_
                                                                    obtain ⟨g93, h⟩ := gd_t h
                                                                    refine V_xld C hX hbl hbA (inb_in g93) dL_law_1141 ?_
                                                                    refine V_aload_n C 0 dL_law_1142 rfl ?_
                                                                    refine V_iload_n C 3 dL_law_1143 rfl ?_
                                                                    refine V_iconst C (2 : Int32) dL_law_1144 (by decide) ?_
                                                                    refine V_iadd C dL_law_1145 ?_
                                                                    obtain ⟨g94, h⟩ := gd_t h
                                                                    refine V_xld C hX hbl hbA (inb_in g94) dL_law_1146 ?_
                                                                    refine V_aload_n C 0 dL_law_1147 rfl ?_
                                                                    refine V_iload_n C 3 dL_law_1148 rfl ?_
                                                                    refine V_iconst C (3 : Int32) dL_law_1149 (by decide) ?_
                                                                    refine V_iadd C dL_law_1150 ?_
                                                                    obtain ⟨g95, h⟩ := gd_t h
                                                                    refine V_xld C hX hbl hbA (inb_in g95) dL_law_1151 ?_
                                                                    refine V_aload_n C 0 dL_law_1152 rfl ?_
                                                                    refine V_iload_n C 3 dL_law_1153 rfl ?_
                                                                    refine V_iconst C (4 : Int32) dL_law_1154 (by decide) ?_
                                                                    refine V_iadd C dL_law_1155 ?_
                                                                    obtain ⟨g96, h⟩ := gd_t h
                                                                    refine V_xld C hX hbl hbA (inb_in g96) dL_law_1156 ?_
                                                                    obtain ⟨z97, M98, hz97, h⟩ := bW_t h
                                                                    refine V_callV C (st := [.int z91]) (st' := [.int z97, .int z91]) (mX5_lay l (xs ((x3 + (1 : Int32))).toNatClampNeg) (xs ((x3 + (2 : Int32))).toNatClampNeg) (xs ((x3 + (3 : Int32))).toNatClampNeg) (xs ((x3 + (4 : Int32))).toNatClampNeg) M92 hz97) wmX5_lay lkL_141 dL_law_1157 (wo_26 T3 ad _) rfl rfl rfl rfl rfl rfl ⟨rfl, rfl, (Nat.le_of_ble_eq_true rfl), (Nat.le_of_ble_eq_true rfl)⟩ ⟨Nat.le_of_ble_eq_true rfl, Nat.le_of_ble_eq_true rfl⟩ (Nat.le_of_ble_eq_true rfl) ?_
                                                                    refine V_icmp_eq C 1351 dL_law_1160 (by decide) (fun q99 => ?_) (fun q99 => ?_)
                                                                    · replace h := ite_p q99 h
                                                                      refine V_iinc C 3 (x3 + 6) [(3, .int (x3 + 6)), (0, .ref b), (1, .ref (ad 0)), (2, .ref (ad 26))] dL_law_1351 rfl rfl (by decide) rfl ?_
                                                                      refine V_goto C 18 dL_law_1354 (by decide) ?_
                                                                      refine V_sub (lv' := [(0, .ref b), (1, .ref (ad 0)), (2, .ref (ad 26)), (3, .int (x3 + 6))]) [1, 2, 3, 0] rfl ?_
                                                                      exact ih (x3 + 6) M98 h
                                                                    · replace h := ite_n q99 h
                                                                      refine V_iconst C (0 : Int32) dL_law_1163 (by decide) ?_
                                                                      exact absurd (ret_W h).1 (by decide)
                                                                  · replace h := ite_n q32 h
                                                                    by_cases q33 : ((xs (x3).toNatClampNeg) &&& (63 : Int32)) = 31
                                                                    · replace h := ite_p q33 h
                                                                      refine V_tblI C 1165 dL_law_33 (by rw [q33]; decide) (by rw [q33]; decide) (by rw [q33]; rfl) (by decide) ?_
                                                                      refine V_aload_n C 1 dL_law_1165 rfl ?_
                                                                      refine V_aload_n C 0 dL_law_1166 rfl ?_
                                                                      refine V_iload_n C 3 dL_law_1167 rfl ?_
                                                                      refine V_iconst C (1 : Int32) dL_law_1168 (by decide) ?_
                                                                      refine V_iadd C dL_law_1169 ?_
                                                                      obtain ⟨g76, h⟩ := gd_t h
                                                                      refine V_xld C hX hbl hbA (inb_in g76) dL_law_1170 ?_
                                                                      refine V_aload_n C 0 dL_law_1171 rfl ?_
                                                                      refine V_iload_n C 3 dL_law_1172 rfl ?_
                                                                      refine V_iconst C (2 : Int32) dL_law_1173 (by decide) ?_
                                                                      refine V_iadd C dL_law_1174 ?_
                                                                      obtain ⟨g77, h⟩ := gd_t h
                                                                      refine V_xld C hX hbl hbA (inb_in g77) dL_law_1175 ?_
                                                                      refine V_aload_n C 0 dL_law_1176 rfl ?_
                                                                      refine V_iload_n C 3 dL_law_1177 rfl ?_
                                                                      refine V_iconst C (3 : Int32) dL_law_1178 (by decide) ?_
                                                                      refine V_iadd C dL_law_1179 ?_
                                                                      obtain ⟨g78, h⟩ := gd_t h
                                                                      refine V_xld C hX hbl hbA (inb_in g78) dL_law_1180 ?_
                                                                      obtain ⟨z79, M80, hz79, h⟩ := bW_t h
                                                                      refine V_callV C (st := []) (st' := [.int z79]) (mX4_get l (xs ((x3 + (1 : Int32))).toNatClampNeg) (xs ((x3 + (2 : Int32))).toNatClampNeg) (xs ((x3 + (3 : Int32))).toNatClampNeg) M hz79) wmX4_get lkL_142 dL_law_1181 (wo_0 T3 ad _) rfl rfl rfl rfl rfl rfl ⟨rfl, rfl, (Nat.le_of_ble_eq_true rfl), (Nat.le_of_ble_eq_true rfl)⟩ ⟨Nat.le_of_ble_eq_true rfl, Nat.le_of_ble_eq_true rfl⟩ (Nat.le_of_ble_eq_true rfl) ?_
                                                                      refine V_aload_n C 2 dL_law_1184 rfl ?_
                                                                      refine V_aload_n C 0 dL_law_1185 rfl ?_
                                                                      refine V_iload_n C 3 dL_law_1186 rfl ?_
                                                                      refine V_iconst C (1 : Int32) dL_law_1187 (by decide) ?_
                                                                      refine V_iadd C dL_law_1188 ?_
                                                                      obtain ⟨g81, h⟩ := gd_t h
                                                                      refine V_xld C hX hbl hbA (inb_in g81) dL_law_1189 ?_
                                                                      refine V_aload_n C 0 dL_law_1190 rfl ?_
                                                                      refine V_iload_n C 3 dL_law_1191 rfl ?_
                                                                      refine V_iconst C (2 : Int32) dL_law_1192 (by decide) ?_
                                                                      refine V_iadd C dL_law_1193 ?_
                                                                      obtain ⟨g82, h⟩ := gd_t h
                                                                      refine V_xld C hX hbl hbA (inb_in g82) dL_law_1194 ?_
                                                                      refine V_aload_n C 0 dL_law_1195 rfl ?_
                                                                      refine V_iload_n C 3 dL_law_1196 rfl ?_
                                                                      refine V_iconst C (3 : Int32) dL_law_1197 (by decide) ?_
                                                                      refine V_iadd C dL_law_1198 ?_
                                                                      obtain ⟨g83, h⟩ := gd_t h
                                                                      refine V_xld C hX hbl hbA (inb_in g83) dL_law_1199 ?_
                                                                      obtain ⟨z84, M85, hz84, h⟩ := bW_t h
                                                                      refine V_callV C (st := [.int z79]) (st' := [.int z84, .int z79]) (mX5_get l (xs ((x3 + (1 : Int32))).toNatClampNeg) (xs ((x3 + (2 : Int32))).toNatClampNeg) (xs ((x3 + (3 : Int32))).toNatClampNeg) M80 hz84) wmX5_get lkL_145 dL_law_1200 (wo_26 T3 ad _) rfl rfl rfl rfl rfl rfl ⟨rfl, rfl, (Nat.le_of_ble_eq_true rfl), (Nat.le_of_ble_eq_true rfl)⟩ ⟨Nat.le_of_ble_eq_true rfl, Nat.le_of_ble_eq_true rfl⟩ (Nat.le_of_ble_eq_true rfl) ?_
                                                                      refine V_icmp_eq C 1351 dL_law_1203 (by decide) (fun q86 => ?_) (fun q86 => ?_)
                                                                      · replace h := ite_p q86 h
                                                                        refine V_iinc C 3 (x3 + 6) [(3, .int (x3 + 6)), (0, .ref b), (1, .ref (ad 0)), (2, .ref (ad 26))] dL_law_1351 rfl rfl (by decide) rfl ?_
                                                                        refine V_goto C 18 dL_law_1354 (by decide) ?_
                                                                        refine V_sub (lv' := [(0, .ref b), (1, .ref (ad 0)), (2, .ref (ad 26)), (3, .int (x3 + 6))]) [1, 2, 3, 0] rfl ?_
                                                                        exact ih (x3 + 6) M85 h
                                                                      · replace h := ite_n q86 h
                                                                        refine V_iconst C (0 : Int32) dL_law_1206 (by decide) ?_
                                                                        exact absurd (ret_W h).1 (by decide)
                                                                    · replace h := ite_n q33 h
                                                                      by_cases q34 : ((xs (x3).toNatClampNeg) &&& (63 : Int32)) = 32
                                                                      · replace h := ite_p q34 h
                                                                        refine V_tblI C 1208 dL_law_33 (by rw [q34]; decide) (by rw [q34]; decide) (by rw [q34]; rfl) (by decide) ?_
                                                                        refine V_aload_n C 1 dL_law_1208 rfl ?_
                                                                        refine V_aload_n C 0 dL_law_1209 rfl ?_
                                                                        refine V_iload_n C 3 dL_law_1210 rfl ?_
                                                                        refine V_iconst C (1 : Int32) dL_law_1211 (by decide) ?_
                                                                        refine V_iadd C dL_law_1212 ?_
                                                                        obtain ⟨g61, h⟩ := gd_t h
                                                                        refine V_xld C hX hbl hbA (inb_in g61) dL_law_1213 ?_
                                                                        refine V_aload_n C 0 dL_law_1214 rfl ?_
                                                                        refine V_iload_n C 3 dL_law_1215 rfl ?_
                                                                        refine V_iconst C (2 : Int32) dL_law_1216 (by decide) ?_
                                                                        refine V_iadd C dL_law_1217 ?_
                                                                        obtain ⟨g62, h⟩ := gd_t h
                                                                        refine V_xld C hX hbl hbA (inb_in g62) dL_law_1218 ?_
                                                                        refine V_aload_n C 0 dL_law_1219 rfl ?_
                                                                        refine V_iload_n C 3 dL_law_1220 rfl ?_
                                                                        refine V_iconst C (3 : Int32) dL_law_1221 (by decide) ?_
                                                                        refine V_iadd C dL_law_1222 ?_
                                                                        obtain ⟨g63, h⟩ := gd_t h
                                                                        refine V_xld C hX hbl hbA (inb_in g63) dL_law_1223 ?_
                                                                        refine V_aload_n C 0 dL_law_1224 rfl ?_
                                                                        refine V_iload_n C 3 dL_law_1225 rfl ?_
                                                                        refine V_iconst C (4 : Int32) dL_law_1226 (by decide) ?_
                                                                        refine V_iadd C dL_law_1227 ?_
                                                                        obtain ⟨g64, h⟩ := gd_t h
                                                                        refine V_xld C hX hbl hbA (inb_in g64) dL_law_1228 ?_
                                                                        refine V_aload_n C 0 dL_law_1229 rfl ?_
                                                                        refine V_iload_n C 3 dL_law_1230 rfl ?_
                                                                        refine V_iconst C (5 : Int32) dL_law_1231 (by decide) ?_
                                                                        refine V_iadd C dL_law_1232 ?_
                                                                        obtain ⟨g65, h⟩ := gd_t h
                                                                        refine V_xld C hX hbl hbA (inb_in g65) dL_law_1233 ?_
                                                                        obtain ⟨z66, M67, hz66, h⟩ := bW_t h
                                                                        refine V_callV C (st := []) (st' := [.int z66]) (mX4_copy l (xs ((x3 + (1 : Int32))).toNatClampNeg) (xs ((x3 + (2 : Int32))).toNatClampNeg) (xs ((x3 + (3 : Int32))).toNatClampNeg) (xs ((x3 + (4 : Int32))).toNatClampNeg) (xs ((x3 + (5 : Int32))).toNatClampNeg) M hz66) wmX4_copy lkL_146 dL_law_1234 (wo_0 T3 ad _) rfl rfl rfl rfl rfl rfl ⟨rfl, rfl, (Nat.le_of_ble_eq_true rfl), (Nat.le_of_ble_eq_true rfl)⟩ ⟨Nat.le_of_ble_eq_true rfl, Nat.le_of_ble_eq_true rfl⟩ (Nat.le_of_ble_eq_true rfl) ?_
                                                                        refine V_aload_n C 2 dL_law_1237 rfl ?_
                                                                        refine V_aload_n C 0 dL_law_1238 rfl ?_
                                                                        refine V_iload_n C 3 dL_law_1239 rfl ?_
                                                                        refine V_iconst C (1 : Int32) dL_law_1240 (by decide) ?_
                                                                        refine V_iadd C dL_law_1241 ?_
                                                                        obtain ⟨g68, h⟩ := gd_t h
                                                                        refine V_xld C hX hbl hbA (inb_in g68) dL_law_1242 ?_
                                                                        refine V_aload_n C 0 dL_law_1243 rfl ?_
                                                                        refine V_iload_n C 3 dL_law_1244 rfl ?_
                                                                        refine V_iconst C (2 : Int32) dL_law_1245 (by decide) ?_
                                                                        refine V_iadd C dL_law_1246 ?_
                                                                        obtain ⟨g69, h⟩ := gd_t h
                                                                        refine V_xld C hX hbl hbA (inb_in g69) dL_law_1247 ?_
                                                                        refine V_aload_n C 0 dL_law_1248 rfl ?_
                                                                        refine V_iload_n C 3 dL_law_1249 rfl ?_
                                                                        refine V_iconst C (3 : Int32) dL_law_1250 (by decide) ?_
                                                                        refine V_iadd C dL_law_1251 ?_
                                                                        obtain ⟨g70, h⟩ := gd_t h
                                                                        refine V_xld C hX hbl hbA (inb_in g70) dL_law_1252 ?_
                                                                        refine V_aload_n C 0 dL_law_1253 rfl ?_
                                                                        refine V_iload_n C 3 dL_law_1254 rfl ?_
                                                                        refine V_iconst C (4 : Int32) dL_law_1255 (by decide) ?_
                                                                        refine V_iadd C dL_law_1256 ?_
                                                                        obtain ⟨g71, h⟩ := gd_t h
                                                                        refine V_xld C hX hbl hbA (inb_in g71) dL_law_1257 ?_
                                                                        refine V_aload_n C 0 dL_law_1258 rfl ?_
                                                                        refine V_iload_n C 3 dL_law_1259 rfl ?_
                                                                        refine V_iconst C (5 : Int32) dL_law_1260 (by decide) ?_
                                                                        refine V_iadd C dL_law_1261 ?_
                                                                        obtain ⟨g72, h⟩ := gd_t h
                                                                        refine V_xld C hX hbl hbA (inb_in g72) dL_law_1262 ?_
                                                                        obtain ⟨z73, M74, hz73, h⟩ := bW_t h
                                                                        refine V_callV C (st := [.int z66]) (st' := [.int z73, .int z66]) (mX5_copy l (xs ((x3 + (1 : Int32))).toNatClampNeg) (xs ((x3 + (2 : Int32))).toNatClampNeg) (xs ((x3 + (3 : Int32))).toNatClampNeg) (xs ((x3 + (4 : Int32))).toNatClampNeg) (xs ((x3 + (5 : Int32))).toNatClampNeg) M67 hz73) wmX5_copy lkL_150 dL_law_1263 (wo_26 T3 ad _) rfl rfl rfl rfl rfl rfl ⟨rfl, rfl, (Nat.le_of_ble_eq_true rfl), (Nat.le_of_ble_eq_true rfl)⟩ ⟨Nat.le_of_ble_eq_true rfl, Nat.le_of_ble_eq_true rfl⟩ (Nat.le_of_ble_eq_true rfl) ?_
                                                                        refine V_icmp_eq C 1351 dL_law_1266 (by decide) (fun q75 => ?_) (fun q75 => ?_)
                                                                        · replace h := ite_p q75 h
                                                                          refine V_iinc C 3 (x3 + 6) [(3, .int (x3 + 6)), (0, .ref b), (1, .ref (ad 0)), (2, .ref (ad 26))] dL_law_1351 rfl rfl (by decide) rfl ?_
                                                                          refine V_goto C 18 dL_law_1354 (by decide) ?_
                                                                          refine V_sub (lv' := [(0, .ref b), (1, .ref (ad 0)), (2, .ref (ad 26)), (3, .int (x3 + 6))]) [1, 2, 3, 0] rfl ?_
                                                                          exact ih (x3 + 6) M74 h
                                                                        · replace h := ite_n q75 h
                                                                          refine V_iconst C (0 : Int32) dL_law_1269 (by decide) ?_
                                                                          exact absurd (ret_W h).1 (by decide)
                                                                      · replace h := ite_n q34 h
                                                                        by_cases q35 : ((xs (x3).toNatClampNeg) &&& (63 : Int32)) = 33
                                                                        · replace h := ite_p q35 h
                                                                          refine V_tblI C 1271 dL_law_33 (by rw [q35]; decide) (by rw [q35]; decide) (by rw [q35]; rfl) (by decide) ?_
                                                                          refine V_aload_n C 1 dL_law_1271 rfl ?_
                                                                          refine V_aload_n C 0 dL_law_1272 rfl ?_
                                                                          refine V_iload_n C 3 dL_law_1273 rfl ?_
                                                                          refine V_iconst C (1 : Int32) dL_law_1274 (by decide) ?_
                                                                          refine V_iadd C dL_law_1275 ?_
                                                                          obtain ⟨g50, h⟩ := gd_t h
                                                                          refine V_xld C hX hbl hbA (inb_in g50) dL_law_1276 ?_
                                                                          refine V_aload_n C 0 dL_law_1277 rfl ?_
                                                                          refine V_iload_n C 3 dL_law_1278 rfl ?_
                                                                          refine V_iconst C (2 : Int32) dL_law_1279 (by decide) ?_
                                                                          refine V_iadd C dL_law_1280 ?_
                                                                          obtain ⟨g51, h⟩ := gd_t h
                                                                          refine V_xld C hX hbl hbA (inb_in g51) dL_law_1281 ?_
                                                                          refine V_aload_n C 0 dL_law_1282 rfl ?_
                                                                          refine V_iload_n C 3 dL_law_1283 rfl ?_
                                                                          refine V_iconst C (3 : Int32) dL_law_1284 (by decide) ?_
                                                                          refine V_iadd C dL_law_1285 ?_
                                                                          obtain ⟨g52, h⟩ := gd_t h
                                                                          refine V_xld C hX hbl hbA (inb_in g52) dL_law_1286 ?_
                                                                          obtain ⟨z53, M54, hz53, h⟩ := bW_t h
                                                                          refine V_callV C (st := []) (st' := [.int z53]) (mX4_write l (xs ((x3 + (1 : Int32))).toNatClampNeg) (xs ((x3 + (2 : Int32))).toNatClampNeg) (xs ((x3 + (3 : Int32))).toNatClampNeg) M hz53) wmX4_write lkL_151 dL_law_1287 (wo_0 T3 ad _) rfl rfl rfl rfl rfl rfl ⟨rfl, rfl, (Nat.le_of_ble_eq_true rfl), (Nat.le_of_ble_eq_true rfl)⟩ ⟨Nat.le_of_ble_eq_true rfl, Nat.le_of_ble_eq_true rfl⟩ (Nat.le_of_ble_eq_true rfl) ?_
                                                                          refine V_aload_n C 2 dL_law_1290 rfl ?_
                                                                          refine V_aload_n C 0 dL_law_1291 rfl ?_
                                                                          refine V_iload_n C 3 dL_law_1292 rfl ?_
                                                                          refine V_iconst C (1 : Int32) dL_law_1293 (by decide) ?_
                                                                          refine V_iadd C dL_law_1294 ?_
                                                                          obtain ⟨g55, h⟩ := gd_t h
                                                                          refine V_xld C hX hbl hbA (inb_in g55) dL_law_1295 ?_
                                                                          refine V_aload_n C 0 dL_law_1296 rfl ?_
                                                                          refine V_iload_n C 3 dL_law_1297 rfl ?_
                                                                          refine V_iconst C (2 : Int32) dL_law_1298 (by decide) ?_
                                                                          refine V_iadd C dL_law_1299 ?_
                                                                          obtain ⟨g56, h⟩ := gd_t h
                                                                          refine V_xld C hX hbl hbA (inb_in g56) dL_law_1300 ?_
                                                                          refine V_aload_n C 0 dL_law_1301 rfl ?_
                                                                          refine V_iload_n C 3 dL_law_1302 rfl ?_
                                                                          refine V_iconst C (3 : Int32) dL_law_1303 (by decide) ?_
                                                                          refine V_iadd C dL_law_1304 ?_
                                                                          obtain ⟨g57, h⟩ := gd_t h
                                                                          refine V_xld C hX hbl hbA (inb_in g57) dL_law_1305 ?_
                                                                          obtain ⟨z58, M59, hz58, h⟩ := bW_t h
                                                                          refine V_callV C (st := [.int z53]) (st' := [.int z58, .int z53]) (mX5_write l (xs ((x3 + (1 : Int32))).toNatClampNeg) (xs ((x3 + (2 : Int32))).toNatClampNeg) (xs ((x3 + (3 : Int32))).toNatClampNeg) M54 hz58) wmX5_write lkL_154 dL_law_1306 (wo_26 T3 ad _) rfl rfl rfl rfl rfl rfl ⟨rfl, rfl, (Nat.le_of_ble_eq_true rfl), (Nat.le_of_ble_eq_true rfl)⟩ ⟨Nat.le_of_ble_eq_true rfl, Nat.le_of_ble_eq_true rfl⟩ (Nat.le_of_ble_eq_true rfl) ?_
                                                                          refine V_icmp_eq C 1351 dL_law_1309 (by decide) (fun q60 => ?_) (fun q60 => ?_)
                                                                          · replace h := ite_p q60 h
                                                                            refine V_iinc C 3 (x3 + 6) [(3, .int (x3 + 6)), (0, .ref b), (1, .ref (ad 0)), (2, .ref (ad 26))] dL_law_1351 rfl rfl (by decide) rfl ?_
                                                                            refine V_goto C 18 dL_law_1354 (by decide) ?_
                                                                            refine V_sub (lv' := [(0, .ref b), (1, .ref (ad 0)), (2, .ref (ad 26)), (3, .int (x3 + 6))]) [1, 2, 3, 0] rfl ?_
                                                                            exact ih (x3 + 6) M59 h
                                                                          · replace h := ite_n q60 h
                                                                            refine V_iconst C (0 : Int32) dL_law_1312 (by decide) ?_
                                                                            exact absurd (ret_W h).1 (by decide)
                                                                        · replace h := ite_n q35 h
                                                                          by_cases q36 : ((xs (x3).toNatClampNeg) &&& (63 : Int32)) = 34
                                                                          · replace h := ite_p q36 h
                                                                            refine V_tblI C 1314 dL_law_33 (by rw [q36]; decide) (by rw [q36]; decide) (by rw [q36]; rfl) (by decide) ?_
                                                                            refine V_aload_n C 1 dL_law_1314 rfl ?_
                                                                            refine V_aload_n C 0 dL_law_1315 rfl ?_
                                                                            refine V_iload_n C 3 dL_law_1316 rfl ?_
                                                                            refine V_iconst C (1 : Int32) dL_law_1317 (by decide) ?_
                                                                            refine V_iadd C dL_law_1318 ?_
                                                                            obtain ⟨g43, h⟩ := gd_t h
                                                                            refine V_xld C hX hbl hbA (inb_in g43) dL_law_1319 ?_
                                                                            obtain ⟨z44, M45, hz44, h⟩ := bW_t h
                                                                            refine V_callV C (st := []) (st' := [.int z44]) (mX4_count l (xs ((x3 + (1 : Int32))).toNatClampNeg) M hz44) wmX4_count lkL_155 dL_law_1320 (wo_0 T3 ad _) rfl rfl rfl rfl rfl rfl ⟨rfl, rfl, (Nat.le_of_ble_eq_true rfl), (Nat.le_of_ble_eq_true rfl)⟩ ⟨Nat.le_of_ble_eq_true rfl, Nat.le_of_ble_eq_true rfl⟩ (Nat.le_of_ble_eq_true rfl) ?_
                                                                            refine V_aload_n C 2 dL_law_1323 rfl ?_
                                                                            refine V_aload_n C 0 dL_law_1324 rfl ?_
                                                                            refine V_iload_n C 3 dL_law_1325 rfl ?_
                                                                            refine V_iconst C (1 : Int32) dL_law_1326 (by decide) ?_
                                                                            refine V_iadd C dL_law_1327 ?_
                                                                            obtain ⟨g46, h⟩ := gd_t h
                                                                            refine V_xld C hX hbl hbA (inb_in g46) dL_law_1328 ?_
                                                                            obtain ⟨z47, M48, hz47, h⟩ := bW_t h
                                                                            refine V_callV C (st := [.int z44]) (st' := [.int z47, .int z44]) (mX5_count l (xs ((x3 + (1 : Int32))).toNatClampNeg) M45 hz47) wmX5_count lkL_158 dL_law_1329 (wo_26 T3 ad _) rfl rfl rfl rfl rfl rfl ⟨rfl, rfl, (Nat.le_of_ble_eq_true rfl), (Nat.le_of_ble_eq_true rfl)⟩ ⟨Nat.le_of_ble_eq_true rfl, Nat.le_of_ble_eq_true rfl⟩ (Nat.le_of_ble_eq_true rfl) ?_
                                                                            refine V_icmp_eq C 1351 dL_law_1332 (by decide) (fun q49 => ?_) (fun q49 => ?_)
                                                                            · replace h := ite_p q49 h
                                                                              refine V_iinc C 3 (x3 + 6) [(3, .int (x3 + 6)), (0, .ref b), (1, .ref (ad 0)), (2, .ref (ad 26))] dL_law_1351 rfl rfl (by decide) rfl ?_
                                                                              refine V_goto C 18 dL_law_1354 (by decide) ?_
                                                                              refine V_sub (lv' := [(0, .ref b), (1, .ref (ad 0)), (2, .ref (ad 26)), (3, .int (x3 + 6))]) [1, 2, 3, 0] rfl ?_
                                                                              exact ih (x3 + 6) M48 h
                                                                            · replace h := ite_n q49 h
                                                                              refine V_iconst C (0 : Int32) dL_law_1335 (by decide) ?_
                                                                              exact absurd (ret_W h).1 (by decide)
                                                                          · replace h := ite_n q36 h
                                                                            by_cases q37 : ((xs (x3).toNatClampNeg) &&& (63 : Int32)) = 35
                                                                            · replace h := ite_p q37 h
                                                                              refine V_tblI C 1337 dL_law_33 (by rw [q37]; decide) (by rw [q37]; decide) (by rw [q37]; rfl) (by decide) ?_
                                                                              refine V_aload_n C 1 dL_law_1337 rfl ?_
                                                                              obtain ⟨z38, M39, hz38, h⟩ := bW_t h
                                                                              refine V_callV C (st := []) (st' := [.long z38]) (mX4_digest l M hz38) wmX4_digest lkL_159 dL_law_1338 (wo_0 T3 ad _) rfl rfl rfl rfl rfl rfl ⟨rfl, rfl, (Nat.le_of_ble_eq_true rfl), (Nat.le_of_ble_eq_true rfl)⟩ ⟨Nat.le_of_ble_eq_true rfl, Nat.le_of_ble_eq_true rfl⟩ (Nat.le_of_ble_eq_true rfl) ?_
                                                                              refine V_aload_n C 2 dL_law_1341 rfl ?_
                                                                              obtain ⟨z40, M41, hz40, h⟩ := bW_t h
                                                                              refine V_callV C (st := [.long z38]) (st' := [.long z40, .long z38]) (mX5_digest l M39 hz40) wmX5_digest lkL_163 dL_law_1342 (wo_26 T3 ad _) rfl rfl rfl rfl rfl rfl ⟨rfl, rfl, (Nat.le_of_ble_eq_true rfl), (Nat.le_of_ble_eq_true rfl)⟩ ⟨Nat.le_of_ble_eq_true rfl, Nat.le_of_ble_eq_true rfl⟩ (Nat.le_of_ble_eq_true rfl) ?_
                                                                              refine V_lcmp C dL_law_1345 ?_
                                                                              refine V_if_eq C 1351 dL_law_1346 (by decide) (fun q42 => ?_) (fun q42 => ?_)
                                                                              · replace h := ite_p q42 h
                                                                                refine V_iinc C 3 (x3 + 6) [(3, .int (x3 + 6)), (0, .ref b), (1, .ref (ad 0)), (2, .ref (ad 26))] dL_law_1351 rfl rfl (by decide) rfl ?_
                                                                                refine V_goto C 18 dL_law_1354 (by decide) ?_
                                                                                refine V_sub (lv' := [(0, .ref b), (1, .ref (ad 0)), (2, .ref (ad 26)), (3, .int (x3 + 6))]) [1, 2, 3, 0] rfl ?_
                                                                                exact ih (x3 + 6) M41 h
                                                                              · replace h := ite_n q42 h
                                                                                refine V_iconst C (0 : Int32) dL_law_1349 (by decide) ?_
                                                                                exact absurd (ret_W h).1 (by decide)
                                                                            · replace h := ite_n q37 h
                                                                              refine V_tblO C 1351 dL_law_33 (tbl_out (fun k h1 h2 => by
                                                                                rcases (show k = 0 ∨ k = 1 ∨ k = 2 ∨ k = 3 ∨ k = 4 ∨ k = 5 ∨ k = 6 ∨ k = 7 ∨ k = 8 ∨ k = 9 ∨ k = 10 ∨ k = 11 ∨ k = 12 ∨ k = 13 ∨ k = 14 ∨ k = 15 ∨ k = 16 ∨ k = 17 ∨ k = 18 ∨ k = 19 ∨ k = 20 ∨ k = 21 ∨ k = 22 ∨ k = 23 ∨ k = 24 ∨ k = 25 ∨ k = 26 ∨ k = 27 ∨ k = 28 ∨ k = 29 ∨ k = 30 ∨ k = 31 ∨ k = 32 ∨ k = 33 ∨ k = 34 ∨ k = 35 by omega) with rfl | rfl | rfl | rfl | rfl | rfl | rfl | rfl | rfl | rfl | rfl | rfl | rfl | rfl | rfl | rfl | rfl | rfl | rfl | rfl | rfl | rfl | rfl | rfl | rfl | rfl | rfl | rfl | rfl | rfl | rfl | rfl | rfl | rfl | rfl | rfl
                                                                                · exact q2
                                                                                · exact q3
                                                                                · exact q4
                                                                                · exact q5
                                                                                · exact q6
                                                                                · exact q7
                                                                                · exact q8
                                                                                · exact q9
                                                                                · exact q10
                                                                                · exact q11
                                                                                · exact q12
                                                                                · exact q13
                                                                                · exact q14
                                                                                · exact q15
                                                                                · exact q16
                                                                                · exact q17
                                                                                · exact q18
                                                                                · exact q19
                                                                                · exact q20
                                                                                · exact q21
                                                                                · exact q22
                                                                                · exact q23
                                                                                · exact q24
                                                                                · exact q25
                                                                                · exact q26
                                                                                · exact q27
                                                                                · exact q28
                                                                                · exact q29
                                                                                · exact q30
                                                                                · exact q31
                                                                                · exact q32
                                                                                · exact q33
                                                                                · exact q34
                                                                                · exact q35
                                                                                · exact q36
                                                                                · exact q37
                                                                                )) (by decide) ?_
                                                                              refine V_iinc C 3 (x3 + 6) [(3, .int (x3 + 6)), (0, .ref b), (1, .ref (ad 0)), (2, .ref (ad 26))] dL_law_1351 rfl rfl (by decide) rfl ?_
                                                                              refine V_goto C 18 dL_law_1354 (by decide) ?_
                                                                              refine V_sub (lv' := [(0, .ref b), (1, .ref (ad 0)), (2, .ref (ad 26)), (3, .int (x3 + 6))]) [1, 2, 3, 0] rfl ?_
                                                                              exact ih (x3 + 6) M h
