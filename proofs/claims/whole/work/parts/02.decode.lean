theorem dX0_init_0 : decode cX0_init 0 = .ok (.aload_n 0, 1) := by decide +kernel
theorem dX0_init_1 : decode cX0_init 1 = .ok (.invokespecial 3, 3) := by decide +kernel
theorem dX0_init_4 : decode cX0_init 4 = .ok (.aload_n 0, 1) := by decide +kernel
theorem dX0_init_5 : decode cX0_init 5 = .ok (.bipush 95, 2) := by decide +kernel
theorem dX0_init_7 : decode cX0_init 7 = .ok (.newarray .int, 2) := by decide +kernel
theorem dX0_init_9 : decode cX0_init 9 = .ok (.putfield 11, 3) := by decide +kernel
theorem dX0_init_12 : decode cX0_init 12 = .ok (.aload_n 0, 1) := by decide +kernel
theorem dX0_init_13 : decode cX0_init 13 = .ok (.iconst 0, 1) := by decide +kernel
theorem dX0_init_14 : decode cX0_init 14 = .ok (.putfield 15, 3) := by decide +kernel
theorem dX0_init_17 : decode cX0_init 17 = .ok (.aload_n 0, 1) := by decide +kernel
theorem dX0_init_18 : decode cX0_init 18 = .ok (.iconst (-1), 1) := by decide +kernel
theorem dX0_init_19 : decode cX0_init 19 = .ok (.putfield 19, 3) := by decide +kernel
theorem dX0_init_22 : decode cX0_init 22 = .ok (.aload_n 0, 1) := by decide +kernel
theorem dX0_init_23 : decode cX0_init 23 = .ok (.iconst 0, 1) := by decide +kernel
theorem dX0_init_24 : decode cX0_init 24 = .ok (.putfield 22, 3) := by decide +kernel
theorem dX0_init_27 : decode cX0_init 27 = .ok (.aload_n 0, 1) := by decide +kernel
theorem dX0_init_28 : decode cX0_init 28 = .ok (.bipush 80, 2) := by decide +kernel
theorem dX0_init_30 : decode cX0_init 30 = .ok (.newarray .int, 2) := by decide +kernel
theorem dX0_init_32 : decode cX0_init 32 = .ok (.putfield 25, 3) := by decide +kernel
theorem dX0_init_35 : decode cX0_init 35 = .ok (.aload_n 0, 1) := by decide +kernel
theorem dX0_init_36 : decode cX0_init 36 = .ok (.bipush 16, 2) := by decide +kernel
theorem dX0_init_38 : decode cX0_init 38 = .ok (.newarray .int, 2) := by decide +kernel
theorem dX0_init_40 : decode cX0_init 40 = .ok (.putfield 28, 3) := by decide +kernel
theorem dX0_init_43 : decode cX0_init 43 = .ok (.aload_n 0, 1) := by decide +kernel
theorem dX0_init_44 : decode cX0_init 44 = .ok (.bipush 8, 2) := by decide +kernel
theorem dX0_init_46 : decode cX0_init 46 = .ok (.newarray .int, 2) := by decide +kernel
theorem dX0_init_48 : decode cX0_init 48 = .ok (.putfield 31, 3) := by decide +kernel
theorem dX0_init_51 : decode cX0_init 51 = .ok (.aload_n 0, 1) := by decide +kernel
theorem dX0_init_52 : decode cX0_init 52 = .ok (.iconst 0, 1) := by decide +kernel
theorem dX0_init_53 : decode cX0_init 53 = .ok (.putfield 34, 3) := by decide +kernel
theorem dX0_init_56 : decode cX0_init 56 = .ok (.return_, 1) := by decide +kernel
theorem dX0_addByte_0 : decode cX0_addByte 0 = .ok (.aload_n 0, 1) := by decide +kernel
theorem dX0_addByte_1 : decode cX0_addByte 1 = .ok (.getfield 15, 3) := by decide +kernel
theorem dX0_addByte_4 : decode cX0_addByte 4 = .ok (.ifCond .lt 15, 3) := by decide +kernel
theorem dX0_addByte_7 : decode cX0_addByte 7 = .ok (.aload_n 0, 1) := by decide +kernel
theorem dX0_addByte_8 : decode cX0_addByte 8 = .ok (.getfield 15, 3) := by decide +kernel
theorem dX0_addByte_11 : decode cX0_addByte 11 = .ok (.aload_n 0, 1) := by decide +kernel
theorem dX0_addByte_12 : decode cX0_addByte 12 = .ok (.getfield 11, 3) := by decide +kernel
theorem dX0_addByte_15 : decode cX0_addByte 15 = .ok (.arraylength, 1) := by decide +kernel
theorem dX0_addByte_16 : decode cX0_addByte 16 = .ok (.if_icmp .lt 5, 3) := by decide +kernel
theorem dX0_addByte_19 : decode cX0_addByte 19 = .ok (.iconst 0, 1) := by decide +kernel
theorem dX0_addByte_20 : decode cX0_addByte 20 = .ok (.ireturn, 1) := by decide +kernel
theorem dX0_addByte_21 : decode cX0_addByte 21 = .ok (.aload_n 0, 1) := by decide +kernel
theorem dX0_addByte_22 : decode cX0_addByte 22 = .ok (.getfield 11, 3) := by decide +kernel
theorem dX0_addByte_25 : decode cX0_addByte 25 = .ok (.aload_n 0, 1) := by decide +kernel
theorem dX0_addByte_26 : decode cX0_addByte 26 = .ok (.getfield 15, 3) := by decide +kernel
theorem dX0_addByte_29 : decode cX0_addByte 29 = .ok (.iload_n 1, 1) := by decide +kernel
theorem dX0_addByte_30 : decode cX0_addByte 30 = .ok (.iastore, 1) := by decide +kernel
theorem dX0_addByte_31 : decode cX0_addByte 31 = .ok (.aload_n 0, 1) := by decide +kernel
theorem dX0_addByte_32 : decode cX0_addByte 32 = .ok (.dup, 1) := by decide +kernel
theorem dX0_addByte_33 : decode cX0_addByte 33 = .ok (.getfield 15, 3) := by decide +kernel
theorem dX0_addByte_36 : decode cX0_addByte 36 = .ok (.iconst 1, 1) := by decide +kernel
theorem dX0_addByte_37 : decode cX0_addByte 37 = .ok (.iadd, 1) := by decide +kernel
theorem dX0_addByte_38 : decode cX0_addByte 38 = .ok (.putfield 15, 3) := by decide +kernel
theorem dX0_addByte_41 : decode cX0_addByte 41 = .ok (.aload_n 0, 1) := by decide +kernel
theorem dX0_addByte_42 : decode cX0_addByte 42 = .ok (.invokevirtual 37, 3) := by decide +kernel
theorem dX0_addByte_45 : decode cX0_addByte 45 = .ok (.iconst 1, 1) := by decide +kernel
theorem dX0_addByte_46 : decode cX0_addByte 46 = .ok (.ireturn, 1) := by decide +kernel
theorem dX0_cutTo_0 : decode cX0_cutTo 0 = .ok (.aload_n 0, 1) := by decide +kernel
theorem dX0_cutTo_1 : decode cX0_cutTo 1 = .ok (.iload_n 1, 1) := by decide +kernel
theorem dX0_cutTo_2 : decode cX0_cutTo 2 = .ok (.putfield 15, 3) := by decide +kernel
theorem dX0_cutTo_5 : decode cX0_cutTo 5 = .ok (.aload_n 0, 1) := by decide +kernel
theorem dX0_cutTo_6 : decode cX0_cutTo 6 = .ok (.invokevirtual 37, 3) := by decide +kernel
theorem dX0_cutTo_9 : decode cX0_cutTo 9 = .ok (.return_, 1) := by decide +kernel
theorem dX0_dropLastChannel_0 : decode cX0_dropLastChannel 0 = .ok (.aload_n 0, 1) := by decide +kernel
theorem dX0_dropLastChannel_1 : decode cX0_dropLastChannel 1 = .ok (.iconst 0, 1) := by decide +kernel
theorem dX0_dropLastChannel_2 : decode cX0_dropLastChannel 2 = .ok (.aload_n 0, 1) := by decide +kernel
theorem dX0_dropLastChannel_3 : decode cX0_dropLastChannel 3 = .ok (.getfield 22, 3) := by decide +kernel
theorem dX0_dropLastChannel_6 : decode cX0_dropLastChannel 6 = .ok (.iconst 1, 1) := by decide +kernel
theorem dX0_dropLastChannel_7 : decode cX0_dropLastChannel 7 = .ok (.isub, 1) := by decide +kernel
theorem dX0_dropLastChannel_8 : decode cX0_dropLastChannel 8 = .ok (.bipush 6, 2) := by decide +kernel
theorem dX0_dropLastChannel_10 : decode cX0_dropLastChannel 10 = .ok (.imul, 1) := by decide +kernel
theorem dX0_dropLastChannel_11 : decode cX0_dropLastChannel 11 = .ok (.iconst 1, 1) := by decide +kernel
theorem dX0_dropLastChannel_12 : decode cX0_dropLastChannel 12 = .ok (.isub, 1) := by decide +kernel
theorem dX0_dropLastChannel_13 : decode cX0_dropLastChannel 13 = .ok (.invokestatic 40, 3) := by decide +kernel
theorem dX0_dropLastChannel_16 : decode cX0_dropLastChannel 16 = .ok (.invokevirtual 46, 3) := by decide +kernel
theorem dX0_dropLastChannel_19 : decode cX0_dropLastChannel 19 = .ok (.return_, 1) := by decide +kernel
theorem dX0_understand_0 : decode cX0_understand 0 = .ok (.aload_n 0, 1) := by decide +kernel
theorem dX0_understand_1 : decode cX0_understand 1 = .ok (.aload_n 0, 1) := by decide +kernel
theorem dX0_understand_2 : decode cX0_understand 2 = .ok (.invokevirtual 50, 3) := by decide +kernel
theorem dX0_understand_5 : decode cX0_understand 5 = .ok (.putfield 19, 3) := by decide +kernel
theorem dX0_understand_8 : decode cX0_understand 8 = .ok (.aload_n 0, 1) := by decide +kernel
theorem dX0_understand_9 : decode cX0_understand 9 = .ok (.aload_n 0, 1) := by decide +kernel
theorem dX0_understand_10 : decode cX0_understand 10 = .ok (.getfield 19, 3) := by decide +kernel
theorem dX0_understand_13 : decode cX0_understand 13 = .ok (.iconst (-1), 1) := by decide +kernel
theorem dX0_understand_14 : decode cX0_understand 14 = .ok (.if_icmp .ne 15, 3) := by decide +kernel
theorem dX0_understand_17 : decode cX0_understand 17 = .ok (.aload_n 0, 1) := by decide +kernel
theorem dX0_understand_18 : decode cX0_understand 18 = .ok (.getfield 15, 3) := by decide +kernel
theorem dX0_understand_21 : decode cX0_understand 21 = .ok (.iconst 1, 1) := by decide +kernel
theorem dX0_understand_22 : decode cX0_understand 22 = .ok (.iadd, 1) := by decide +kernel
theorem dX0_understand_23 : decode cX0_understand 23 = .ok (.bipush 6, 2) := by decide +kernel
theorem dX0_understand_25 : decode cX0_understand 25 = .ok (.idiv, 1) := by decide +kernel
theorem dX0_understand_26 : decode cX0_understand 26 = .ok (.goto 4, 3) := by decide +kernel
theorem dX0_understand_29 : decode cX0_understand 29 = .ok (.iconst 0, 1) := by decide +kernel
theorem dX0_understand_30 : decode cX0_understand 30 = .ok (.putfield 22, 3) := by decide +kernel
theorem dX0_understand_33 : decode cX0_understand 33 = .ok (.iconst 0, 1) := by decide +kernel
theorem dX0_understand_34 : decode cX0_understand 34 = .ok (.istore_n 1, 1) := by decide +kernel
theorem dX0_understand_35 : decode cX0_understand 35 = .ok (.iload_n 1, 1) := by decide +kernel
theorem dX0_understand_36 : decode cX0_understand 36 = .ok (.aload_n 0, 1) := by decide +kernel
theorem dX0_understand_37 : decode cX0_understand 37 = .ok (.getfield 22, 3) := by decide +kernel
theorem dX0_understand_40 : decode cX0_understand 40 = .ok (.if_icmp .ge 14, 3) := by decide +kernel
theorem dX0_understand_43 : decode cX0_understand 43 = .ok (.aload_n 0, 1) := by decide +kernel
theorem dX0_understand_44 : decode cX0_understand 44 = .ok (.iload_n 1, 1) := by decide +kernel
theorem dX0_understand_45 : decode cX0_understand 45 = .ok (.invokevirtual 54, 3) := by decide +kernel
theorem dX0_understand_48 : decode cX0_understand 48 = .ok (.iinc 1 1, 3) := by decide +kernel
theorem dX0_understand_51 : decode cX0_understand 51 = .ok (.goto (-16), 3) := by decide +kernel
theorem dX0_understand_54 : decode cX0_understand 54 = .ok (.aload_n 0, 1) := by decide +kernel
theorem dX0_understand_55 : decode cX0_understand 55 = .ok (.invokevirtual 57, 3) := by decide +kernel
theorem dX0_understand_58 : decode cX0_understand 58 = .ok (.return_, 1) := by decide +kernel
theorem dX0_firstFault_0 : decode cX0_firstFault 0 = .ok (.iconst 0, 1) := by decide +kernel
theorem dX0_firstFault_1 : decode cX0_firstFault 1 = .ok (.istore_n 1, 1) := by decide +kernel
theorem dX0_firstFault_2 : decode cX0_firstFault 2 = .ok (.iload_n 1, 1) := by decide +kernel
theorem dX0_firstFault_3 : decode cX0_firstFault 3 = .ok (.aload_n 0, 1) := by decide +kernel
theorem dX0_firstFault_4 : decode cX0_firstFault 4 = .ok (.getfield 15, 3) := by decide +kernel
theorem dX0_firstFault_7 : decode cX0_firstFault 7 = .ok (.if_icmp .ge 19, 3) := by decide +kernel
theorem dX0_firstFault_10 : decode cX0_firstFault 10 = .ok (.aload_n 0, 1) := by decide +kernel
theorem dX0_firstFault_11 : decode cX0_firstFault 11 = .ok (.iload_n 1, 1) := by decide +kernel
theorem dX0_firstFault_12 : decode cX0_firstFault 12 = .ok (.invokevirtual 60, 3) := by decide +kernel
theorem dX0_firstFault_15 : decode cX0_firstFault 15 = .ok (.ifCond .ne 5, 3) := by decide +kernel
theorem dX0_firstFault_18 : decode cX0_firstFault 18 = .ok (.iload_n 1, 1) := by decide +kernel
theorem dX0_firstFault_19 : decode cX0_firstFault 19 = .ok (.ireturn, 1) := by decide +kernel
theorem dX0_firstFault_20 : decode cX0_firstFault 20 = .ok (.iinc 1 1, 3) := by decide +kernel
theorem dX0_firstFault_23 : decode cX0_firstFault 23 = .ok (.goto (-21), 3) := by decide +kernel
theorem dX0_firstFault_26 : decode cX0_firstFault 26 = .ok (.aload_n 0, 1) := by decide +kernel
theorem dX0_firstFault_27 : decode cX0_firstFault 27 = .ok (.getfield 15, 3) := by decide +kernel
theorem dX0_firstFault_30 : decode cX0_firstFault 30 = .ok (.ifCond .eq 14, 3) := by decide +kernel
theorem dX0_firstFault_33 : decode cX0_firstFault 33 = .ok (.aload_n 0, 1) := by decide +kernel
theorem dX0_firstFault_34 : decode cX0_firstFault 34 = .ok (.getfield 15, 3) := by decide +kernel
theorem dX0_firstFault_37 : decode cX0_firstFault 37 = .ok (.bipush 6, 2) := by decide +kernel
theorem dX0_firstFault_39 : decode cX0_firstFault 39 = .ok (.irem, 1) := by decide +kernel
theorem dX0_firstFault_40 : decode cX0_firstFault 40 = .ok (.iconst 5, 1) := by decide +kernel
theorem dX0_firstFault_41 : decode cX0_firstFault 41 = .ok (.if_icmp .ne 7, 3) := by decide +kernel
theorem dX0_firstFault_44 : decode cX0_firstFault 44 = .ok (.iconst (-1), 1) := by decide +kernel
theorem dX0_firstFault_45 : decode cX0_firstFault 45 = .ok (.goto 7, 3) := by decide +kernel
theorem dX0_firstFault_48 : decode cX0_firstFault 48 = .ok (.aload_n 0, 1) := by decide +kernel
theorem dX0_firstFault_49 : decode cX0_firstFault 49 = .ok (.getfield 15, 3) := by decide +kernel
theorem dX0_firstFault_52 : decode cX0_firstFault 52 = .ok (.ireturn, 1) := by decide +kernel
theorem dX0_isWell_0 : decode cX0_isWell 0 = .ok (.aload_n 0, 1) := by decide +kernel
theorem dX0_isWell_1 : decode cX0_isWell 1 = .ok (.getfield 11, 3) := by decide +kernel
theorem dX0_isWell_4 : decode cX0_isWell 4 = .ok (.iload_n 1, 1) := by decide +kernel
theorem dX0_isWell_5 : decode cX0_isWell 5 = .ok (.invokestatic 64, 3) := by decide +kernel
theorem dX0_isWell_8 : decode cX0_isWell 8 = .ok (.istore_n 2, 1) := by decide +kernel
theorem dX0_isWell_9 : decode cX0_isWell 9 = .ok (.iload_n 1, 1) := by decide +kernel
theorem dX0_isWell_10 : decode cX0_isWell 10 = .ok (.bipush 6, 2) := by decide +kernel
theorem dX0_isWell_12 : decode cX0_isWell 12 = .ok (.irem, 1) := by decide +kernel
theorem dX0_isWell_13 : decode cX0_isWell 13 = .ok (.tableswitch 131 0 4 #[35, 53, 79, 97, 113], 35) := by decide +kernel
theorem dX0_isWell_48 : decode cX0_isWell 48 = .ok (.iload_n 2, 1) := by decide +kernel
theorem dX0_isWell_49 : decode cX0_isWell 49 = .ok (.bipush 97, 2) := by decide +kernel
theorem dX0_isWell_51 : decode cX0_isWell 51 = .ok (.if_icmp .lt 13, 3) := by decide +kernel
theorem dX0_isWell_54 : decode cX0_isWell 54 = .ok (.iload_n 2, 1) := by decide +kernel
theorem dX0_isWell_55 : decode cX0_isWell 55 = .ok (.bipush 102, 2) := by decide +kernel
theorem dX0_isWell_57 : decode cX0_isWell 57 = .ok (.if_icmp .gt 7, 3) := by decide +kernel
theorem dX0_isWell_60 : decode cX0_isWell 60 = .ok (.iconst 1, 1) := by decide +kernel
theorem dX0_isWell_61 : decode cX0_isWell 61 = .ok (.goto 4, 3) := by decide +kernel
theorem dX0_isWell_64 : decode cX0_isWell 64 = .ok (.iconst 0, 1) := by decide +kernel
theorem dX0_isWell_65 : decode cX0_isWell 65 = .ok (.ireturn, 1) := by decide +kernel
theorem dX0_isWell_66 : decode cX0_isWell 66 = .ok (.iload_n 2, 1) := by decide +kernel
theorem dX0_isWell_67 : decode cX0_isWell 67 = .ok (.aload_n 0, 1) := by decide +kernel
theorem dX0_isWell_68 : decode cX0_isWell 68 = .ok (.getfield 11, 3) := by decide +kernel
theorem dX0_isWell_71 : decode cX0_isWell 71 = .ok (.iload_n 1, 1) := by decide +kernel
theorem dX0_isWell_72 : decode cX0_isWell 72 = .ok (.iconst 1, 1) := by decide +kernel
theorem dX0_isWell_73 : decode cX0_isWell 73 = .ok (.isub, 1) := by decide +kernel
theorem dX0_isWell_74 : decode cX0_isWell 74 = .ok (.invokestatic 64, 3) := by decide +kernel
theorem dX0_isWell_77 : decode cX0_isWell 77 = .ok (.if_icmp .le 13, 3) := by decide +kernel
theorem dX0_isWell_80 : decode cX0_isWell 80 = .ok (.iload_n 2, 1) := by decide +kernel
theorem dX0_isWell_81 : decode cX0_isWell 81 = .ok (.bipush 102, 2) := by decide +kernel
theorem dX0_isWell_83 : decode cX0_isWell 83 = .ok (.if_icmp .gt 7, 3) := by decide +kernel
theorem dX0_isWell_86 : decode cX0_isWell 86 = .ok (.iconst 1, 1) := by decide +kernel
theorem dX0_isWell_87 : decode cX0_isWell 87 = .ok (.goto 4, 3) := by decide +kernel
theorem dX0_isWell_90 : decode cX0_isWell 90 = .ok (.iconst 0, 1) := by decide +kernel
theorem dX0_isWell_91 : decode cX0_isWell 91 = .ok (.ireturn, 1) := by decide +kernel
theorem dX0_isWell_92 : decode cX0_isWell 92 = .ok (.iload_n 2, 1) := by decide +kernel
theorem dX0_isWell_93 : decode cX0_isWell 93 = .ok (.bipush 48, 2) := by decide +kernel
theorem dX0_isWell_95 : decode cX0_isWell 95 = .ok (.if_icmp .lt 13, 3) := by decide +kernel
theorem dX0_isWell_98 : decode cX0_isWell 98 = .ok (.iload_n 2, 1) := by decide +kernel
theorem dX0_isWell_99 : decode cX0_isWell 99 = .ok (.bipush 57, 2) := by decide +kernel
theorem dX0_isWell_101 : decode cX0_isWell 101 = .ok (.if_icmp .gt 7, 3) := by decide +kernel
theorem dX0_isWell_104 : decode cX0_isWell 104 = .ok (.iconst 1, 1) := by decide +kernel
theorem dX0_isWell_105 : decode cX0_isWell 105 = .ok (.goto 4, 3) := by decide +kernel
theorem dX0_isWell_108 : decode cX0_isWell 108 = .ok (.iconst 0, 1) := by decide +kernel
theorem dX0_isWell_109 : decode cX0_isWell 109 = .ok (.ireturn, 1) := by decide +kernel
theorem dX0_isWell_110 : decode cX0_isWell 110 = .ok (.ldc 68, 2) := by decide +kernel
theorem dX0_isWell_112 : decode cX0_isWell 112 = .ok (.iload_n 2, 1) := by decide +kernel
theorem dX0_isWell_113 : decode cX0_isWell 113 = .ok (.i2c, 1) := by decide +kernel
theorem dX0_isWell_114 : decode cX0_isWell 114 = .ok (.invokevirtual 70, 3) := by decide +kernel
theorem dX0_isWell_117 : decode cX0_isWell 117 = .ok (.ifCond .lt 7, 3) := by decide +kernel
theorem dX0_isWell_120 : decode cX0_isWell 120 = .ok (.iconst 1, 1) := by decide +kernel
theorem dX0_isWell_121 : decode cX0_isWell 121 = .ok (.goto 4, 3) := by decide +kernel
theorem dX0_isWell_124 : decode cX0_isWell 124 = .ok (.iconst 0, 1) := by decide +kernel
theorem dX0_isWell_125 : decode cX0_isWell 125 = .ok (.ireturn, 1) := by decide +kernel
theorem dX0_isWell_126 : decode cX0_isWell 126 = .ok (.iload_n 2, 1) := by decide +kernel
theorem dX0_isWell_127 : decode cX0_isWell 127 = .ok (.bipush 49, 2) := by decide +kernel
theorem dX0_isWell_129 : decode cX0_isWell 129 = .ok (.if_icmp .lt 13, 3) := by decide +kernel
theorem dX0_isWell_132 : decode cX0_isWell 132 = .ok (.iload_n 2, 1) := by decide +kernel
theorem dX0_isWell_133 : decode cX0_isWell 133 = .ok (.bipush 57, 2) := by decide +kernel
theorem dX0_isWell_135 : decode cX0_isWell 135 = .ok (.if_icmp .gt 7, 3) := by decide +kernel
theorem dX0_isWell_138 : decode cX0_isWell 138 = .ok (.iconst 1, 1) := by decide +kernel
theorem dX0_isWell_139 : decode cX0_isWell 139 = .ok (.goto 4, 3) := by decide +kernel
theorem dX0_isWell_142 : decode cX0_isWell 142 = .ok (.iconst 0, 1) := by decide +kernel
theorem dX0_isWell_143 : decode cX0_isWell 143 = .ok (.ireturn, 1) := by decide +kernel
theorem dX0_isWell_144 : decode cX0_isWell 144 = .ok (.iload_n 2, 1) := by decide +kernel
theorem dX0_isWell_145 : decode cX0_isWell 145 = .ok (.bipush 59, 2) := by decide +kernel
theorem dX0_isWell_147 : decode cX0_isWell 147 = .ok (.if_icmp .ne 7, 3) := by decide +kernel
theorem dX0_isWell_150 : decode cX0_isWell 150 = .ok (.iconst 1, 1) := by decide +kernel
theorem dX0_isWell_151 : decode cX0_isWell 151 = .ok (.goto 4, 3) := by decide +kernel
theorem dX0_isWell_154 : decode cX0_isWell 154 = .ok (.iconst 0, 1) := by decide +kernel
theorem dX0_isWell_155 : decode cX0_isWell 155 = .ok (.ireturn, 1) := by decide +kernel
theorem dX0_learn_0 : decode cX0_learn 0 = .ok (.iload_n 1, 1) := by decide +kernel
theorem dX0_learn_1 : decode cX0_learn 1 = .ok (.bipush 6, 2) := by decide +kernel
theorem dX0_learn_3 : decode cX0_learn 3 = .ok (.imul, 1) := by decide +kernel
theorem dX0_learn_4 : decode cX0_learn 4 = .ok (.istore_n 2, 1) := by decide +kernel
theorem dX0_learn_5 : decode cX0_learn 5 = .ok (.iload_n 1, 1) := by decide +kernel
theorem dX0_learn_6 : decode cX0_learn 6 = .ok (.iconst 5, 1) := by decide +kernel
theorem dX0_learn_7 : decode cX0_learn 7 = .ok (.imul, 1) := by decide +kernel
theorem dX0_learn_8 : decode cX0_learn 8 = .ok (.istore_n 3, 1) := by decide +kernel
theorem dX0_learn_9 : decode cX0_learn 9 = .ok (.aload_n 0, 1) := by decide +kernel
theorem dX0_learn_10 : decode cX0_learn 10 = .ok (.getfield 25, 3) := by decide +kernel
theorem dX0_learn_13 : decode cX0_learn 13 = .ok (.iload_n 3, 1) := by decide +kernel
theorem dX0_learn_14 : decode cX0_learn 14 = .ok (.iconst 0, 1) := by decide +kernel
theorem dX0_learn_15 : decode cX0_learn 15 = .ok (.iadd, 1) := by decide +kernel
theorem dX0_learn_16 : decode cX0_learn 16 = .ok (.aload_n 0, 1) := by decide +kernel
theorem dX0_learn_17 : decode cX0_learn 17 = .ok (.getfield 11, 3) := by decide +kernel
theorem dX0_learn_20 : decode cX0_learn 20 = .ok (.iload_n 2, 1) := by decide +kernel
theorem dX0_learn_21 : decode cX0_learn 21 = .ok (.invokestatic 64, 3) := by decide +kernel
theorem dX0_learn_24 : decode cX0_learn 24 = .ok (.bipush 97, 2) := by decide +kernel
theorem dX0_learn_26 : decode cX0_learn 26 = .ok (.isub, 1) := by decide +kernel
theorem dX0_learn_27 : decode cX0_learn 27 = .ok (.invokestatic 76, 3) := by decide +kernel
theorem dX0_learn_30 : decode cX0_learn 30 = .ok (.aload_n 0, 1) := by decide +kernel
theorem dX0_learn_31 : decode cX0_learn 31 = .ok (.getfield 25, 3) := by decide +kernel
theorem dX0_learn_34 : decode cX0_learn 34 = .ok (.iload_n 3, 1) := by decide +kernel
theorem dX0_learn_35 : decode cX0_learn 35 = .ok (.iconst 1, 1) := by decide +kernel
theorem dX0_learn_36 : decode cX0_learn 36 = .ok (.iadd, 1) := by decide +kernel
theorem dX0_learn_37 : decode cX0_learn 37 = .ok (.aload_n 0, 1) := by decide +kernel
theorem dX0_learn_38 : decode cX0_learn 38 = .ok (.getfield 11, 3) := by decide +kernel
theorem dX0_learn_41 : decode cX0_learn 41 = .ok (.iload_n 2, 1) := by decide +kernel
theorem dX0_learn_42 : decode cX0_learn 42 = .ok (.iconst 1, 1) := by decide +kernel
theorem dX0_learn_43 : decode cX0_learn 43 = .ok (.iadd, 1) := by decide +kernel
theorem dX0_learn_44 : decode cX0_learn 44 = .ok (.invokestatic 64, 3) := by decide +kernel
theorem dX0_learn_47 : decode cX0_learn 47 = .ok (.bipush 97, 2) := by decide +kernel
theorem dX0_learn_49 : decode cX0_learn 49 = .ok (.isub, 1) := by decide +kernel
theorem dX0_learn_50 : decode cX0_learn 50 = .ok (.invokestatic 76, 3) := by decide +kernel
theorem dX0_learn_53 : decode cX0_learn 53 = .ok (.aload_n 0, 1) := by decide +kernel
theorem dX0_learn_54 : decode cX0_learn 54 = .ok (.getfield 25, 3) := by decide +kernel
theorem dX0_learn_57 : decode cX0_learn 57 = .ok (.iload_n 3, 1) := by decide +kernel
theorem dX0_learn_58 : decode cX0_learn 58 = .ok (.iconst 2, 1) := by decide +kernel
theorem dX0_learn_59 : decode cX0_learn 59 = .ok (.iadd, 1) := by decide +kernel
theorem dX0_learn_60 : decode cX0_learn 60 = .ok (.aload_n 0, 1) := by decide +kernel
theorem dX0_learn_61 : decode cX0_learn 61 = .ok (.getfield 11, 3) := by decide +kernel
theorem dX0_learn_64 : decode cX0_learn 64 = .ok (.iload_n 2, 1) := by decide +kernel
theorem dX0_learn_65 : decode cX0_learn 65 = .ok (.iconst 2, 1) := by decide +kernel
theorem dX0_learn_66 : decode cX0_learn 66 = .ok (.iadd, 1) := by decide +kernel
theorem dX0_learn_67 : decode cX0_learn 67 = .ok (.invokestatic 64, 3) := by decide +kernel
theorem dX0_learn_70 : decode cX0_learn 70 = .ok (.bipush 48, 2) := by decide +kernel
theorem dX0_learn_72 : decode cX0_learn 72 = .ok (.isub, 1) := by decide +kernel
theorem dX0_learn_73 : decode cX0_learn 73 = .ok (.invokestatic 76, 3) := by decide +kernel
theorem dX0_learn_76 : decode cX0_learn 76 = .ok (.aload_n 0, 1) := by decide +kernel
theorem dX0_learn_77 : decode cX0_learn 77 = .ok (.getfield 25, 3) := by decide +kernel
theorem dX0_learn_80 : decode cX0_learn 80 = .ok (.iload_n 3, 1) := by decide +kernel
theorem dX0_learn_81 : decode cX0_learn 81 = .ok (.iconst 3, 1) := by decide +kernel
theorem dX0_learn_82 : decode cX0_learn 82 = .ok (.iadd, 1) := by decide +kernel
theorem dX0_learn_83 : decode cX0_learn 83 = .ok (.ldc 68, 2) := by decide +kernel
theorem dX0_learn_85 : decode cX0_learn 85 = .ok (.aload_n 0, 1) := by decide +kernel
theorem dX0_learn_86 : decode cX0_learn 86 = .ok (.getfield 11, 3) := by decide +kernel
theorem dX0_learn_89 : decode cX0_learn 89 = .ok (.iload_n 2, 1) := by decide +kernel
theorem dX0_learn_90 : decode cX0_learn 90 = .ok (.iconst 3, 1) := by decide +kernel
theorem dX0_learn_91 : decode cX0_learn 91 = .ok (.iadd, 1) := by decide +kernel
theorem dX0_learn_92 : decode cX0_learn 92 = .ok (.invokestatic 64, 3) := by decide +kernel
theorem dX0_learn_95 : decode cX0_learn 95 = .ok (.i2c, 1) := by decide +kernel
theorem dX0_learn_96 : decode cX0_learn 96 = .ok (.invokevirtual 70, 3) := by decide +kernel
theorem dX0_learn_99 : decode cX0_learn 99 = .ok (.invokestatic 76, 3) := by decide +kernel
theorem dX0_learn_102 : decode cX0_learn 102 = .ok (.aload_n 0, 1) := by decide +kernel
theorem dX0_learn_103 : decode cX0_learn 103 = .ok (.getfield 25, 3) := by decide +kernel
theorem dX0_learn_106 : decode cX0_learn 106 = .ok (.iload_n 3, 1) := by decide +kernel
theorem dX0_learn_107 : decode cX0_learn 107 = .ok (.iconst 4, 1) := by decide +kernel
theorem dX0_learn_108 : decode cX0_learn 108 = .ok (.iadd, 1) := by decide +kernel
theorem dX0_learn_109 : decode cX0_learn 109 = .ok (.aload_n 0, 1) := by decide +kernel
theorem dX0_learn_110 : decode cX0_learn 110 = .ok (.getfield 11, 3) := by decide +kernel
theorem dX0_learn_113 : decode cX0_learn 113 = .ok (.iload_n 2, 1) := by decide +kernel
theorem dX0_learn_114 : decode cX0_learn 114 = .ok (.iconst 4, 1) := by decide +kernel
theorem dX0_learn_115 : decode cX0_learn 115 = .ok (.iadd, 1) := by decide +kernel
theorem dX0_learn_116 : decode cX0_learn 116 = .ok (.invokestatic 64, 3) := by decide +kernel
theorem dX0_learn_119 : decode cX0_learn 119 = .ok (.bipush 48, 2) := by decide +kernel
theorem dX0_learn_121 : decode cX0_learn 121 = .ok (.isub, 1) := by decide +kernel
theorem dX0_learn_122 : decode cX0_learn 122 = .ok (.invokestatic 76, 3) := by decide +kernel
theorem dX0_learn_125 : decode cX0_learn 125 = .ok (.return_, 1) := by decide +kernel
theorem dX0_putInOrder_0 : decode cX0_putInOrder 0 = .ok (.iconst 0, 1) := by decide +kernel
theorem dX0_putInOrder_1 : decode cX0_putInOrder 1 = .ok (.istore_n 1, 1) := by decide +kernel
theorem dX0_putInOrder_2 : decode cX0_putInOrder 2 = .ok (.iconst 5, 1) := by decide +kernel
theorem dX0_putInOrder_3 : decode cX0_putInOrder 3 = .ok (.istore_n 2, 1) := by decide +kernel
theorem dX0_putInOrder_4 : decode cX0_putInOrder 4 = .ok (.iload_n 2, 1) := by decide +kernel
theorem dX0_putInOrder_5 : decode cX0_putInOrder 5 = .ok (.ifCond .lt 48, 3) := by decide +kernel
theorem dX0_putInOrder_8 : decode cX0_putInOrder 8 = .ok (.aload_n 0, 1) := by decide +kernel
theorem dX0_putInOrder_9 : decode cX0_putInOrder 9 = .ok (.getfield 22, 3) := by decide +kernel
theorem dX0_putInOrder_12 : decode cX0_putInOrder 12 = .ok (.iconst 1, 1) := by decide +kernel
theorem dX0_putInOrder_13 : decode cX0_putInOrder 13 = .ok (.isub, 1) := by decide +kernel
theorem dX0_putInOrder_14 : decode cX0_putInOrder 14 = .ok (.istore_n 3, 1) := by decide +kernel
theorem dX0_putInOrder_15 : decode cX0_putInOrder 15 = .ok (.iload_n 3, 1) := by decide +kernel
theorem dX0_putInOrder_16 : decode cX0_putInOrder 16 = .ok (.ifCond .lt 31, 3) := by decide +kernel
theorem dX0_putInOrder_19 : decode cX0_putInOrder 19 = .ok (.aload_n 0, 1) := by decide +kernel
theorem dX0_putInOrder_20 : decode cX0_putInOrder 20 = .ok (.iload_n 3, 1) := by decide +kernel
theorem dX0_putInOrder_21 : decode cX0_putInOrder 21 = .ok (.iconst 0, 1) := by decide +kernel
theorem dX0_putInOrder_22 : decode cX0_putInOrder 22 = .ok (.invokevirtual 80, 3) := by decide +kernel
theorem dX0_putInOrder_25 : decode cX0_putInOrder 25 = .ok (.iload_n 2, 1) := by decide +kernel
theorem dX0_putInOrder_26 : decode cX0_putInOrder 26 = .ok (.if_icmp .ne 15, 3) := by decide +kernel
theorem dX0_putInOrder_29 : decode cX0_putInOrder 29 = .ok (.aload_n 0, 1) := by decide +kernel
theorem dX0_putInOrder_30 : decode cX0_putInOrder 30 = .ok (.getfield 28, 3) := by decide +kernel
theorem dX0_putInOrder_33 : decode cX0_putInOrder 33 = .ok (.iload_n 1, 1) := by decide +kernel
theorem dX0_putInOrder_34 : decode cX0_putInOrder 34 = .ok (.iload_n 3, 1) := by decide +kernel
theorem dX0_putInOrder_35 : decode cX0_putInOrder 35 = .ok (.invokestatic 76, 3) := by decide +kernel
theorem dX0_putInOrder_38 : decode cX0_putInOrder 38 = .ok (.iinc 1 1, 3) := by decide +kernel
theorem dX0_putInOrder_41 : decode cX0_putInOrder 41 = .ok (.iinc 3 (-1), 3) := by decide +kernel
theorem dX0_putInOrder_44 : decode cX0_putInOrder 44 = .ok (.goto (-29), 3) := by decide +kernel
theorem dX0_putInOrder_47 : decode cX0_putInOrder 47 = .ok (.iinc 2 (-1), 3) := by decide +kernel
theorem dX0_putInOrder_50 : decode cX0_putInOrder 50 = .ok (.goto (-46), 3) := by decide +kernel
theorem dX0_putInOrder_53 : decode cX0_putInOrder 53 = .ok (.return_, 1) := by decide +kernel
theorem dX0_hasChannel_0 : decode cX0_hasChannel 0 = .ok (.iload_n 1, 1) := by decide +kernel
theorem dX0_hasChannel_1 : decode cX0_hasChannel 1 = .ok (.ifCond .lt 15, 3) := by decide +kernel
theorem dX0_hasChannel_4 : decode cX0_hasChannel 4 = .ok (.iload_n 1, 1) := by decide +kernel
theorem dX0_hasChannel_5 : decode cX0_hasChannel 5 = .ok (.aload_n 0, 1) := by decide +kernel
theorem dX0_hasChannel_6 : decode cX0_hasChannel 6 = .ok (.getfield 22, 3) := by decide +kernel
theorem dX0_hasChannel_9 : decode cX0_hasChannel 9 = .ok (.if_icmp .ge 7, 3) := by decide +kernel
theorem dX0_hasChannel_12 : decode cX0_hasChannel 12 = .ok (.iconst 1, 1) := by decide +kernel
theorem dX0_hasChannel_13 : decode cX0_hasChannel 13 = .ok (.goto 4, 3) := by decide +kernel
theorem dX0_hasChannel_16 : decode cX0_hasChannel 16 = .ok (.iconst 0, 1) := by decide +kernel
theorem dX0_hasChannel_17 : decode cX0_hasChannel 17 = .ok (.ireturn, 1) := by decide +kernel
theorem dX0_fact_0 : decode cX0_fact 0 = .ok (.iload_n 1, 1) := by decide +kernel
theorem dX0_fact_1 : decode cX0_fact 1 = .ok (.ifCond .lt 20, 3) := by decide +kernel
theorem dX0_fact_4 : decode cX0_fact 4 = .ok (.iload_n 1, 1) := by decide +kernel
theorem dX0_fact_5 : decode cX0_fact 5 = .ok (.aload_n 0, 1) := by decide +kernel
theorem dX0_fact_6 : decode cX0_fact 6 = .ok (.getfield 22, 3) := by decide +kernel
theorem dX0_fact_9 : decode cX0_fact 9 = .ok (.if_icmp .ge 12, 3) := by decide +kernel
theorem dX0_fact_12 : decode cX0_fact 12 = .ok (.iload_n 2, 1) := by decide +kernel
theorem dX0_fact_13 : decode cX0_fact 13 = .ok (.ifCond .lt 8, 3) := by decide +kernel
theorem dX0_fact_16 : decode cX0_fact 16 = .ok (.iload_n 2, 1) := by decide +kernel
theorem dX0_fact_17 : decode cX0_fact 17 = .ok (.iconst 5, 1) := by decide +kernel
theorem dX0_fact_18 : decode cX0_fact 18 = .ok (.if_icmp .lt 6, 3) := by decide +kernel
theorem dX0_fact_21 : decode cX0_fact 21 = .ok (.bipush (-2), 2) := by decide +kernel
theorem dX0_fact_23 : decode cX0_fact 23 = .ok (.ireturn, 1) := by decide +kernel
theorem dX0_fact_24 : decode cX0_fact 24 = .ok (.iload_n 1, 1) := by decide +kernel
theorem dX0_fact_25 : decode cX0_fact 25 = .ok (.iconst 5, 1) := by decide +kernel
theorem dX0_fact_26 : decode cX0_fact 26 = .ok (.imul, 1) := by decide +kernel
theorem dX0_fact_27 : decode cX0_fact 27 = .ok (.iload_n 2, 1) := by decide +kernel
theorem dX0_fact_28 : decode cX0_fact 28 = .ok (.iadd, 1) := by decide +kernel
theorem dX0_fact_29 : decode cX0_fact 29 = .ok (.istore_n 3, 1) := by decide +kernel
theorem dX0_fact_30 : decode cX0_fact 30 = .ok (.iload_n 3, 1) := by decide +kernel
theorem dX0_fact_31 : decode cX0_fact 31 = .ok (.aload_n 0, 1) := by decide +kernel
theorem dX0_fact_32 : decode cX0_fact 32 = .ok (.getfield 25, 3) := by decide +kernel
theorem dX0_fact_35 : decode cX0_fact 35 = .ok (.arraylength, 1) := by decide +kernel
theorem dX0_fact_36 : decode cX0_fact 36 = .ok (.if_icmp .ge 12, 3) := by decide +kernel
theorem dX0_fact_39 : decode cX0_fact 39 = .ok (.aload_n 0, 1) := by decide +kernel
theorem dX0_fact_40 : decode cX0_fact 40 = .ok (.getfield 25, 3) := by decide +kernel
theorem dX0_fact_43 : decode cX0_fact 43 = .ok (.iload_n 3, 1) := by decide +kernel
theorem dX0_fact_44 : decode cX0_fact 44 = .ok (.iaload, 1) := by decide +kernel
theorem dX0_fact_45 : decode cX0_fact 45 = .ok (.goto 5, 3) := by decide +kernel
theorem dX0_fact_48 : decode cX0_fact 48 = .ok (.bipush (-2), 2) := by decide +kernel
theorem dX0_fact_50 : decode cX0_fact 50 = .ok (.ireturn, 1) := by decide +kernel
theorem dX0_depth_0 : decode cX0_depth 0 = .ok (.aload_n 0, 1) := by decide +kernel
theorem dX0_depth_1 : decode cX0_depth 1 = .ok (.iload_n 1, 1) := by decide +kernel
theorem dX0_depth_2 : decode cX0_depth 2 = .ok (.iconst 3, 1) := by decide +kernel
theorem dX0_depth_3 : decode cX0_depth 3 = .ok (.invokevirtual 80, 3) := by decide +kernel
theorem dX0_depth_6 : decode cX0_depth 6 = .ok (.aload_n 0, 1) := by decide +kernel
theorem dX0_depth_7 : decode cX0_depth 7 = .ok (.iload_n 1, 1) := by decide +kernel
theorem dX0_depth_8 : decode cX0_depth 8 = .ok (.iconst 2, 1) := by decide +kernel
theorem dX0_depth_9 : decode cX0_depth 9 = .ok (.invokevirtual 80, 3) := by decide +kernel
theorem dX0_depth_12 : decode cX0_depth 12 = .ok (.aload_n 0, 1) := by decide +kernel
theorem dX0_depth_13 : decode cX0_depth 13 = .ok (.iload_n 1, 1) := by decide +kernel
theorem dX0_depth_14 : decode cX0_depth 14 = .ok (.iconst 4, 1) := by decide +kernel
theorem dX0_depth_15 : decode cX0_depth 15 = .ok (.invokevirtual 80, 3) := by decide +kernel
theorem dX0_depth_18 : decode cX0_depth 18 = .ok (.iload_n 2, 1) := by decide +kernel
theorem dX0_depth_19 : decode cX0_depth 19 = .ok (.iload_n 3, 1) := by decide +kernel
theorem dX0_depth_20 : decode cX0_depth 20 = .ok (.invokestatic 83, 3) := by decide +kernel
theorem dX0_depth_23 : decode cX0_depth 23 = .ok (.ireturn, 1) := by decide +kernel
theorem dX0_fill_0 : decode cX0_fill 0 = .ok (.iconst 0, 1) := by decide +kernel
theorem dX0_fill_1 : decode cX0_fill 1 = .ok (.istore 4, 2) := by decide +kernel
theorem dX0_fill_3 : decode cX0_fill 3 = .ok (.iload 4, 2) := by decide +kernel
theorem dX0_fill_5 : decode cX0_fill 5 = .ok (.aload_n 0, 1) := by decide +kernel
theorem dX0_fill_6 : decode cX0_fill 6 = .ok (.getfield 22, 3) := by decide +kernel
theorem dX0_fill_9 : decode cX0_fill 9 = .ok (.if_icmp .ge 28, 3) := by decide +kernel
theorem dX0_fill_12 : decode cX0_fill 12 = .ok (.iload 4, 2) := by decide +kernel
theorem dX0_fill_14 : decode cX0_fill 14 = .ok (.aload_n 1, 1) := by decide +kernel
theorem dX0_fill_15 : decode cX0_fill 15 = .ok (.arraylength, 1) := by decide +kernel
theorem dX0_fill_16 : decode cX0_fill 16 = .ok (.if_icmp .ge 21, 3) := by decide +kernel
theorem dX0_fill_19 : decode cX0_fill 19 = .ok (.aload_n 1, 1) := by decide +kernel
theorem dX0_fill_20 : decode cX0_fill 20 = .ok (.iload 4, 2) := by decide +kernel
theorem dX0_fill_22 : decode cX0_fill 22 = .ok (.aload_n 0, 1) := by decide +kernel
theorem dX0_fill_23 : decode cX0_fill 23 = .ok (.iload 4, 2) := by decide +kernel
theorem dX0_fill_25 : decode cX0_fill 25 = .ok (.iload_n 2, 1) := by decide +kernel
theorem dX0_fill_26 : decode cX0_fill 26 = .ok (.iload_n 3, 1) := by decide +kernel
theorem dX0_fill_27 : decode cX0_fill 27 = .ok (.invokevirtual 87, 3) := by decide +kernel
theorem dX0_fill_30 : decode cX0_fill 30 = .ok (.iastore, 1) := by decide +kernel
theorem dX0_fill_31 : decode cX0_fill 31 = .ok (.iinc 4 1, 3) := by decide +kernel
theorem dX0_fill_34 : decode cX0_fill 34 = .ok (.goto (-31), 3) := by decide +kernel
theorem dX0_fill_37 : decode cX0_fill 37 = .ok (.return_, 1) := by decide +kernel
theorem dX0_toldTogether_0 : decode cX0_toldTogether 0 = .ok (.iconst 0, 1) := by decide +kernel
theorem dX0_toldTogether_1 : decode cX0_toldTogether 1 = .ok (.istore_n 1, 1) := by decide +kernel
theorem dX0_toldTogether_2 : decode cX0_toldTogether 2 = .ok (.iconst 0, 1) := by decide +kernel
theorem dX0_toldTogether_3 : decode cX0_toldTogether 3 = .ok (.istore_n 2, 1) := by decide +kernel
theorem dX0_toldTogether_4 : decode cX0_toldTogether 4 = .ok (.iload_n 2, 1) := by decide +kernel
theorem dX0_toldTogether_5 : decode cX0_toldTogether 5 = .ok (.aload_n 0, 1) := by decide +kernel
theorem dX0_toldTogether_6 : decode cX0_toldTogether 6 = .ok (.getfield 22, 3) := by decide +kernel
theorem dX0_toldTogether_9 : decode cX0_toldTogether 9 = .ok (.if_icmp .ge 18, 3) := by decide +kernel
theorem dX0_toldTogether_12 : decode cX0_toldTogether 12 = .ok (.iload_n 1, 1) := by decide +kernel
theorem dX0_toldTogether_13 : decode cX0_toldTogether 13 = .ok (.aload_n 0, 1) := by decide +kernel
theorem dX0_toldTogether_14 : decode cX0_toldTogether 14 = .ok (.iload_n 2, 1) := by decide +kernel
theorem dX0_toldTogether_15 : decode cX0_toldTogether 15 = .ok (.iconst 2, 1) := by decide +kernel
theorem dX0_toldTogether_16 : decode cX0_toldTogether 16 = .ok (.invokevirtual 80, 3) := by decide +kernel
theorem dX0_toldTogether_19 : decode cX0_toldTogether 19 = .ok (.iadd, 1) := by decide +kernel
theorem dX0_toldTogether_20 : decode cX0_toldTogether 20 = .ok (.istore_n 1, 1) := by decide +kernel
theorem dX0_toldTogether_21 : decode cX0_toldTogether 21 = .ok (.iinc 2 1, 3) := by decide +kernel
theorem dX0_toldTogether_24 : decode cX0_toldTogether 24 = .ok (.goto (-20), 3) := by decide +kernel
theorem dX0_toldTogether_27 : decode cX0_toldTogether 27 = .ok (.iload_n 1, 1) := by decide +kernel
theorem dX0_toldTogether_28 : decode cX0_toldTogether 28 = .ok (.ireturn, 1) := by decide +kernel
theorem dX0_jumping_0 : decode cX0_jumping 0 = .ok (.iconst 0, 1) := by decide +kernel
theorem dX0_jumping_1 : decode cX0_jumping 1 = .ok (.istore_n 1, 1) := by decide +kernel
theorem dX0_jumping_2 : decode cX0_jumping 2 = .ok (.iconst 0, 1) := by decide +kernel
theorem dX0_jumping_3 : decode cX0_jumping 3 = .ok (.istore_n 2, 1) := by decide +kernel
theorem dX0_jumping_4 : decode cX0_jumping 4 = .ok (.iload_n 2, 1) := by decide +kernel
theorem dX0_jumping_5 : decode cX0_jumping 5 = .ok (.aload_n 0, 1) := by decide +kernel
theorem dX0_jumping_6 : decode cX0_jumping 6 = .ok (.getfield 22, 3) := by decide +kernel
theorem dX0_jumping_9 : decode cX0_jumping 9 = .ok (.if_icmp .ge 22, 3) := by decide +kernel
theorem dX0_jumping_12 : decode cX0_jumping 12 = .ok (.aload_n 0, 1) := by decide +kernel
theorem dX0_jumping_13 : decode cX0_jumping 13 = .ok (.iload_n 2, 1) := by decide +kernel
theorem dX0_jumping_14 : decode cX0_jumping 14 = .ok (.iconst 3, 1) := by decide +kernel
theorem dX0_jumping_15 : decode cX0_jumping 15 = .ok (.invokevirtual 80, 3) := by decide +kernel
theorem dX0_jumping_18 : decode cX0_jumping 18 = .ok (.iconst 4, 1) := by decide +kernel
theorem dX0_jumping_19 : decode cX0_jumping 19 = .ok (.if_icmp .ne 6, 3) := by decide +kernel
theorem dX0_jumping_22 : decode cX0_jumping 22 = .ok (.iinc 1 1, 3) := by decide +kernel
theorem dX0_jumping_25 : decode cX0_jumping 25 = .ok (.iinc 2 1, 3) := by decide +kernel
theorem dX0_jumping_28 : decode cX0_jumping 28 = .ok (.goto (-24), 3) := by decide +kernel
theorem dX0_jumping_31 : decode cX0_jumping 31 = .ok (.iload_n 1, 1) := by decide +kernel
theorem dX0_jumping_32 : decode cX0_jumping 32 = .ok (.ireturn, 1) := by decide +kernel
theorem dX0_addStorm_0 : decode cX0_addStorm 0 = .ok (.aload_n 0, 1) := by decide +kernel
theorem dX0_addStorm_1 : decode cX0_addStorm 1 = .ok (.getfield 34, 3) := by decide +kernel
theorem dX0_addStorm_4 : decode cX0_addStorm 4 = .ok (.ifCond .lt 15, 3) := by decide +kernel
theorem dX0_addStorm_7 : decode cX0_addStorm 7 = .ok (.aload_n 0, 1) := by decide +kernel
theorem dX0_addStorm_8 : decode cX0_addStorm 8 = .ok (.getfield 34, 3) := by decide +kernel
theorem dX0_addStorm_11 : decode cX0_addStorm 11 = .ok (.aload_n 0, 1) := by decide +kernel
theorem dX0_addStorm_12 : decode cX0_addStorm 12 = .ok (.getfield 31, 3) := by decide +kernel
theorem dX0_addStorm_15 : decode cX0_addStorm 15 = .ok (.arraylength, 1) := by decide +kernel
theorem dX0_addStorm_16 : decode cX0_addStorm 16 = .ok (.if_icmp .lt 5, 3) := by decide +kernel
theorem dX0_addStorm_19 : decode cX0_addStorm 19 = .ok (.iconst 0, 1) := by decide +kernel
theorem dX0_addStorm_20 : decode cX0_addStorm 20 = .ok (.ireturn, 1) := by decide +kernel
theorem dX0_addStorm_21 : decode cX0_addStorm 21 = .ok (.aload_n 0, 1) := by decide +kernel
theorem dX0_addStorm_22 : decode cX0_addStorm 22 = .ok (.getfield 31, 3) := by decide +kernel
theorem dX0_addStorm_25 : decode cX0_addStorm 25 = .ok (.aload_n 0, 1) := by decide +kernel
theorem dX0_addStorm_26 : decode cX0_addStorm 26 = .ok (.getfield 34, 3) := by decide +kernel
theorem dX0_addStorm_29 : decode cX0_addStorm 29 = .ok (.iload_n 1, 1) := by decide +kernel
theorem dX0_addStorm_30 : decode cX0_addStorm 30 = .ok (.iastore, 1) := by decide +kernel
theorem dX0_addStorm_31 : decode cX0_addStorm 31 = .ok (.aload_n 0, 1) := by decide +kernel
theorem dX0_addStorm_32 : decode cX0_addStorm 32 = .ok (.dup, 1) := by decide +kernel
theorem dX0_addStorm_33 : decode cX0_addStorm 33 = .ok (.getfield 34, 3) := by decide +kernel
theorem dX0_addStorm_36 : decode cX0_addStorm 36 = .ok (.iconst 1, 1) := by decide +kernel
theorem dX0_addStorm_37 : decode cX0_addStorm 37 = .ok (.iadd, 1) := by decide +kernel
theorem dX0_addStorm_38 : decode cX0_addStorm 38 = .ok (.putfield 34, 3) := by decide +kernel
theorem dX0_addStorm_41 : decode cX0_addStorm 41 = .ok (.iconst 1, 1) := by decide +kernel
theorem dX0_addStorm_42 : decode cX0_addStorm 42 = .ok (.ireturn, 1) := by decide +kernel
theorem dX0_dropStorm_0 : decode cX0_dropStorm 0 = .ok (.aload_n 0, 1) := by decide +kernel
theorem dX0_dropStorm_1 : decode cX0_dropStorm 1 = .ok (.getfield 34, 3) := by decide +kernel
theorem dX0_dropStorm_4 : decode cX0_dropStorm 4 = .ok (.ifCond .ne 5, 3) := by decide +kernel
theorem dX0_dropStorm_7 : decode cX0_dropStorm 7 = .ok (.iconst 0, 1) := by decide +kernel
theorem dX0_dropStorm_8 : decode cX0_dropStorm 8 = .ok (.ireturn, 1) := by decide +kernel
theorem dX0_dropStorm_9 : decode cX0_dropStorm 9 = .ok (.aload_n 0, 1) := by decide +kernel
theorem dX0_dropStorm_10 : decode cX0_dropStorm 10 = .ok (.dup, 1) := by decide +kernel
theorem dX0_dropStorm_11 : decode cX0_dropStorm 11 = .ok (.getfield 34, 3) := by decide +kernel
theorem dX0_dropStorm_14 : decode cX0_dropStorm 14 = .ok (.iconst 1, 1) := by decide +kernel
theorem dX0_dropStorm_15 : decode cX0_dropStorm 15 = .ok (.isub, 1) := by decide +kernel
theorem dX0_dropStorm_16 : decode cX0_dropStorm 16 = .ok (.putfield 34, 3) := by decide +kernel
theorem dX0_dropStorm_19 : decode cX0_dropStorm 19 = .ok (.iconst 1, 1) := by decide +kernel
theorem dX0_dropStorm_20 : decode cX0_dropStorm 20 = .ok (.ireturn, 1) := by decide +kernel
theorem dX0_isStormy_0 : decode cX0_isStormy 0 = .ok (.iconst 0, 1) := by decide +kernel
theorem dX0_isStormy_1 : decode cX0_isStormy 1 = .ok (.istore_n 2, 1) := by decide +kernel
theorem dX0_isStormy_2 : decode cX0_isStormy 2 = .ok (.iload_n 2, 1) := by decide +kernel
theorem dX0_isStormy_3 : decode cX0_isStormy 3 = .ok (.aload_n 0, 1) := by decide +kernel
theorem dX0_isStormy_4 : decode cX0_isStormy 4 = .ok (.getfield 34, 3) := by decide +kernel
theorem dX0_isStormy_7 : decode cX0_isStormy 7 = .ok (.if_icmp .ge 30, 3) := by decide +kernel
theorem dX0_isStormy_10 : decode cX0_isStormy 10 = .ok (.iload_n 2, 1) := by decide +kernel
theorem dX0_isStormy_11 : decode cX0_isStormy 11 = .ok (.aload_n 0, 1) := by decide +kernel
theorem dX0_isStormy_12 : decode cX0_isStormy 12 = .ok (.getfield 31, 3) := by decide +kernel
theorem dX0_isStormy_15 : decode cX0_isStormy 15 = .ok (.arraylength, 1) := by decide +kernel
theorem dX0_isStormy_16 : decode cX0_isStormy 16 = .ok (.if_icmp .ge 21, 3) := by decide +kernel
theorem dX0_isStormy_19 : decode cX0_isStormy 19 = .ok (.aload_n 0, 1) := by decide +kernel
theorem dX0_isStormy_20 : decode cX0_isStormy 20 = .ok (.getfield 31, 3) := by decide +kernel
theorem dX0_isStormy_23 : decode cX0_isStormy 23 = .ok (.iload_n 2, 1) := by decide +kernel
theorem dX0_isStormy_24 : decode cX0_isStormy 24 = .ok (.iaload, 1) := by decide +kernel
theorem dX0_isStormy_25 : decode cX0_isStormy 25 = .ok (.iload_n 1, 1) := by decide +kernel
theorem dX0_isStormy_26 : decode cX0_isStormy 26 = .ok (.if_icmp .ne 5, 3) := by decide +kernel
theorem dX0_isStormy_29 : decode cX0_isStormy 29 = .ok (.iconst 1, 1) := by decide +kernel
theorem dX0_isStormy_30 : decode cX0_isStormy 30 = .ok (.ireturn, 1) := by decide +kernel
theorem dX0_isStormy_31 : decode cX0_isStormy 31 = .ok (.iinc 2 1, 3) := by decide +kernel
theorem dX0_isStormy_34 : decode cX0_isStormy 34 = .ok (.goto (-32), 3) := by decide +kernel
theorem dX0_isStormy_37 : decode cX0_isStormy 37 = .ok (.iconst 0, 1) := by decide +kernel
theorem dX0_isStormy_38 : decode cX0_isStormy 38 = .ok (.ireturn, 1) := by decide +kernel
theorem dX1_init_0 : decode cX1_init 0 = .ok (.aload_n 0, 1) := by decide +kernel
theorem dX1_init_1 : decode cX1_init 1 = .ok (.invokespecial 3, 3) := by decide +kernel
theorem dX1_init_4 : decode cX1_init 4 = .ok (.aload_n 0, 1) := by decide +kernel
theorem dX1_init_5 : decode cX1_init 5 = .ok (.bipush 6, 2) := by decide +kernel
theorem dX1_init_7 : decode cX1_init 7 = .ok (.newarray .int, 2) := by decide +kernel
theorem dX1_init_9 : decode cX1_init 9 = .ok (.putfield 9, 3) := by decide +kernel
theorem dX1_init_12 : decode cX1_init 12 = .ok (.aload_n 0, 1) := by decide +kernel
theorem dX1_init_13 : decode cX1_init 13 = .ok (.bipush 6, 2) := by decide +kernel
theorem dX1_init_15 : decode cX1_init 15 = .ok (.newarray .int, 2) := by decide +kernel
theorem dX1_init_17 : decode cX1_init 17 = .ok (.putfield 15, 3) := by decide +kernel
theorem dX1_init_20 : decode cX1_init 20 = .ok (.aload_n 0, 1) := by decide +kernel
theorem dX1_init_21 : decode cX1_init 21 = .ok (.iconst 5, 1) := by decide +kernel
theorem dX1_init_22 : decode cX1_init 22 = .ok (.newarray .int, 2) := by decide +kernel
theorem dX1_init_24 : decode cX1_init 24 = .ok (.putfield 18, 3) := by decide +kernel
theorem dX1_init_27 : decode cX1_init 27 = .ok (.aload_n 0, 1) := by decide +kernel
theorem dX1_init_28 : decode cX1_init 28 = .ok (.iconst 0, 1) := by decide +kernel
theorem dX1_init_29 : decode cX1_init 29 = .ok (.putfield 21, 3) := by decide +kernel
theorem dX1_init_32 : decode cX1_init 32 = .ok (.return_, 1) := by decide +kernel
theorem dX1_findLeast_0 : decode cX1_findLeast 0 = .ok (.aload_n 0, 1) := by decide +kernel
theorem dX1_findLeast_1 : decode cX1_findLeast 1 = .ok (.getfield 9, 3) := by decide +kernel
theorem dX1_findLeast_4 : decode cX1_findLeast 4 = .ok (.iconst (-1), 1) := by decide +kernel
theorem dX1_findLeast_5 : decode cX1_findLeast 5 = .ok (.invokestatic 25, 3) := by decide +kernel
theorem dX1_findLeast_8 : decode cX1_findLeast 8 = .ok (.aload_n 0, 1) := by decide +kernel
theorem dX1_findLeast_9 : decode cX1_findLeast 9 = .ok (.getfield 9, 3) := by decide +kernel
theorem dX1_findLeast_12 : decode cX1_findLeast 12 = .ok (.iconst 5, 1) := by decide +kernel
theorem dX1_findLeast_13 : decode cX1_findLeast 13 = .ok (.iconst 0, 1) := by decide +kernel
theorem dX1_findLeast_14 : decode cX1_findLeast 14 = .ok (.invokestatic 31, 3) := by decide +kernel
theorem dX1_findLeast_17 : decode cX1_findLeast 17 = .ok (.iconst 0, 1) := by decide +kernel
theorem dX1_findLeast_18 : decode cX1_findLeast 18 = .ok (.istore 4, 2) := by decide +kernel
theorem dX1_findLeast_20 : decode cX1_findLeast 20 = .ok (.iload 4, 2) := by decide +kernel
theorem dX1_findLeast_22 : decode cX1_findLeast 22 = .ok (.aload_n 1, 1) := by decide +kernel
theorem dX1_findLeast_23 : decode cX1_findLeast 23 = .ok (.getfield 35, 3) := by decide +kernel
theorem dX1_findLeast_26 : decode cX1_findLeast 26 = .ok (.if_icmp .ge 76, 3) := by decide +kernel
theorem dX1_findLeast_29 : decode cX1_findLeast 29 = .ok (.aload_n 1, 1) := by decide +kernel
theorem dX1_findLeast_30 : decode cX1_findLeast 30 = .ok (.getfield 40, 3) := by decide +kernel
theorem dX1_findLeast_33 : decode cX1_findLeast 33 = .ok (.iload 4, 2) := by decide +kernel
theorem dX1_findLeast_35 : decode cX1_findLeast 35 = .ok (.invokestatic 43, 3) := by decide +kernel
theorem dX1_findLeast_38 : decode cX1_findLeast 38 = .ok (.istore 5, 2) := by decide +kernel
theorem dX1_findLeast_40 : decode cX1_findLeast 40 = .ok (.aload_n 0, 1) := by decide +kernel
theorem dX1_findLeast_41 : decode cX1_findLeast 41 = .ok (.getfield 9, 3) := by decide +kernel
theorem dX1_findLeast_44 : decode cX1_findLeast 44 = .ok (.aload_n 1, 1) := by decide +kernel
theorem dX1_findLeast_45 : decode cX1_findLeast 45 = .ok (.iload 5, 2) := by decide +kernel
theorem dX1_findLeast_47 : decode cX1_findLeast 47 = .ok (.iconst 1, 1) := by decide +kernel
theorem dX1_findLeast_48 : decode cX1_findLeast 48 = .ok (.invokevirtual 47, 3) := by decide +kernel
theorem dX1_findLeast_51 : decode cX1_findLeast 51 = .ok (.invokestatic 43, 3) := by decide +kernel
theorem dX1_findLeast_54 : decode cX1_findLeast 54 = .ok (.iconst (-1), 1) := by decide +kernel
theorem dX1_findLeast_55 : decode cX1_findLeast 55 = .ok (.if_icmp .eq 7, 3) := by decide +kernel
theorem dX1_findLeast_58 : decode cX1_findLeast 58 = .ok (.iconst 1, 1) := by decide +kernel
theorem dX1_findLeast_59 : decode cX1_findLeast 59 = .ok (.goto 4, 3) := by decide +kernel
theorem dX1_findLeast_62 : decode cX1_findLeast 62 = .ok (.iconst 0, 1) := by decide +kernel
theorem dX1_findLeast_63 : decode cX1_findLeast 63 = .ok (.istore 6, 2) := by decide +kernel
theorem dX1_findLeast_65 : decode cX1_findLeast 65 = .ok (.iload 6, 2) := by decide +kernel
theorem dX1_findLeast_67 : decode cX1_findLeast 67 = .ok (.ifCond .eq 29, 3) := by decide +kernel
theorem dX1_findLeast_70 : decode cX1_findLeast 70 = .ok (.aload_n 2, 1) := by decide +kernel
theorem dX1_findLeast_71 : decode cX1_findLeast 71 = .ok (.iload 5, 2) := by decide +kernel
theorem dX1_findLeast_73 : decode cX1_findLeast 73 = .ok (.invokestatic 43, 3) := by decide +kernel
theorem dX1_findLeast_76 : decode cX1_findLeast 76 = .ok (.iload_n 3, 1) := by decide +kernel
theorem dX1_findLeast_77 : decode cX1_findLeast 77 = .ok (.if_icmp .lt 19, 3) := by decide +kernel
theorem dX1_findLeast_80 : decode cX1_findLeast 80 = .ok (.aload_n 0, 1) := by decide +kernel
theorem dX1_findLeast_81 : decode cX1_findLeast 81 = .ok (.getfield 9, 3) := by decide +kernel
theorem dX1_findLeast_84 : decode cX1_findLeast 84 = .ok (.aload_n 1, 1) := by decide +kernel
theorem dX1_findLeast_85 : decode cX1_findLeast 85 = .ok (.iload 5, 2) := by decide +kernel
theorem dX1_findLeast_87 : decode cX1_findLeast 87 = .ok (.iconst 0, 1) := by decide +kernel
theorem dX1_findLeast_88 : decode cX1_findLeast 88 = .ok (.invokevirtual 47, 3) := by decide +kernel
theorem dX1_findLeast_91 : decode cX1_findLeast 91 = .ok (.iload 5, 2) := by decide +kernel
theorem dX1_findLeast_93 : decode cX1_findLeast 93 = .ok (.invokestatic 31, 3) := by decide +kernel
theorem dX1_findLeast_96 : decode cX1_findLeast 96 = .ok (.iinc 4 1, 3) := by decide +kernel
theorem dX1_findLeast_99 : decode cX1_findLeast 99 = .ok (.goto (-79), 3) := by decide +kernel
theorem dX1_findLeast_102 : decode cX1_findLeast 102 = .ok (.aload_n 0, 1) := by decide +kernel
theorem dX1_findLeast_103 : decode cX1_findLeast 103 = .ok (.aload_n 1, 1) := by decide +kernel
theorem dX1_findLeast_104 : decode cX1_findLeast 104 = .ok (.invokevirtual 51, 3) := by decide +kernel
theorem dX1_findLeast_107 : decode cX1_findLeast 107 = .ok (.ireturn, 1) := by decide +kernel
theorem dX1_tally_0 : decode cX1_tally 0 = .ok (.aload_n 0, 1) := by decide +kernel
theorem dX1_tally_1 : decode cX1_tally 1 = .ok (.getfield 15, 3) := by decide +kernel
theorem dX1_tally_4 : decode cX1_tally 4 = .ok (.iconst 0, 1) := by decide +kernel
theorem dX1_tally_5 : decode cX1_tally 5 = .ok (.invokestatic 25, 3) := by decide +kernel
theorem dX1_tally_8 : decode cX1_tally 8 = .ok (.aload_n 0, 1) := by decide +kernel
theorem dX1_tally_9 : decode cX1_tally 9 = .ok (.getfield 15, 3) := by decide +kernel
theorem dX1_tally_12 : decode cX1_tally 12 = .ok (.iconst 5, 1) := by decide +kernel
theorem dX1_tally_13 : decode cX1_tally 13 = .ok (.iconst 1, 1) := by decide +kernel
theorem dX1_tally_14 : decode cX1_tally 14 = .ok (.invokestatic 31, 3) := by decide +kernel
theorem dX1_tally_17 : decode cX1_tally 17 = .ok (.iconst 0, 1) := by decide +kernel
theorem dX1_tally_18 : decode cX1_tally 18 = .ok (.istore 4, 2) := by decide +kernel
theorem dX1_tally_20 : decode cX1_tally 20 = .ok (.iload 4, 2) := by decide +kernel
theorem dX1_tally_22 : decode cX1_tally 22 = .ok (.aload_n 1, 1) := by decide +kernel
theorem dX1_tally_23 : decode cX1_tally 23 = .ok (.getfield 35, 3) := by decide +kernel
theorem dX1_tally_26 : decode cX1_tally 26 = .ok (.if_icmp .ge 75, 3) := by decide +kernel
theorem dX1_tally_29 : decode cX1_tally 29 = .ok (.aload_n 1, 1) := by decide +kernel
theorem dX1_tally_30 : decode cX1_tally 30 = .ok (.getfield 40, 3) := by decide +kernel
theorem dX1_tally_33 : decode cX1_tally 33 = .ok (.iload 4, 2) := by decide +kernel
theorem dX1_tally_35 : decode cX1_tally 35 = .ok (.invokestatic 43, 3) := by decide +kernel
theorem dX1_tally_38 : decode cX1_tally 38 = .ok (.istore 5, 2) := by decide +kernel
theorem dX1_tally_40 : decode cX1_tally 40 = .ok (.aload_n 2, 1) := by decide +kernel
theorem dX1_tally_41 : decode cX1_tally 41 = .ok (.iload 5, 2) := by decide +kernel
theorem dX1_tally_43 : decode cX1_tally 43 = .ok (.invokestatic 43, 3) := by decide +kernel
theorem dX1_tally_46 : decode cX1_tally 46 = .ok (.iload_n 3, 1) := by decide +kernel
theorem dX1_tally_47 : decode cX1_tally 47 = .ok (.if_icmp .ge 6, 3) := by decide +kernel
theorem dX1_tally_50 : decode cX1_tally 50 = .ok (.goto 45, 3) := by decide +kernel
theorem dX1_tally_53 : decode cX1_tally 53 = .ok (.aload_n 1, 1) := by decide +kernel
theorem dX1_tally_54 : decode cX1_tally 54 = .ok (.iload 5, 2) := by decide +kernel
theorem dX1_tally_56 : decode cX1_tally 56 = .ok (.iconst 0, 1) := by decide +kernel
theorem dX1_tally_57 : decode cX1_tally 57 = .ok (.invokevirtual 47, 3) := by decide +kernel
theorem dX1_tally_60 : decode cX1_tally 60 = .ok (.istore 6, 2) := by decide +kernel
theorem dX1_tally_62 : decode cX1_tally 62 = .ok (.aload_n 0, 1) := by decide +kernel
theorem dX1_tally_63 : decode cX1_tally 63 = .ok (.getfield 15, 3) := by decide +kernel
theorem dX1_tally_66 : decode cX1_tally 66 = .ok (.iload 6, 2) := by decide +kernel
theorem dX1_tally_68 : decode cX1_tally 68 = .ok (.aload_n 0, 1) := by decide +kernel
theorem dX1_tally_69 : decode cX1_tally 69 = .ok (.getfield 15, 3) := by decide +kernel
theorem dX1_tally_72 : decode cX1_tally 72 = .ok (.iload 6, 2) := by decide +kernel
theorem dX1_tally_74 : decode cX1_tally 74 = .ok (.invokestatic 43, 3) := by decide +kernel
theorem dX1_tally_77 : decode cX1_tally 77 = .ok (.aload_n 0, 1) := by decide +kernel
theorem dX1_tally_78 : decode cX1_tally 78 = .ok (.getfield 15, 3) := by decide +kernel
theorem dX1_tally_81 : decode cX1_tally 81 = .ok (.aload_n 1, 1) := by decide +kernel
theorem dX1_tally_82 : decode cX1_tally 82 = .ok (.iload 5, 2) := by decide +kernel
theorem dX1_tally_84 : decode cX1_tally 84 = .ok (.iconst 1, 1) := by decide +kernel
theorem dX1_tally_85 : decode cX1_tally 85 = .ok (.invokevirtual 47, 3) := by decide +kernel
theorem dX1_tally_88 : decode cX1_tally 88 = .ok (.invokestatic 43, 3) := by decide +kernel
theorem dX1_tally_91 : decode cX1_tally 91 = .ok (.iadd, 1) := by decide +kernel
theorem dX1_tally_92 : decode cX1_tally 92 = .ok (.invokestatic 31, 3) := by decide +kernel
theorem dX1_tally_95 : decode cX1_tally 95 = .ok (.iinc 4 1, 3) := by decide +kernel
theorem dX1_tally_98 : decode cX1_tally 98 = .ok (.goto (-78), 3) := by decide +kernel
theorem dX1_tally_101 : decode cX1_tally 101 = .ok (.aload_n 0, 1) := by decide +kernel
theorem dX1_tally_102 : decode cX1_tally 102 = .ok (.getfield 15, 3) := by decide +kernel
theorem dX1_tally_105 : decode cX1_tally 105 = .ok (.iconst 0, 1) := by decide +kernel
theorem dX1_tally_106 : decode cX1_tally 106 = .ok (.invokestatic 43, 3) := by decide +kernel
theorem dX1_tally_109 : decode cX1_tally 109 = .ok (.ireturn, 1) := by decide +kernel
theorem dX1_findLikeliest_0 : decode cX1_findLikeliest 0 = .ok (.aload_n 0, 1) := by decide +kernel
theorem dX1_findLikeliest_1 : decode cX1_findLikeliest 1 = .ok (.getfield 9, 3) := by decide +kernel
theorem dX1_findLikeliest_4 : decode cX1_findLikeliest 4 = .ok (.iconst (-1), 1) := by decide +kernel
theorem dX1_findLikeliest_5 : decode cX1_findLikeliest 5 = .ok (.invokestatic 25, 3) := by decide +kernel
theorem dX1_findLikeliest_8 : decode cX1_findLikeliest 8 = .ok (.aload_n 0, 1) := by decide +kernel
theorem dX1_findLikeliest_9 : decode cX1_findLikeliest 9 = .ok (.getfield 15, 3) := by decide +kernel
theorem dX1_findLikeliest_12 : decode cX1_findLikeliest 12 = .ok (.iconst (-1), 1) := by decide +kernel
theorem dX1_findLikeliest_13 : decode cX1_findLikeliest 13 = .ok (.invokestatic 25, 3) := by decide +kernel
theorem dX1_findLikeliest_16 : decode cX1_findLikeliest 16 = .ok (.aload_n 0, 1) := by decide +kernel
theorem dX1_findLikeliest_17 : decode cX1_findLikeliest 17 = .ok (.getfield 15, 3) := by decide +kernel
theorem dX1_findLikeliest_20 : decode cX1_findLikeliest 20 = .ok (.iconst 5, 1) := by decide +kernel
theorem dX1_findLikeliest_21 : decode cX1_findLikeliest 21 = .ok (.ldc 55, 2) := by decide +kernel
theorem dX1_findLikeliest_23 : decode cX1_findLikeliest 23 = .ok (.invokestatic 31, 3) := by decide +kernel
theorem dX1_findLikeliest_26 : decode cX1_findLikeliest 26 = .ok (.iconst 0, 1) := by decide +kernel
theorem dX1_findLikeliest_27 : decode cX1_findLikeliest 27 = .ok (.istore_n 3, 1) := by decide +kernel
theorem dX1_findLikeliest_28 : decode cX1_findLikeliest 28 = .ok (.iload_n 3, 1) := by decide +kernel
theorem dX1_findLikeliest_29 : decode cX1_findLikeliest 29 = .ok (.aload_n 1, 1) := by decide +kernel
theorem dX1_findLikeliest_30 : decode cX1_findLikeliest 30 = .ok (.getfield 35, 3) := by decide +kernel
theorem dX1_findLikeliest_33 : decode cX1_findLikeliest 33 = .ok (.if_icmp .ge 106, 3) := by decide +kernel
theorem dX1_findLikeliest_36 : decode cX1_findLikeliest 36 = .ok (.aload_n 1, 1) := by decide +kernel
theorem dX1_findLikeliest_37 : decode cX1_findLikeliest 37 = .ok (.getfield 40, 3) := by decide +kernel
theorem dX1_findLikeliest_40 : decode cX1_findLikeliest 40 = .ok (.iload_n 3, 1) := by decide +kernel
theorem dX1_findLikeliest_41 : decode cX1_findLikeliest 41 = .ok (.invokestatic 43, 3) := by decide +kernel
theorem dX1_findLikeliest_44 : decode cX1_findLikeliest 44 = .ok (.istore 4, 2) := by decide +kernel
theorem dX1_findLikeliest_46 : decode cX1_findLikeliest 46 = .ok (.aload_n 0, 1) := by decide +kernel
theorem dX1_findLikeliest_47 : decode cX1_findLikeliest 47 = .ok (.getfield 15, 3) := by decide +kernel
theorem dX1_findLikeliest_50 : decode cX1_findLikeliest 50 = .ok (.aload_n 1, 1) := by decide +kernel
theorem dX1_findLikeliest_51 : decode cX1_findLikeliest 51 = .ok (.iload 4, 2) := by decide +kernel
theorem dX1_findLikeliest_53 : decode cX1_findLikeliest 53 = .ok (.iconst 1, 1) := by decide +kernel
theorem dX1_findLikeliest_54 : decode cX1_findLikeliest 54 = .ok (.invokevirtual 47, 3) := by decide +kernel
theorem dX1_findLikeliest_57 : decode cX1_findLikeliest 57 = .ok (.invokestatic 43, 3) := by decide +kernel
theorem dX1_findLikeliest_60 : decode cX1_findLikeliest 60 = .ok (.istore 5, 2) := by decide +kernel
theorem dX1_findLikeliest_62 : decode cX1_findLikeliest 62 = .ok (.iload 5, 2) := by decide +kernel
theorem dX1_findLikeliest_64 : decode cX1_findLikeliest 64 = .ok (.iconst (-1), 1) := by decide +kernel
theorem dX1_findLikeliest_65 : decode cX1_findLikeliest 65 = .ok (.if_icmp .ne 6, 3) := by decide +kernel
theorem dX1_findLikeliest_68 : decode cX1_findLikeliest 68 = .ok (.goto 65, 3) := by decide +kernel
theorem dX1_findLikeliest_71 : decode cX1_findLikeliest 71 = .ok (.aload_n 1, 1) := by decide +kernel
theorem dX1_findLikeliest_72 : decode cX1_findLikeliest 72 = .ok (.iload 4, 2) := by decide +kernel
theorem dX1_findLikeliest_74 : decode cX1_findLikeliest 74 = .ok (.iconst 0, 1) := by decide +kernel
theorem dX1_findLikeliest_75 : decode cX1_findLikeliest 75 = .ok (.invokevirtual 47, 3) := by decide +kernel
theorem dX1_findLikeliest_78 : decode cX1_findLikeliest 78 = .ok (.istore 6, 2) := by decide +kernel
theorem dX1_findLikeliest_80 : decode cX1_findLikeliest 80 = .ok (.iload 5, 2) := by decide +kernel
theorem dX1_findLikeliest_82 : decode cX1_findLikeliest 82 = .ok (.bipush 16, 2) := by decide +kernel
theorem dX1_findLikeliest_84 : decode cX1_findLikeliest 84 = .ok (.idiv, 1) := by decide +kernel
theorem dX1_findLikeliest_85 : decode cX1_findLikeliest 85 = .ok (.aload_n 2, 1) := by decide +kernel
theorem dX1_findLikeliest_86 : decode cX1_findLikeliest 86 = .ok (.iload 4, 2) := by decide +kernel
theorem dX1_findLikeliest_88 : decode cX1_findLikeliest 88 = .ok (.invokestatic 43, 3) := by decide +kernel
theorem dX1_findLikeliest_91 : decode cX1_findLikeliest 91 = .ok (.imul, 1) := by decide +kernel
theorem dX1_findLikeliest_92 : decode cX1_findLikeliest 92 = .ok (.istore 7, 2) := by decide +kernel
theorem dX1_findLikeliest_94 : decode cX1_findLikeliest 94 = .ok (.iload 7, 2) := by decide +kernel
theorem dX1_findLikeliest_96 : decode cX1_findLikeliest 96 = .ok (.aload_n 0, 1) := by decide +kernel
theorem dX1_findLikeliest_97 : decode cX1_findLikeliest 97 = .ok (.getfield 15, 3) := by decide +kernel
theorem dX1_findLikeliest_100 : decode cX1_findLikeliest 100 = .ok (.iload 6, 2) := by decide +kernel
theorem dX1_findLikeliest_102 : decode cX1_findLikeliest 102 = .ok (.invokestatic 43, 3) := by decide +kernel
theorem dX1_findLikeliest_105 : decode cX1_findLikeliest 105 = .ok (.if_icmp .ge 6, 3) := by decide +kernel
theorem dX1_findLikeliest_108 : decode cX1_findLikeliest 108 = .ok (.goto 25, 3) := by decide +kernel
theorem dX1_findLikeliest_111 : decode cX1_findLikeliest 111 = .ok (.aload_n 0, 1) := by decide +kernel
theorem dX1_findLikeliest_112 : decode cX1_findLikeliest 112 = .ok (.getfield 15, 3) := by decide +kernel
theorem dX1_findLikeliest_115 : decode cX1_findLikeliest 115 = .ok (.iload 6, 2) := by decide +kernel
theorem dX1_findLikeliest_117 : decode cX1_findLikeliest 117 = .ok (.iload 7, 2) := by decide +kernel
theorem dX1_findLikeliest_119 : decode cX1_findLikeliest 119 = .ok (.invokestatic 31, 3) := by decide +kernel
theorem dX1_findLikeliest_122 : decode cX1_findLikeliest 122 = .ok (.aload_n 0, 1) := by decide +kernel
theorem dX1_findLikeliest_123 : decode cX1_findLikeliest 123 = .ok (.getfield 9, 3) := by decide +kernel
theorem dX1_findLikeliest_126 : decode cX1_findLikeliest 126 = .ok (.iload 6, 2) := by decide +kernel
theorem dX1_findLikeliest_128 : decode cX1_findLikeliest 128 = .ok (.iload 4, 2) := by decide +kernel
theorem dX1_findLikeliest_130 : decode cX1_findLikeliest 130 = .ok (.invokestatic 31, 3) := by decide +kernel
theorem dX1_findLikeliest_133 : decode cX1_findLikeliest 133 = .ok (.iinc 3 1, 3) := by decide +kernel
theorem dX1_findLikeliest_136 : decode cX1_findLikeliest 136 = .ok (.goto (-108), 3) := by decide +kernel
theorem dX1_findLikeliest_139 : decode cX1_findLikeliest 139 = .ok (.aload_n 0, 1) := by decide +kernel
theorem dX1_findLikeliest_140 : decode cX1_findLikeliest 140 = .ok (.aload_n 1, 1) := by decide +kernel
theorem dX1_findLikeliest_141 : decode cX1_findLikeliest 141 = .ok (.invokevirtual 51, 3) := by decide +kernel
theorem dX1_findLikeliest_144 : decode cX1_findLikeliest 144 = .ok (.pop, 1) := by decide +kernel
theorem dX1_findLikeliest_145 : decode cX1_findLikeliest 145 = .ok (.aload_n 0, 1) := by decide +kernel
theorem dX1_findLikeliest_146 : decode cX1_findLikeliest 146 = .ok (.getfield 15, 3) := by decide +kernel
theorem dX1_findLikeliest_149 : decode cX1_findLikeliest 149 = .ok (.iconst 0, 1) := by decide +kernel
theorem dX1_findLikeliest_150 : decode cX1_findLikeliest 150 = .ok (.invokestatic 43, 3) := by decide +kernel
theorem dX1_findLikeliest_153 : decode cX1_findLikeliest 153 = .ok (.ireturn, 1) := by decide +kernel
theorem dX1_follow_0 : decode cX1_follow 0 = .ok (.iconst 0, 1) := by decide +kernel
theorem dX1_follow_1 : decode cX1_follow 1 = .ok (.istore_n 2, 1) := by decide +kernel
theorem dX1_follow_2 : decode cX1_follow 2 = .ok (.aload_n 0, 1) := by decide +kernel
theorem dX1_follow_3 : decode cX1_follow 3 = .ok (.iconst 0, 1) := by decide +kernel
theorem dX1_follow_4 : decode cX1_follow 4 = .ok (.putfield 21, 3) := by decide +kernel
theorem dX1_follow_7 : decode cX1_follow 7 = .ok (.aload_n 0, 1) := by decide +kernel
theorem dX1_follow_8 : decode cX1_follow 8 = .ok (.getfield 21, 3) := by decide +kernel
theorem dX1_follow_11 : decode cX1_follow 11 = .ok (.aload_n 0, 1) := by decide +kernel
theorem dX1_follow_12 : decode cX1_follow 12 = .ok (.getfield 18, 3) := by decide +kernel
theorem dX1_follow_15 : decode cX1_follow 15 = .ok (.arraylength, 1) := by decide +kernel
theorem dX1_follow_16 : decode cX1_follow 16 = .ok (.if_icmp .ge 59, 3) := by decide +kernel
theorem dX1_follow_19 : decode cX1_follow 19 = .ok (.iload_n 2, 1) := by decide +kernel
theorem dX1_follow_20 : decode cX1_follow 20 = .ok (.iconst 5, 1) := by decide +kernel
theorem dX1_follow_21 : decode cX1_follow 21 = .ok (.if_icmp .eq 54, 3) := by decide +kernel
theorem dX1_follow_24 : decode cX1_follow 24 = .ok (.aload_n 0, 1) := by decide +kernel
theorem dX1_follow_25 : decode cX1_follow 25 = .ok (.getfield 9, 3) := by decide +kernel
theorem dX1_follow_28 : decode cX1_follow 28 = .ok (.iload_n 2, 1) := by decide +kernel
theorem dX1_follow_29 : decode cX1_follow 29 = .ok (.invokestatic 43, 3) := by decide +kernel
theorem dX1_follow_32 : decode cX1_follow 32 = .ok (.istore_n 3, 1) := by decide +kernel
theorem dX1_follow_33 : decode cX1_follow 33 = .ok (.iload_n 3, 1) := by decide +kernel
theorem dX1_follow_34 : decode cX1_follow 34 = .ok (.iconst (-1), 1) := by decide +kernel
theorem dX1_follow_35 : decode cX1_follow 35 = .ok (.if_icmp .ne 10, 3) := by decide +kernel
theorem dX1_follow_38 : decode cX1_follow 38 = .ok (.aload_n 0, 1) := by decide +kernel
theorem dX1_follow_39 : decode cX1_follow 39 = .ok (.iconst 0, 1) := by decide +kernel
theorem dX1_follow_40 : decode cX1_follow 40 = .ok (.putfield 21, 3) := by decide +kernel
theorem dX1_follow_43 : decode cX1_follow 43 = .ok (.iconst 0, 1) := by decide +kernel
theorem dX1_follow_44 : decode cX1_follow 44 = .ok (.ireturn, 1) := by decide +kernel
theorem dX1_follow_45 : decode cX1_follow 45 = .ok (.aload_n 0, 1) := by decide +kernel
theorem dX1_follow_46 : decode cX1_follow 46 = .ok (.getfield 18, 3) := by decide +kernel
theorem dX1_follow_49 : decode cX1_follow 49 = .ok (.aload_n 0, 1) := by decide +kernel
theorem dX1_follow_50 : decode cX1_follow 50 = .ok (.getfield 21, 3) := by decide +kernel
theorem dX1_follow_53 : decode cX1_follow 53 = .ok (.iload_n 3, 1) := by decide +kernel
theorem dX1_follow_54 : decode cX1_follow 54 = .ok (.iastore, 1) := by decide +kernel
theorem dX1_follow_55 : decode cX1_follow 55 = .ok (.aload_n 0, 1) := by decide +kernel
theorem dX1_follow_56 : decode cX1_follow 56 = .ok (.dup, 1) := by decide +kernel
theorem dX1_follow_57 : decode cX1_follow 57 = .ok (.getfield 21, 3) := by decide +kernel
theorem dX1_follow_60 : decode cX1_follow 60 = .ok (.iconst 1, 1) := by decide +kernel
theorem dX1_follow_61 : decode cX1_follow 61 = .ok (.iadd, 1) := by decide +kernel
theorem dX1_follow_62 : decode cX1_follow 62 = .ok (.putfield 21, 3) := by decide +kernel
theorem dX1_follow_65 : decode cX1_follow 65 = .ok (.aload_n 1, 1) := by decide +kernel
theorem dX1_follow_66 : decode cX1_follow 66 = .ok (.iload_n 3, 1) := by decide +kernel
theorem dX1_follow_67 : decode cX1_follow 67 = .ok (.iconst 1, 1) := by decide +kernel
theorem dX1_follow_68 : decode cX1_follow 68 = .ok (.invokevirtual 47, 3) := by decide +kernel
theorem dX1_follow_71 : decode cX1_follow 71 = .ok (.istore_n 2, 1) := by decide +kernel
theorem dX1_follow_72 : decode cX1_follow 72 = .ok (.goto (-65), 3) := by decide +kernel
theorem dX1_follow_75 : decode cX1_follow 75 = .ok (.iload_n 2, 1) := by decide +kernel
theorem dX1_follow_76 : decode cX1_follow 76 = .ok (.iconst 5, 1) := by decide +kernel
theorem dX1_follow_77 : decode cX1_follow 77 = .ok (.if_icmp .ne 7, 3) := by decide +kernel
theorem dX1_follow_80 : decode cX1_follow 80 = .ok (.iconst 1, 1) := by decide +kernel
theorem dX1_follow_81 : decode cX1_follow 81 = .ok (.goto 4, 3) := by decide +kernel
theorem dX1_follow_84 : decode cX1_follow 84 = .ok (.iconst 0, 1) := by decide +kernel
theorem dX1_follow_85 : decode cX1_follow 85 = .ok (.ireturn, 1) := by decide +kernel
theorem dX1_step_0 : decode cX1_step 0 = .ok (.iload_n 1, 1) := by decide +kernel
theorem dX1_step_1 : decode cX1_step 1 = .ok (.aload_n 0, 1) := by decide +kernel
theorem dX1_step_2 : decode cX1_step 2 = .ok (.getfield 21, 3) := by decide +kernel
theorem dX1_step_5 : decode cX1_step 5 = .ok (.if_icmp .ge 14, 3) := by decide +kernel
theorem dX1_step_8 : decode cX1_step 8 = .ok (.aload_n 0, 1) := by decide +kernel
theorem dX1_step_9 : decode cX1_step 9 = .ok (.getfield 18, 3) := by decide +kernel
theorem dX1_step_12 : decode cX1_step 12 = .ok (.iload_n 1, 1) := by decide +kernel
theorem dX1_step_13 : decode cX1_step 13 = .ok (.invokestatic 43, 3) := by decide +kernel
theorem dX1_step_16 : decode cX1_step 16 = .ok (.goto 4, 3) := by decide +kernel
theorem dX1_step_19 : decode cX1_step 19 = .ok (.iconst (-1), 1) := by decide +kernel
theorem dX1_step_20 : decode cX1_step 20 = .ok (.ireturn, 1) := by decide +kernel
theorem dX2_init_0 : decode cX2_init 0 = .ok (.aload_n 0, 1) := by decide +kernel
theorem dX2_init_1 : decode cX2_init 1 = .ok (.invokespecial 3, 3) := by decide +kernel
theorem dX2_init_4 : decode cX2_init 4 = .ok (.aload_n 0, 1) := by decide +kernel
theorem dX2_init_5 : decode cX2_init 5 = .ok (.bipush 60, 2) := by decide +kernel
theorem dX2_init_7 : decode cX2_init 7 = .ok (.newarray .int, 2) := by decide +kernel
theorem dX2_init_9 : decode cX2_init 9 = .ok (.putfield 9, 3) := by decide +kernel
theorem dX2_init_12 : decode cX2_init 12 = .ok (.aload_n 0, 1) := by decide +kernel
theorem dX2_init_13 : decode cX2_init 13 = .ok (.iconst (-1), 1) := by decide +kernel
theorem dX2_init_14 : decode cX2_init 14 = .ok (.putfield 15, 3) := by decide +kernel
theorem dX2_init_17 : decode cX2_init 17 = .ok (.aload_n 0, 1) := by decide +kernel
theorem dX2_init_18 : decode cX2_init 18 = .ok (.iconst 0, 1) := by decide +kernel
theorem dX2_init_19 : decode cX2_init 19 = .ok (.putfield 19, 3) := by decide +kernel
theorem dX2_init_22 : decode cX2_init 22 = .ok (.return_, 1) := by decide +kernel
theorem dX2_renew_0 : decode cX2_renew 0 = .ok (.aload_n 0, 1) := by decide +kernel
theorem dX2_renew_1 : decode cX2_renew 1 = .ok (.getfield 9, 3) := by decide +kernel
theorem dX2_renew_4 : decode cX2_renew 4 = .ok (.iconst 0, 1) := by decide +kernel
theorem dX2_renew_5 : decode cX2_renew 5 = .ok (.invokestatic 22, 3) := by decide +kernel
theorem dX2_renew_8 : decode cX2_renew 8 = .ok (.aload_n 0, 1) := by decide +kernel
theorem dX2_renew_9 : decode cX2_renew 9 = .ok (.iload_n 1, 1) := by decide +kernel
theorem dX2_renew_10 : decode cX2_renew 10 = .ok (.putfield 15, 3) := by decide +kernel
theorem dX2_renew_13 : decode cX2_renew 13 = .ok (.aload_n 0, 1) := by decide +kernel
theorem dX2_renew_14 : decode cX2_renew 14 = .ok (.iload_n 2, 1) := by decide +kernel
theorem dX2_renew_15 : decode cX2_renew 15 = .ok (.putfield 19, 3) := by decide +kernel
theorem dX2_renew_18 : decode cX2_renew 18 = .ok (.return_, 1) := by decide +kernel
theorem dX2_isLost_0 : decode cX2_isLost 0 = .ok (.aload_n 0, 1) := by decide +kernel
theorem dX2_isLost_1 : decode cX2_isLost 1 = .ok (.getfield 15, 3) := by decide +kernel
theorem dX2_isLost_4 : decode cX2_isLost 4 = .ok (.iconst (-1), 1) := by decide +kernel
theorem dX2_isLost_5 : decode cX2_isLost 5 = .ok (.if_icmp .ne 7, 3) := by decide +kernel
theorem dX2_isLost_8 : decode cX2_isLost 8 = .ok (.iconst 1, 1) := by decide +kernel
theorem dX2_isLost_9 : decode cX2_isLost 9 = .ok (.goto 4, 3) := by decide +kernel
theorem dX2_isLost_12 : decode cX2_isLost 12 = .ok (.iconst 0, 1) := by decide +kernel
theorem dX2_isLost_13 : decode cX2_isLost 13 = .ok (.ireturn, 1) := by decide +kernel
theorem dX2_hasItems_0 : decode cX2_hasItems 0 = .ok (.iload_n 1, 1) := by decide +kernel
theorem dX2_hasItems_1 : decode cX2_hasItems 1 = .ok (.ifCond .lt 29, 3) := by decide +kernel
theorem dX2_hasItems_4 : decode cX2_hasItems 4 = .ok (.iload_n 2, 1) := by decide +kernel
theorem dX2_hasItems_5 : decode cX2_hasItems 5 = .ok (.ifCond .lt 25, 3) := by decide +kernel
theorem dX2_hasItems_8 : decode cX2_hasItems 8 = .ok (.iload_n 1, 1) := by decide +kernel
theorem dX2_hasItems_9 : decode cX2_hasItems 9 = .ok (.aload_n 0, 1) := by decide +kernel
theorem dX2_hasItems_10 : decode cX2_hasItems 10 = .ok (.getfield 19, 3) := by decide +kernel
theorem dX2_hasItems_13 : decode cX2_hasItems 13 = .ok (.if_icmp .gt 17, 3) := by decide +kernel
theorem dX2_hasItems_16 : decode cX2_hasItems 16 = .ok (.iload_n 2, 1) := by decide +kernel
theorem dX2_hasItems_17 : decode cX2_hasItems 17 = .ok (.aload_n 0, 1) := by decide +kernel
theorem dX2_hasItems_18 : decode cX2_hasItems 18 = .ok (.getfield 19, 3) := by decide +kernel
theorem dX2_hasItems_21 : decode cX2_hasItems 21 = .ok (.iload_n 1, 1) := by decide +kernel
theorem dX2_hasItems_22 : decode cX2_hasItems 22 = .ok (.isub, 1) := by decide +kernel
theorem dX2_hasItems_23 : decode cX2_hasItems 23 = .ok (.if_icmp .gt 7, 3) := by decide +kernel
theorem dX2_hasItems_26 : decode cX2_hasItems 26 = .ok (.iconst 1, 1) := by decide +kernel
theorem dX2_hasItems_27 : decode cX2_hasItems 27 = .ok (.goto 4, 3) := by decide +kernel
theorem dX2_hasItems_30 : decode cX2_hasItems 30 = .ok (.iconst 0, 1) := by decide +kernel
theorem dX2_hasItems_31 : decode cX2_hasItems 31 = .ok (.ireturn, 1) := by decide +kernel
theorem dX2_itemAt_0 : decode cX2_itemAt 0 = .ok (.iload_n 1, 1) := by decide +kernel
theorem dX2_itemAt_1 : decode cX2_itemAt 1 = .ok (.aload_n 0, 1) := by decide +kernel
theorem dX2_itemAt_2 : decode cX2_itemAt 2 = .ok (.getfield 19, 3) := by decide +kernel
theorem dX2_itemAt_5 : decode cX2_itemAt 5 = .ok (.if_icmp .ge 14, 3) := by decide +kernel
theorem dX2_itemAt_8 : decode cX2_itemAt 8 = .ok (.aload_n 0, 1) := by decide +kernel
theorem dX2_itemAt_9 : decode cX2_itemAt 9 = .ok (.getfield 9, 3) := by decide +kernel
theorem dX2_itemAt_12 : decode cX2_itemAt 12 = .ok (.iload_n 1, 1) := by decide +kernel
theorem dX2_itemAt_13 : decode cX2_itemAt 13 = .ok (.invokestatic 28, 3) := by decide +kernel
theorem dX2_itemAt_16 : decode cX2_itemAt 16 = .ok (.goto 4, 3) := by decide +kernel
theorem dX2_itemAt_19 : decode cX2_itemAt 19 = .ok (.iconst (-1), 1) := by decide +kernel
theorem dX2_itemAt_20 : decode cX2_itemAt 20 = .ok (.ireturn, 1) := by decide +kernel
theorem dX2_put_0 : decode cX2_put 0 = .ok (.aload_n 0, 1) := by decide +kernel
theorem dX2_put_1 : decode cX2_put 1 = .ok (.getfield 9, 3) := by decide +kernel
theorem dX2_put_4 : decode cX2_put 4 = .ok (.iload_n 1, 1) := by decide +kernel
theorem dX2_put_5 : decode cX2_put 5 = .ok (.aload_n 0, 1) := by decide +kernel
theorem dX2_put_6 : decode cX2_put 6 = .ok (.getfield 15, 3) := by decide +kernel
theorem dX2_put_9 : decode cX2_put 9 = .ok (.ifCond .ne 8, 3) := by decide +kernel
theorem dX2_put_12 : decode cX2_put 12 = .ok (.iload_n 2, 1) := by decide +kernel
theorem dX2_put_13 : decode cX2_put 13 = .ok (.i2b, 1) := by decide +kernel
theorem dX2_put_14 : decode cX2_put 14 = .ok (.goto 17, 3) := by decide +kernel
theorem dX2_put_17 : decode cX2_put 17 = .ok (.aload_n 0, 1) := by decide +kernel
theorem dX2_put_18 : decode cX2_put 18 = .ok (.getfield 15, 3) := by decide +kernel
theorem dX2_put_21 : decode cX2_put 21 = .ok (.iconst 1, 1) := by decide +kernel
theorem dX2_put_22 : decode cX2_put 22 = .ok (.if_icmp .ne 8, 3) := by decide +kernel
theorem dX2_put_25 : decode cX2_put 25 = .ok (.iload_n 2, 1) := by decide +kernel
theorem dX2_put_26 : decode cX2_put 26 = .ok (.i2s, 1) := by decide +kernel
theorem dX2_put_27 : decode cX2_put 27 = .ok (.goto 4, 3) := by decide +kernel
theorem dX2_put_30 : decode cX2_put 30 = .ok (.iload_n 2, 1) := by decide +kernel
theorem dX2_put_31 : decode cX2_put 31 = .ok (.invokestatic 32, 3) := by decide +kernel
theorem dX2_put_34 : decode cX2_put 34 = .ok (.return_, 1) := by decide +kernel
theorem dX3_init_0 : decode cX3_init 0 = .ok (.aload_n 0, 1) := by decide +kernel
theorem dX3_init_1 : decode cX3_init 1 = .ok (.invokespecial 3, 3) := by decide +kernel
theorem dX3_init_4 : decode cX3_init 4 = .ok (.aload_n 0, 1) := by decide +kernel
theorem dX3_init_5 : decode cX3_init 5 = .ok (.bipush 12, 2) := by decide +kernel
theorem dX3_init_7 : decode cX3_init 7 = .ok (.newarray .int, 2) := by decide +kernel
theorem dX3_init_9 : decode cX3_init 9 = .ok (.putfield 11, 3) := by decide +kernel
theorem dX3_init_12 : decode cX3_init 12 = .ok (.aload_n 0, 1) := by decide +kernel
theorem dX3_init_13 : decode cX3_init 13 = .ok (.bipush 12, 2) := by decide +kernel
theorem dX3_init_15 : decode cX3_init 15 = .ok (.newarray .int, 2) := by decide +kernel
theorem dX3_init_17 : decode cX3_init 17 = .ok (.putfield 15, 3) := by decide +kernel
theorem dX3_init_20 : decode cX3_init 20 = .ok (.aload_n 0, 1) := by decide +kernel
theorem dX3_init_21 : decode cX3_init 21 = .ok (.bipush 12, 2) := by decide +kernel
theorem dX3_init_23 : decode cX3_init 23 = .ok (.newarray .int, 2) := by decide +kernel
theorem dX3_init_25 : decode cX3_init 25 = .ok (.putfield 18, 3) := by decide +kernel
theorem dX3_init_28 : decode cX3_init 28 = .ok (.aload_n 0, 1) := by decide +kernel
theorem dX3_init_29 : decode cX3_init 29 = .ok (.bipush 10, 2) := by decide +kernel
theorem dX3_init_31 : decode cX3_init 31 = .ok (.newarray .int, 2) := by decide +kernel
theorem dX3_init_33 : decode cX3_init 33 = .ok (.putfield 21, 3) := by decide +kernel
theorem dX3_init_36 : decode cX3_init 36 = .ok (.aload_n 0, 1) := by decide +kernel
theorem dX3_init_37 : decode cX3_init 37 = .ok (.iconst 0, 1) := by decide +kernel
theorem dX3_init_38 : decode cX3_init 38 = .ok (.putfield 24, 3) := by decide +kernel
theorem dX3_init_41 : decode cX3_init 41 = .ok (.return_, 1) := by decide +kernel
theorem dX3_add_0 : decode cX3_add 0 = .ok (.aload_n 0, 1) := by decide +kernel
theorem dX3_add_1 : decode cX3_add 1 = .ok (.getfield 24, 3) := by decide +kernel
theorem dX3_add_4 : decode cX3_add 4 = .ok (.bipush 12, 2) := by decide +kernel
theorem dX3_add_6 : decode cX3_add 6 = .ok (.if_icmp .lt 5, 3) := by decide +kernel
theorem dX3_add_9 : decode cX3_add 9 = .ok (.iconst 0, 1) := by decide +kernel
theorem dX3_add_10 : decode cX3_add 10 = .ok (.ireturn, 1) := by decide +kernel
theorem dX3_add_11 : decode cX3_add 11 = .ok (.aload_n 0, 1) := by decide +kernel
theorem dX3_add_12 : decode cX3_add 12 = .ok (.getfield 11, 3) := by decide +kernel
theorem dX3_add_15 : decode cX3_add 15 = .ok (.aload_n 0, 1) := by decide +kernel
theorem dX3_add_16 : decode cX3_add 16 = .ok (.getfield 24, 3) := by decide +kernel
theorem dX3_add_19 : decode cX3_add 19 = .ok (.iload_n 1, 1) := by decide +kernel
theorem dX3_add_20 : decode cX3_add 20 = .ok (.invokestatic 28, 3) := by decide +kernel
theorem dX3_add_23 : decode cX3_add 23 = .ok (.aload_n 0, 1) := by decide +kernel
theorem dX3_add_24 : decode cX3_add 24 = .ok (.getfield 15, 3) := by decide +kernel
theorem dX3_add_27 : decode cX3_add 27 = .ok (.aload_n 0, 1) := by decide +kernel
theorem dX3_add_28 : decode cX3_add 28 = .ok (.getfield 24, 3) := by decide +kernel
theorem dX3_add_31 : decode cX3_add 31 = .ok (.iload_n 2, 1) := by decide +kernel
theorem dX3_add_32 : decode cX3_add 32 = .ok (.invokestatic 28, 3) := by decide +kernel
theorem dX3_add_35 : decode cX3_add 35 = .ok (.aload_n 0, 1) := by decide +kernel
theorem dX3_add_36 : decode cX3_add 36 = .ok (.getfield 18, 3) := by decide +kernel
theorem dX3_add_39 : decode cX3_add 39 = .ok (.aload_n 0, 1) := by decide +kernel
theorem dX3_add_40 : decode cX3_add 40 = .ok (.getfield 24, 3) := by decide +kernel
theorem dX3_add_43 : decode cX3_add 43 = .ok (.iload_n 3, 1) := by decide +kernel
theorem dX3_add_44 : decode cX3_add 44 = .ok (.invokestatic 28, 3) := by decide +kernel
theorem dX3_add_47 : decode cX3_add 47 = .ok (.aload_n 0, 1) := by decide +kernel
theorem dX3_add_48 : decode cX3_add 48 = .ok (.dup, 1) := by decide +kernel
theorem dX3_add_49 : decode cX3_add 49 = .ok (.getfield 24, 3) := by decide +kernel
theorem dX3_add_52 : decode cX3_add 52 = .ok (.iconst 1, 1) := by decide +kernel
theorem dX3_add_53 : decode cX3_add 53 = .ok (.iadd, 1) := by decide +kernel
theorem dX3_add_54 : decode cX3_add 54 = .ok (.putfield 24, 3) := by decide +kernel
theorem dX3_add_57 : decode cX3_add 57 = .ok (.iconst 1, 1) := by decide +kernel
theorem dX3_add_58 : decode cX3_add 58 = .ok (.ireturn, 1) := by decide +kernel
theorem dX3_drop_0 : decode cX3_drop 0 = .ok (.aload_n 0, 1) := by decide +kernel
theorem dX3_drop_1 : decode cX3_drop 1 = .ok (.iconst 0, 1) := by decide +kernel
theorem dX3_drop_2 : decode cX3_drop 2 = .ok (.putfield 24, 3) := by decide +kernel
theorem dX3_drop_5 : decode cX3_drop 5 = .ok (.return_, 1) := by decide +kernel
theorem dX3_fitting_0 : decode cX3_fitting 0 = .ok (.lconst 0, 1) := by decide +kernel
theorem dX3_fitting_1 : decode cX3_fitting 1 = .ok (.lstore_n 3, 1) := by decide +kernel
theorem dX3_fitting_2 : decode cX3_fitting 2 = .ok (.iconst 0, 1) := by decide +kernel
theorem dX3_fitting_3 : decode cX3_fitting 3 = .ok (.istore 5, 2) := by decide +kernel
theorem dX3_fitting_5 : decode cX3_fitting 5 = .ok (.iload 5, 2) := by decide +kernel
theorem dX3_fitting_7 : decode cX3_fitting 7 = .ok (.bipush 36, 2) := by decide +kernel
theorem dX3_fitting_9 : decode cX3_fitting 9 = .ok (.if_icmp .ge 27, 3) := by decide +kernel
theorem dX3_fitting_12 : decode cX3_fitting 12 = .ok (.aload_n 0, 1) := by decide +kernel
theorem dX3_fitting_13 : decode cX3_fitting 13 = .ok (.iload_n 1, 1) := by decide +kernel
theorem dX3_fitting_14 : decode cX3_fitting 14 = .ok (.iload_n 2, 1) := by decide +kernel
theorem dX3_fitting_15 : decode cX3_fitting 15 = .ok (.iload 5, 2) := by decide +kernel
theorem dX3_fitting_17 : decode cX3_fitting 17 = .ok (.invokevirtual 32, 3) := by decide +kernel
theorem dX3_fitting_20 : decode cX3_fitting 20 = .ok (.ifCond .eq 10, 3) := by decide +kernel
theorem dX3_fitting_23 : decode cX3_fitting 23 = .ok (.lload_n 3, 1) := by decide +kernel
theorem dX3_fitting_24 : decode cX3_fitting 24 = .ok (.lconst 1, 1) := by decide +kernel
theorem dX3_fitting_25 : decode cX3_fitting 25 = .ok (.iload 5, 2) := by decide +kernel
theorem dX3_fitting_27 : decode cX3_fitting 27 = .ok (.lshl, 1) := by decide +kernel
theorem dX3_fitting_28 : decode cX3_fitting 28 = .ok (.lor, 1) := by decide +kernel
theorem dX3_fitting_29 : decode cX3_fitting 29 = .ok (.lstore_n 3, 1) := by decide +kernel
theorem dX3_fitting_30 : decode cX3_fitting 30 = .ok (.iinc 5 1, 3) := by decide +kernel
theorem dX3_fitting_33 : decode cX3_fitting 33 = .ok (.goto (-28), 3) := by decide +kernel
theorem dX3_fitting_36 : decode cX3_fitting 36 = .ok (.lload_n 3, 1) := by decide +kernel
theorem dX3_fitting_37 : decode cX3_fitting 37 = .ok (.lreturn, 1) := by decide +kernel
theorem dX3_isFitting_0 : decode cX3_isFitting 0 = .ok (.iconst 0, 1) := by decide +kernel
theorem dX3_isFitting_1 : decode cX3_isFitting 1 = .ok (.istore 4, 2) := by decide +kernel
theorem dX3_isFitting_3 : decode cX3_isFitting 3 = .ok (.iload 4, 2) := by decide +kernel
theorem dX3_isFitting_5 : decode cX3_isFitting 5 = .ok (.aload_n 0, 1) := by decide +kernel
theorem dX3_isFitting_6 : decode cX3_isFitting 6 = .ok (.getfield 24, 3) := by decide +kernel
theorem dX3_isFitting_9 : decode cX3_isFitting 9 = .ok (.if_icmp .ge 62, 3) := by decide +kernel
theorem dX3_isFitting_12 : decode cX3_isFitting 12 = .ok (.aload_n 0, 1) := by decide +kernel
theorem dX3_isFitting_13 : decode cX3_isFitting 13 = .ok (.getfield 15, 3) := by decide +kernel
theorem dX3_isFitting_16 : decode cX3_isFitting 16 = .ok (.iload 4, 2) := by decide +kernel
theorem dX3_isFitting_18 : decode cX3_isFitting 18 = .ok (.invokestatic 36, 3) := by decide +kernel
theorem dX3_isFitting_21 : decode cX3_isFitting 21 = .ok (.iload_n 1, 1) := by decide +kernel
theorem dX3_isFitting_22 : decode cX3_isFitting 22 = .ok (.if_icmp .ne 7, 3) := by decide +kernel
theorem dX3_isFitting_25 : decode cX3_isFitting 25 = .ok (.iconst 1, 1) := by decide +kernel
theorem dX3_isFitting_26 : decode cX3_isFitting 26 = .ok (.goto 4, 3) := by decide +kernel
theorem dX3_isFitting_29 : decode cX3_isFitting 29 = .ok (.iconst 0, 1) := by decide +kernel
theorem dX3_isFitting_30 : decode cX3_isFitting 30 = .ok (.istore 5, 2) := by decide +kernel
theorem dX3_isFitting_32 : decode cX3_isFitting 32 = .ok (.iload 5, 2) := by decide +kernel
theorem dX3_isFitting_34 : decode cX3_isFitting 34 = .ok (.ifCond .eq 31, 3) := by decide +kernel
theorem dX3_isFitting_37 : decode cX3_isFitting 37 = .ok (.iload_n 3, 1) := by decide +kernel
theorem dX3_isFitting_38 : decode cX3_isFitting 38 = .ok (.iload_n 2, 1) := by decide +kernel
theorem dX3_isFitting_39 : decode cX3_isFitting 39 = .ok (.aload_n 0, 1) := by decide +kernel
theorem dX3_isFitting_40 : decode cX3_isFitting 40 = .ok (.getfield 11, 3) := by decide +kernel
theorem dX3_isFitting_43 : decode cX3_isFitting 43 = .ok (.iload 4, 2) := by decide +kernel
theorem dX3_isFitting_45 : decode cX3_isFitting 45 = .ok (.invokestatic 36, 3) := by decide +kernel
theorem dX3_isFitting_48 : decode cX3_isFitting 48 = .ok (.invokestatic 40, 3) := by decide +kernel
theorem dX3_isFitting_51 : decode cX3_isFitting 51 = .ok (.aload_n 0, 1) := by decide +kernel
theorem dX3_isFitting_52 : decode cX3_isFitting 52 = .ok (.getfield 18, 3) := by decide +kernel
theorem dX3_isFitting_55 : decode cX3_isFitting 55 = .ok (.iload 4, 2) := by decide +kernel
theorem dX3_isFitting_57 : decode cX3_isFitting 57 = .ok (.invokestatic 36, 3) := by decide +kernel
theorem dX3_isFitting_60 : decode cX3_isFitting 60 = .ok (.if_icmp .eq 5, 3) := by decide +kernel
theorem dX3_isFitting_63 : decode cX3_isFitting 63 = .ok (.iconst 0, 1) := by decide +kernel
theorem dX3_isFitting_64 : decode cX3_isFitting 64 = .ok (.ireturn, 1) := by decide +kernel
theorem dX3_isFitting_65 : decode cX3_isFitting 65 = .ok (.iinc 4 1, 3) := by decide +kernel
theorem dX3_isFitting_68 : decode cX3_isFitting 68 = .ok (.goto (-65), 3) := by decide +kernel
theorem dX3_isFitting_71 : decode cX3_isFitting 71 = .ok (.iconst 1, 1) := by decide +kernel
theorem dX3_isFitting_72 : decode cX3_isFitting 72 = .ok (.ireturn, 1) := by decide +kernel
theorem dX3_depthBy_0 : decode cX3_depthBy 0 = .ok (.iload_n 0, 1) := by decide +kernel
theorem dX3_depthBy_1 : decode cX3_depthBy 1 = .ok (.bipush 9, 2) := by decide +kernel
theorem dX3_depthBy_3 : decode cX3_depthBy 3 = .ok (.idiv, 1) := by decide +kernel
theorem dX3_depthBy_4 : decode cX3_depthBy 4 = .ok (.istore_n 3, 1) := by decide +kernel
theorem dX3_depthBy_5 : decode cX3_depthBy 5 = .ok (.iload_n 0, 1) := by decide +kernel
theorem dX3_depthBy_6 : decode cX3_depthBy 6 = .ok (.bipush 9, 2) := by decide +kernel
theorem dX3_depthBy_8 : decode cX3_depthBy 8 = .ok (.irem, 1) := by decide +kernel
theorem dX3_depthBy_9 : decode cX3_depthBy 9 = .ok (.iconst 1, 1) := by decide +kernel
theorem dX3_depthBy_10 : decode cX3_depthBy 10 = .ok (.iadd, 1) := by decide +kernel
theorem dX3_depthBy_11 : decode cX3_depthBy 11 = .ok (.istore 4, 2) := by decide +kernel
theorem dX3_depthBy_13 : decode cX3_depthBy 13 = .ok (.iload_n 3, 1) := by decide +kernel
theorem dX3_depthBy_14 : decode cX3_depthBy 14 = .ok (.iload_n 1, 1) := by decide +kernel
theorem dX3_depthBy_15 : decode cX3_depthBy 15 = .ok (.iload 4, 2) := by decide +kernel
theorem dX3_depthBy_17 : decode cX3_depthBy 17 = .ok (.iload_n 2, 1) := by decide +kernel
theorem dX3_depthBy_18 : decode cX3_depthBy 18 = .ok (.iconst 0, 1) := by decide +kernel
theorem dX3_depthBy_19 : decode cX3_depthBy 19 = .ok (.invokestatic 44, 3) := by decide +kernel
theorem dX3_depthBy_22 : decode cX3_depthBy 22 = .ok (.ireturn, 1) := by decide +kernel
theorem dX3_isAmong_0 : decode cX3_isAmong 0 = .ok (.lload_n 0, 1) := by decide +kernel
theorem dX3_isAmong_1 : decode cX3_isAmong 1 = .ok (.iload_n 2, 1) := by decide +kernel
theorem dX3_isAmong_2 : decode cX3_isAmong 2 = .ok (.lshr, 1) := by decide +kernel
theorem dX3_isAmong_3 : decode cX3_isAmong 3 = .ok (.lconst 1, 1) := by decide +kernel
theorem dX3_isAmong_4 : decode cX3_isAmong 4 = .ok (.land, 1) := by decide +kernel
theorem dX3_isAmong_5 : decode cX3_isAmong 5 = .ok (.lconst 1, 1) := by decide +kernel
theorem dX3_isAmong_6 : decode cX3_isAmong 6 = .ok (.lcmp, 1) := by decide +kernel
theorem dX3_isAmong_7 : decode cX3_isAmong 7 = .ok (.ifCond .ne 7, 3) := by decide +kernel
theorem dX3_isAmong_10 : decode cX3_isAmong 10 = .ok (.iconst 1, 1) := by decide +kernel
theorem dX3_isAmong_11 : decode cX3_isAmong 11 = .ok (.goto 4, 3) := by decide +kernel
theorem dX3_isAmong_14 : decode cX3_isAmong 14 = .ok (.iconst 0, 1) := by decide +kernel
theorem dX3_isAmong_15 : decode cX3_isAmong 15 = .ok (.ireturn, 1) := by decide +kernel
theorem dX3_lawAt_0 : decode cX3_lawAt 0 = .ok (.iconst 0, 1) := by decide +kernel
theorem dX3_lawAt_1 : decode cX3_lawAt 1 = .ok (.istore_n 3, 1) := by decide +kernel
theorem dX3_lawAt_2 : decode cX3_lawAt 2 = .ok (.iconst 0, 1) := by decide +kernel
theorem dX3_lawAt_3 : decode cX3_lawAt 3 = .ok (.istore 4, 2) := by decide +kernel
theorem dX3_lawAt_5 : decode cX3_lawAt 5 = .ok (.iload 4, 2) := by decide +kernel
theorem dX3_lawAt_7 : decode cX3_lawAt 7 = .ok (.bipush 36, 2) := by decide +kernel
theorem dX3_lawAt_9 : decode cX3_lawAt 9 = .ok (.if_icmp .ge 46, 3) := by decide +kernel
theorem dX3_lawAt_12 : decode cX3_lawAt 12 = .ok (.lload_n 0, 1) := by decide +kernel
theorem dX3_lawAt_13 : decode cX3_lawAt 13 = .ok (.iload 4, 2) := by decide +kernel
theorem dX3_lawAt_15 : decode cX3_lawAt 15 = .ok (.invokestatic 48, 3) := by decide +kernel
theorem dX3_lawAt_18 : decode cX3_lawAt 18 = .ok (.ifCond .ne 6, 3) := by decide +kernel
theorem dX3_lawAt_21 : decode cX3_lawAt 21 = .ok (.goto 28, 3) := by decide +kernel
theorem dX3_lawAt_24 : decode cX3_lawAt 24 = .ok (.iload_n 3, 1) := by decide +kernel
theorem dX3_lawAt_25 : decode cX3_lawAt 25 = .ok (.iload_n 2, 1) := by decide +kernel
theorem dX3_lawAt_26 : decode cX3_lawAt 26 = .ok (.if_icmp .ne 20, 3) := by decide +kernel
theorem dX3_lawAt_29 : decode cX3_lawAt 29 = .ok (.iload 4, 2) := by decide +kernel
theorem dX3_lawAt_31 : decode cX3_lawAt 31 = .ok (.bipush 9, 2) := by decide +kernel
theorem dX3_lawAt_33 : decode cX3_lawAt 33 = .ok (.idiv, 1) := by decide +kernel
theorem dX3_lawAt_34 : decode cX3_lawAt 34 = .ok (.bipush 10, 2) := by decide +kernel
theorem dX3_lawAt_36 : decode cX3_lawAt 36 = .ok (.imul, 1) := by decide +kernel
theorem dX3_lawAt_37 : decode cX3_lawAt 37 = .ok (.iload 4, 2) := by decide +kernel
theorem dX3_lawAt_39 : decode cX3_lawAt 39 = .ok (.bipush 9, 2) := by decide +kernel
theorem dX3_lawAt_41 : decode cX3_lawAt 41 = .ok (.irem, 1) := by decide +kernel
theorem dX3_lawAt_42 : decode cX3_lawAt 42 = .ok (.iadd, 1) := by decide +kernel
theorem dX3_lawAt_43 : decode cX3_lawAt 43 = .ok (.iconst 1, 1) := by decide +kernel
theorem dX3_lawAt_44 : decode cX3_lawAt 44 = .ok (.iadd, 1) := by decide +kernel
theorem dX3_lawAt_45 : decode cX3_lawAt 45 = .ok (.ireturn, 1) := by decide +kernel
theorem dX3_lawAt_46 : decode cX3_lawAt 46 = .ok (.iinc 3 1, 3) := by decide +kernel
theorem dX3_lawAt_49 : decode cX3_lawAt 49 = .ok (.iinc 4 1, 3) := by decide +kernel
theorem dX3_lawAt_52 : decode cX3_lawAt 52 = .ok (.goto (-47), 3) := by decide +kernel
theorem dX3_lawAt_55 : decode cX3_lawAt 55 = .ok (.iconst (-1), 1) := by decide +kernel
theorem dX3_lawAt_56 : decode cX3_lawAt 56 = .ok (.ireturn, 1) := by decide +kernel
theorem dX3_depthBits_0 : decode cX3_depthBits 0 = .ok (.iconst 0, 1) := by decide +kernel
theorem dX3_depthBits_1 : decode cX3_depthBits 1 = .ok (.istore 4, 2) := by decide +kernel
theorem dX3_depthBits_3 : decode cX3_depthBits 3 = .ok (.iconst 0, 1) := by decide +kernel
theorem dX3_depthBits_4 : decode cX3_depthBits 4 = .ok (.istore 5, 2) := by decide +kernel
theorem dX3_depthBits_6 : decode cX3_depthBits 6 = .ok (.iload 5, 2) := by decide +kernel
theorem dX3_depthBits_8 : decode cX3_depthBits 8 = .ok (.bipush 36, 2) := by decide +kernel
theorem dX3_depthBits_10 : decode cX3_depthBits 10 = .ok (.if_icmp .ge 32, 3) := by decide +kernel
theorem dX3_depthBits_13 : decode cX3_depthBits 13 = .ok (.lload_n 0, 1) := by decide +kernel
theorem dX3_depthBits_14 : decode cX3_depthBits 14 = .ok (.iload 5, 2) := by decide +kernel
theorem dX3_depthBits_16 : decode cX3_depthBits 16 = .ok (.invokestatic 48, 3) := by decide +kernel
theorem dX3_depthBits_19 : decode cX3_depthBits 19 = .ok (.ifCond .eq 17, 3) := by decide +kernel
theorem dX3_depthBits_22 : decode cX3_depthBits 22 = .ok (.iload 4, 2) := by decide +kernel
theorem dX3_depthBits_24 : decode cX3_depthBits 24 = .ok (.iconst 1, 1) := by decide +kernel
theorem dX3_depthBits_25 : decode cX3_depthBits 25 = .ok (.iload 5, 2) := by decide +kernel
theorem dX3_depthBits_27 : decode cX3_depthBits 27 = .ok (.iload_n 2, 1) := by decide +kernel
theorem dX3_depthBits_28 : decode cX3_depthBits 28 = .ok (.iload_n 3, 1) := by decide +kernel
theorem dX3_depthBits_29 : decode cX3_depthBits 29 = .ok (.invokestatic 40, 3) := by decide +kernel
theorem dX3_depthBits_32 : decode cX3_depthBits 32 = .ok (.ishl, 1) := by decide +kernel
theorem dX3_depthBits_33 : decode cX3_depthBits 33 = .ok (.ior, 1) := by decide +kernel
theorem dX3_depthBits_34 : decode cX3_depthBits 34 = .ok (.istore 4, 2) := by decide +kernel
theorem dX3_depthBits_36 : decode cX3_depthBits 36 = .ok (.iinc 5 1, 3) := by decide +kernel
theorem dX3_depthBits_39 : decode cX3_depthBits 39 = .ok (.goto (-33), 3) := by decide +kernel
theorem dX3_depthBits_42 : decode cX3_depthBits 42 = .ok (.iload 4, 2) := by decide +kernel
theorem dX3_depthBits_44 : decode cX3_depthBits 44 = .ok (.ireturn, 1) := by decide +kernel
theorem dX3_mostAlike_0 : decode cX3_mostAlike 0 = .ok (.iconst 0, 1) := by decide +kernel
theorem dX3_mostAlike_1 : decode cX3_mostAlike 1 = .ok (.istore 5, 2) := by decide +kernel
theorem dX3_mostAlike_3 : decode cX3_mostAlike 3 = .ok (.aload_n 0, 1) := by decide +kernel
theorem dX3_mostAlike_4 : decode cX3_mostAlike 4 = .ok (.getfield 21, 3) := by decide +kernel
theorem dX3_mostAlike_7 : decode cX3_mostAlike 7 = .ok (.iconst 0, 1) := by decide +kernel
theorem dX3_mostAlike_8 : decode cX3_mostAlike 8 = .ok (.invokestatic 52, 3) := by decide +kernel
theorem dX3_mostAlike_11 : decode cX3_mostAlike 11 = .ok (.iconst 0, 1) := by decide +kernel
theorem dX3_mostAlike_12 : decode cX3_mostAlike 12 = .ok (.istore 6, 2) := by decide +kernel
theorem dX3_mostAlike_14 : decode cX3_mostAlike 14 = .ok (.iload 6, 2) := by decide +kernel
theorem dX3_mostAlike_16 : decode cX3_mostAlike 16 = .ok (.bipush 36, 2) := by decide +kernel
theorem dX3_mostAlike_18 : decode cX3_mostAlike 18 = .ok (.if_icmp .ge 64, 3) := by decide +kernel
theorem dX3_mostAlike_21 : decode cX3_mostAlike 21 = .ok (.lload_n 1, 1) := by decide +kernel
theorem dX3_mostAlike_22 : decode cX3_mostAlike 22 = .ok (.iload 6, 2) := by decide +kernel
theorem dX3_mostAlike_24 : decode cX3_mostAlike 24 = .ok (.invokestatic 48, 3) := by decide +kernel
theorem dX3_mostAlike_27 : decode cX3_mostAlike 27 = .ok (.ifCond .ne 6, 3) := by decide +kernel
theorem dX3_mostAlike_30 : decode cX3_mostAlike 30 = .ok (.goto 46, 3) := by decide +kernel
theorem dX3_mostAlike_33 : decode cX3_mostAlike 33 = .ok (.iload 6, 2) := by decide +kernel
theorem dX3_mostAlike_35 : decode cX3_mostAlike 35 = .ok (.iload_n 3, 1) := by decide +kernel
theorem dX3_mostAlike_36 : decode cX3_mostAlike 36 = .ok (.iload 4, 2) := by decide +kernel
theorem dX3_mostAlike_38 : decode cX3_mostAlike 38 = .ok (.invokestatic 40, 3) := by decide +kernel
theorem dX3_mostAlike_41 : decode cX3_mostAlike 41 = .ok (.istore 7, 2) := by decide +kernel
theorem dX3_mostAlike_43 : decode cX3_mostAlike 43 = .ok (.aload_n 0, 1) := by decide +kernel
theorem dX3_mostAlike_44 : decode cX3_mostAlike 44 = .ok (.getfield 21, 3) := by decide +kernel
theorem dX3_mostAlike_47 : decode cX3_mostAlike 47 = .ok (.iload 7, 2) := by decide +kernel
theorem dX3_mostAlike_49 : decode cX3_mostAlike 49 = .ok (.invokestatic 36, 3) := by decide +kernel
theorem dX3_mostAlike_52 : decode cX3_mostAlike 52 = .ok (.iconst 1, 1) := by decide +kernel
theorem dX3_mostAlike_53 : decode cX3_mostAlike 53 = .ok (.iadd, 1) := by decide +kernel
theorem dX3_mostAlike_54 : decode cX3_mostAlike 54 = .ok (.istore 8, 2) := by decide +kernel
theorem dX3_mostAlike_56 : decode cX3_mostAlike 56 = .ok (.aload_n 0, 1) := by decide +kernel
theorem dX3_mostAlike_57 : decode cX3_mostAlike 57 = .ok (.getfield 21, 3) := by decide +kernel
theorem dX3_mostAlike_60 : decode cX3_mostAlike 60 = .ok (.iload 7, 2) := by decide +kernel
theorem dX3_mostAlike_62 : decode cX3_mostAlike 62 = .ok (.iload 8, 2) := by decide +kernel
theorem dX3_mostAlike_64 : decode cX3_mostAlike 64 = .ok (.invokestatic 28, 3) := by decide +kernel
theorem dX3_mostAlike_67 : decode cX3_mostAlike 67 = .ok (.iload 5, 2) := by decide +kernel
theorem dX3_mostAlike_69 : decode cX3_mostAlike 69 = .ok (.iload 8, 2) := by decide +kernel
theorem dX3_mostAlike_71 : decode cX3_mostAlike 71 = .ok (.invokestatic 58, 3) := by decide +kernel
theorem dX3_mostAlike_74 : decode cX3_mostAlike 74 = .ok (.istore 5, 2) := by decide +kernel
theorem dX3_mostAlike_76 : decode cX3_mostAlike 76 = .ok (.iinc 6 1, 3) := by decide +kernel
theorem dX3_mostAlike_79 : decode cX3_mostAlike 79 = .ok (.goto (-65), 3) := by decide +kernel
theorem dX3_mostAlike_82 : decode cX3_mostAlike 82 = .ok (.iload 5, 2) := by decide +kernel
theorem dX3_mostAlike_84 : decode cX3_mostAlike 84 = .ok (.ireturn, 1) := by decide +kernel
theorem dX4_init_0 : decode cX4_init 0 = .ok (.aload_n 0, 1) := by decide +kernel
theorem dX4_init_1 : decode cX4_init 1 = .ok (.invokespecial 1, 3) := by decide +kernel
theorem dX4_init_4 : decode cX4_init 4 = .ok (.aload_n 0, 1) := by decide +kernel
theorem dX4_init_5 : decode cX4_init 5 = .ok (.new 7, 3) := by decide +kernel
theorem dX4_init_8 : decode cX4_init 8 = .ok (.dup, 1) := by decide +kernel
theorem dX4_init_9 : decode cX4_init 9 = .ok (.invokespecial 9, 3) := by decide +kernel
theorem dX4_init_12 : decode cX4_init 12 = .ok (.putfield 10, 3) := by decide +kernel
theorem dX4_init_15 : decode cX4_init 15 = .ok (.aload_n 0, 1) := by decide +kernel
theorem dX4_init_16 : decode cX4_init 16 = .ok (.new 16, 3) := by decide +kernel
theorem dX4_init_19 : decode cX4_init 19 = .ok (.dup, 1) := by decide +kernel
theorem dX4_init_20 : decode cX4_init 20 = .ok (.invokespecial 18, 3) := by decide +kernel
theorem dX4_init_23 : decode cX4_init 23 = .ok (.putfield 19, 3) := by decide +kernel
theorem dX4_init_26 : decode cX4_init 26 = .ok (.aload_n 0, 1) := by decide +kernel
theorem dX4_init_27 : decode cX4_init 27 = .ok (.new 23, 3) := by decide +kernel
theorem dX4_init_30 : decode cX4_init 30 = .ok (.dup, 1) := by decide +kernel
theorem dX4_init_31 : decode cX4_init 31 = .ok (.invokespecial 25, 3) := by decide +kernel
theorem dX4_init_34 : decode cX4_init 34 = .ok (.putfield 26, 3) := by decide +kernel
theorem dX4_init_37 : decode cX4_init 37 = .ok (.aload_n 0, 1) := by decide +kernel
theorem dX4_init_38 : decode cX4_init 38 = .ok (.iconst 4, 1) := by decide +kernel
theorem dX4_init_39 : decode cX4_init 39 = .ok (.anewarray 30, 3) := by decide +kernel
theorem dX4_init_42 : decode cX4_init 42 = .ok (.putfield 32, 3) := by decide +kernel
theorem dX4_init_45 : decode cX4_init 45 = .ok (.iconst 0, 1) := by decide +kernel
theorem dX4_init_46 : decode cX4_init 46 = .ok (.istore_n 1, 1) := by decide +kernel
theorem dX4_init_47 : decode cX4_init 47 = .ok (.iload_n 1, 1) := by decide +kernel
theorem dX4_init_48 : decode cX4_init 48 = .ok (.aload_n 0, 1) := by decide +kernel
theorem dX4_init_49 : decode cX4_init 49 = .ok (.getfield 32, 3) := by decide +kernel
theorem dX4_init_52 : decode cX4_init 52 = .ok (.arraylength, 1) := by decide +kernel
theorem dX4_init_53 : decode cX4_init 53 = .ok (.if_icmp .ge 22, 3) := by decide +kernel
theorem dX4_init_56 : decode cX4_init 56 = .ok (.aload_n 0, 1) := by decide +kernel
theorem dX4_init_57 : decode cX4_init 57 = .ok (.getfield 32, 3) := by decide +kernel
theorem dX4_init_60 : decode cX4_init 60 = .ok (.iload_n 1, 1) := by decide +kernel
theorem dX4_init_61 : decode cX4_init 61 = .ok (.new 30, 3) := by decide +kernel
theorem dX4_init_64 : decode cX4_init 64 = .ok (.dup, 1) := by decide +kernel
theorem dX4_init_65 : decode cX4_init 65 = .ok (.invokespecial 36, 3) := by decide +kernel
theorem dX4_init_68 : decode cX4_init 68 = .ok (.aastore, 1) := by decide +kernel
theorem dX4_init_69 : decode cX4_init 69 = .ok (.iinc 1 1, 3) := by decide +kernel
theorem dX4_init_72 : decode cX4_init 72 = .ok (.goto (-25), 3) := by decide +kernel
theorem dX4_init_75 : decode cX4_init 75 = .ok (.aload_n 0, 1) := by decide +kernel
theorem dX4_init_76 : decode cX4_init 76 = .ok (.bipush 16, 2) := by decide +kernel
theorem dX4_init_78 : decode cX4_init 78 = .ok (.newarray .int, 2) := by decide +kernel
theorem dX4_init_80 : decode cX4_init 80 = .ok (.putfield 37, 3) := by decide +kernel
theorem dX4_init_83 : decode cX4_init 83 = .ok (.aload_n 0, 1) := by decide +kernel
theorem dX4_init_84 : decode cX4_init 84 = .ok (.bipush 16, 2) := by decide +kernel
theorem dX4_init_86 : decode cX4_init 86 = .ok (.newarray .int, 2) := by decide +kernel
theorem dX4_init_88 : decode cX4_init 88 = .ok (.putfield 41, 3) := by decide +kernel
theorem dX4_init_91 : decode cX4_init 91 = .ok (.aload_n 0, 1) := by decide +kernel
theorem dX4_init_92 : decode cX4_init 92 = .ok (.iconst 4, 1) := by decide +kernel
theorem dX4_init_93 : decode cX4_init 93 = .ok (.putfield 44, 3) := by decide +kernel
theorem dX4_init_96 : decode cX4_init 96 = .ok (.aload_n 0, 1) := by decide +kernel
theorem dX4_init_97 : decode cX4_init 97 = .ok (.iconst 0, 1) := by decide +kernel
theorem dX4_init_98 : decode cX4_init 98 = .ok (.putfield 48, 3) := by decide +kernel
theorem dX4_init_101 : decode cX4_init 101 = .ok (.return_, 1) := by decide +kernel
theorem dX4_type_0 : decode cX4_type 0 = .ok (.iload_n 1, 1) := by decide +kernel
theorem dX4_type_1 : decode cX4_type 1 = .ok (.ifCond .lt 10, 3) := by decide +kernel
theorem dX4_type_4 : decode cX4_type 4 = .ok (.iload_n 1, 1) := by decide +kernel
theorem dX4_type_5 : decode cX4_type 5 = .ok (.sipush 255, 3) := by decide +kernel
theorem dX4_type_8 : decode cX4_type 8 = .ok (.if_icmp .le 6, 3) := by decide +kernel
theorem dX4_type_11 : decode cX4_type 11 = .ok (.bipush (-2), 2) := by decide +kernel
theorem dX4_type_13 : decode cX4_type 13 = .ok (.ireturn, 1) := by decide +kernel
theorem dX4_type_14 : decode cX4_type 14 = .ok (.aload_n 0, 1) := by decide +kernel
theorem dX4_type_15 : decode cX4_type 15 = .ok (.getfield 10, 3) := by decide +kernel
theorem dX4_type_18 : decode cX4_type 18 = .ok (.iload_n 1, 1) := by decide +kernel
theorem dX4_type_19 : decode cX4_type 19 = .ok (.invokevirtual 51, 3) := by decide +kernel
theorem dX4_type_22 : decode cX4_type 22 = .ok (.ifCond .ne 6, 3) := by decide +kernel
theorem dX4_type_25 : decode cX4_type 25 = .ok (.bipush (-4), 2) := by decide +kernel
theorem dX4_type_27 : decode cX4_type 27 = .ok (.ireturn, 1) := by decide +kernel
theorem dX4_type_28 : decode cX4_type 28 = .ok (.aload_n 0, 1) := by decide +kernel
theorem dX4_type_29 : decode cX4_type 29 = .ok (.getfield 10, 3) := by decide +kernel
theorem dX4_type_32 : decode cX4_type 32 = .ok (.getfield 55, 3) := by decide +kernel
theorem dX4_type_35 : decode cX4_type 35 = .ok (.ireturn, 1) := by decide +kernel
theorem dX4_wipe_0 : decode cX4_wipe 0 = .ok (.aload_n 0, 1) := by decide +kernel
theorem dX4_wipe_1 : decode cX4_wipe 1 = .ok (.getfield 10, 3) := by decide +kernel
theorem dX4_wipe_4 : decode cX4_wipe 4 = .ok (.getfield 55, 3) := by decide +kernel
theorem dX4_wipe_7 : decode cX4_wipe 7 = .ok (.istore_n 1, 1) := by decide +kernel
theorem dX4_wipe_8 : decode cX4_wipe 8 = .ok (.aload_n 0, 1) := by decide +kernel
theorem dX4_wipe_9 : decode cX4_wipe 9 = .ok (.getfield 10, 3) := by decide +kernel
theorem dX4_wipe_12 : decode cX4_wipe 12 = .ok (.iconst 0, 1) := by decide +kernel
theorem dX4_wipe_13 : decode cX4_wipe 13 = .ok (.invokevirtual 58, 3) := by decide +kernel
theorem dX4_wipe_16 : decode cX4_wipe 16 = .ok (.iload_n 1, 1) := by decide +kernel
theorem dX4_wipe_17 : decode cX4_wipe 17 = .ok (.ireturn, 1) := by decide +kernel
theorem dX4_undo_0 : decode cX4_undo 0 = .ok (.aload_n 0, 1) := by decide +kernel
theorem dX4_undo_1 : decode cX4_undo 1 = .ok (.getfield 10, 3) := by decide +kernel
theorem dX4_undo_4 : decode cX4_undo 4 = .ok (.getfield 62, 3) := by decide +kernel
theorem dX4_undo_7 : decode cX4_undo 7 = .ok (.ifCond .ne 6, 3) := by decide +kernel
theorem dX4_undo_10 : decode cX4_undo 10 = .ok (.bipush (-3), 2) := by decide +kernel
theorem dX4_undo_12 : decode cX4_undo 12 = .ok (.ireturn, 1) := by decide +kernel
theorem dX4_undo_13 : decode cX4_undo 13 = .ok (.aload_n 0, 1) := by decide +kernel
theorem dX4_undo_14 : decode cX4_undo 14 = .ok (.getfield 10, 3) := by decide +kernel
theorem dX4_undo_17 : decode cX4_undo 17 = .ok (.invokevirtual 65, 3) := by decide +kernel
theorem dX4_undo_20 : decode cX4_undo 20 = .ok (.aload_n 0, 1) := by decide +kernel
theorem dX4_undo_21 : decode cX4_undo 21 = .ok (.getfield 10, 3) := by decide +kernel
theorem dX4_undo_24 : decode cX4_undo 24 = .ok (.getfield 62, 3) := by decide +kernel
theorem dX4_undo_27 : decode cX4_undo 27 = .ok (.ireturn, 1) := by decide +kernel
theorem dX4_fault_0 : decode cX4_fault 0 = .ok (.aload_n 0, 1) := by decide +kernel
theorem dX4_fault_1 : decode cX4_fault 1 = .ok (.getfield 10, 3) := by decide +kernel
theorem dX4_fault_4 : decode cX4_fault 4 = .ok (.getfield 68, 3) := by decide +kernel
theorem dX4_fault_7 : decode cX4_fault 7 = .ok (.ireturn, 1) := by decide +kernel
theorem dX4_channel_0 : decode cX4_channel 0 = .ok (.aload_n 0, 1) := by decide +kernel
theorem dX4_channel_1 : decode cX4_channel 1 = .ok (.getfield 10, 3) := by decide +kernel
theorem dX4_channel_4 : decode cX4_channel 4 = .ok (.iload_n 1, 1) := by decide +kernel
theorem dX4_channel_5 : decode cX4_channel 5 = .ok (.iload_n 2, 1) := by decide +kernel
theorem dX4_channel_6 : decode cX4_channel 6 = .ok (.invokevirtual 71, 3) := by decide +kernel
theorem dX4_channel_9 : decode cX4_channel 9 = .ok (.ireturn, 1) := by decide +kernel
theorem dX4_storm_0 : decode cX4_storm 0 = .ok (.iload_n 1, 1) := by decide +kernel
theorem dX4_storm_1 : decode cX4_storm 1 = .ok (.invokestatic 75, 3) := by decide +kernel
theorem dX4_storm_4 : decode cX4_storm 4 = .ok (.ifCond .ne 6, 3) := by decide +kernel
theorem dX4_storm_7 : decode cX4_storm 7 = .ok (.bipush (-2), 2) := by decide +kernel
theorem dX4_storm_9 : decode cX4_storm 9 = .ok (.ireturn, 1) := by decide +kernel
theorem dX4_storm_10 : decode cX4_storm 10 = .ok (.aload_n 0, 1) := by decide +kernel
theorem dX4_storm_11 : decode cX4_storm 11 = .ok (.getfield 10, 3) := by decide +kernel
theorem dX4_storm_14 : decode cX4_storm 14 = .ok (.iload_n 1, 1) := by decide +kernel
theorem dX4_storm_15 : decode cX4_storm 15 = .ok (.invokevirtual 78, 3) := by decide +kernel
theorem dX4_storm_18 : decode cX4_storm 18 = .ok (.ifCond .ne 6, 3) := by decide +kernel
theorem dX4_storm_21 : decode cX4_storm 21 = .ok (.bipush (-4), 2) := by decide +kernel
theorem dX4_storm_23 : decode cX4_storm 23 = .ok (.ireturn, 1) := by decide +kernel
theorem dX4_storm_24 : decode cX4_storm 24 = .ok (.aload_n 0, 1) := by decide +kernel
theorem dX4_storm_25 : decode cX4_storm 25 = .ok (.getfield 10, 3) := by decide +kernel
theorem dX4_storm_28 : decode cX4_storm 28 = .ok (.getfield 81, 3) := by decide +kernel
theorem dX4_storm_31 : decode cX4_storm 31 = .ok (.ireturn, 1) := by decide +kernel
theorem dX4_calm_0 : decode cX4_calm 0 = .ok (.aload_n 0, 1) := by decide +kernel
theorem dX4_calm_1 : decode cX4_calm 1 = .ok (.getfield 10, 3) := by decide +kernel
theorem dX4_calm_4 : decode cX4_calm 4 = .ok (.invokevirtual 84, 3) := by decide +kernel
theorem dX4_calm_7 : decode cX4_calm 7 = .ok (.ifCond .ne 6, 3) := by decide +kernel
theorem dX4_calm_10 : decode cX4_calm 10 = .ok (.bipush (-3), 2) := by decide +kernel
theorem dX4_calm_12 : decode cX4_calm 12 = .ok (.ireturn, 1) := by decide +kernel
theorem dX4_calm_13 : decode cX4_calm 13 = .ok (.aload_n 0, 1) := by decide +kernel
theorem dX4_calm_14 : decode cX4_calm 14 = .ok (.getfield 10, 3) := by decide +kernel
theorem dX4_calm_17 : decode cX4_calm 17 = .ok (.getfield 81, 3) := by decide +kernel
theorem dX4_calm_20 : decode cX4_calm 20 = .ok (.ireturn, 1) := by decide +kernel
theorem dX4_odds_0 : decode cX4_odds 0 = .ok (.iload_n 1, 1) := by decide +kernel
theorem dX4_odds_1 : decode cX4_odds 1 = .ok (.ifCond .lt 9, 3) := by decide +kernel
theorem dX4_odds_4 : decode cX4_odds 4 = .ok (.iload_n 1, 1) := by decide +kernel
theorem dX4_odds_5 : decode cX4_odds 5 = .ok (.bipush 16, 2) := by decide +kernel
theorem dX4_odds_7 : decode cX4_odds 7 = .ok (.if_icmp .le 6, 3) := by decide +kernel
theorem dX4_odds_10 : decode cX4_odds 10 = .ok (.bipush (-2), 2) := by decide +kernel
theorem dX4_odds_12 : decode cX4_odds 12 = .ok (.ireturn, 1) := by decide +kernel
theorem dX4_odds_13 : decode cX4_odds 13 = .ok (.aload_n 0, 1) := by decide +kernel
theorem dX4_odds_14 : decode cX4_odds 14 = .ok (.getfield 44, 3) := by decide +kernel
theorem dX4_odds_17 : decode cX4_odds 17 = .ok (.istore_n 2, 1) := by decide +kernel
theorem dX4_odds_18 : decode cX4_odds 18 = .ok (.aload_n 0, 1) := by decide +kernel
theorem dX4_odds_19 : decode cX4_odds 19 = .ok (.iload_n 1, 1) := by decide +kernel
theorem dX4_odds_20 : decode cX4_odds 20 = .ok (.putfield 44, 3) := by decide +kernel
theorem dX4_odds_23 : decode cX4_odds 23 = .ok (.iload_n 2, 1) := by decide +kernel
theorem dX4_odds_24 : decode cX4_odds 24 = .ok (.ireturn, 1) := by decide +kernel
theorem dX4_deep_0 : decode cX4_deep 0 = .ok (.aload_n 0, 1) := by decide +kernel
theorem dX4_deep_1 : decode cX4_deep 1 = .ok (.getfield 10, 3) := by decide +kernel
theorem dX4_deep_4 : decode cX4_deep 4 = .ok (.iload_n 1, 1) := by decide +kernel
theorem dX4_deep_5 : decode cX4_deep 5 = .ok (.invokevirtual 88, 3) := by decide +kernel
theorem dX4_deep_8 : decode cX4_deep 8 = .ok (.ifCond .eq 10, 3) := by decide +kernel
theorem dX4_deep_11 : decode cX4_deep 11 = .ok (.iload_n 2, 1) := by decide +kernel
theorem dX4_deep_12 : decode cX4_deep 12 = .ok (.invokestatic 75, 3) := by decide +kernel
theorem dX4_deep_15 : decode cX4_deep 15 = .ok (.ifCond .ne 6, 3) := by decide +kernel
theorem dX4_deep_18 : decode cX4_deep 18 = .ok (.bipush (-2), 2) := by decide +kernel
theorem dX4_deep_20 : decode cX4_deep 20 = .ok (.ireturn, 1) := by decide +kernel
theorem dX4_deep_21 : decode cX4_deep 21 = .ok (.aload_n 0, 1) := by decide +kernel
theorem dX4_deep_22 : decode cX4_deep 22 = .ok (.getfield 10, 3) := by decide +kernel
theorem dX4_deep_25 : decode cX4_deep 25 = .ok (.iload_n 1, 1) := by decide +kernel
theorem dX4_deep_26 : decode cX4_deep 26 = .ok (.iload_n 2, 1) := by decide +kernel
theorem dX4_deep_27 : decode cX4_deep 27 = .ok (.aload_n 0, 1) := by decide +kernel
theorem dX4_deep_28 : decode cX4_deep 28 = .ok (.getfield 10, 3) := by decide +kernel
theorem dX4_deep_31 : decode cX4_deep 31 = .ok (.iload_n 2, 1) := by decide +kernel
theorem dX4_deep_32 : decode cX4_deep 32 = .ok (.invokevirtual 91, 3) := by decide +kernel
theorem dX4_deep_35 : decode cX4_deep 35 = .ok (.invokevirtual 94, 3) := by decide +kernel
theorem dX4_deep_38 : decode cX4_deep 38 = .ok (.ireturn, 1) := by decide +kernel
theorem dX4_map_0 : decode cX4_map 0 = .ok (.iload_n 2, 1) := by decide +kernel
theorem dX4_map_1 : decode cX4_map 1 = .ok (.invokestatic 75, 3) := by decide +kernel
theorem dX4_map_4 : decode cX4_map 4 = .ok (.ifCond .ne 6, 3) := by decide +kernel
theorem dX4_map_7 : decode cX4_map 7 = .ok (.bipush (-2), 2) := by decide +kernel
theorem dX4_map_9 : decode cX4_map 9 = .ok (.ireturn, 1) := by decide +kernel
theorem dX4_map_10 : decode cX4_map 10 = .ok (.aload_n 0, 1) := by decide +kernel
theorem dX4_map_11 : decode cX4_map 11 = .ok (.iload_n 1, 1) := by decide +kernel
theorem dX4_map_12 : decode cX4_map 12 = .ok (.iload_n 2, 1) := by decide +kernel
theorem dX4_map_13 : decode cX4_map 13 = .ok (.invokestatic 98, 3) := by decide +kernel
theorem dX4_map_16 : decode cX4_map 16 = .ok (.invokevirtual 102, 3) := by decide +kernel
theorem dX4_map_19 : decode cX4_map 19 = .ok (.ireturn, 1) := by decide +kernel
theorem dX4_ways_0 : decode cX4_ways 0 = .ok (.iload_n 1, 1) := by decide +kernel
theorem dX4_ways_1 : decode cX4_ways 1 = .ok (.iload_n 2, 1) := by decide +kernel
theorem dX4_ways_2 : decode cX4_ways 2 = .ok (.invokestatic 105, 3) := by decide +kernel
theorem dX4_ways_5 : decode cX4_ways 5 = .ok (.ifCond .eq 13, 3) := by decide +kernel
theorem dX4_ways_8 : decode cX4_ways 8 = .ok (.iload_n 3, 1) := by decide +kernel
theorem dX4_ways_9 : decode cX4_ways 9 = .ok (.iconst (-1), 1) := by decide +kernel
theorem dX4_ways_10 : decode cX4_ways 10 = .ok (.if_icmp .lt 8, 3) := by decide +kernel
theorem dX4_ways_13 : decode cX4_ways 13 = .ok (.iload_n 3, 1) := by decide +kernel
theorem dX4_ways_14 : decode cX4_ways 14 = .ok (.iconst 5, 1) := by decide +kernel
theorem dX4_ways_15 : decode cX4_ways 15 = .ok (.if_icmp .lt 6, 3) := by decide +kernel
theorem dX4_ways_18 : decode cX4_ways 18 = .ok (.bipush (-2), 2) := by decide +kernel
theorem dX4_ways_20 : decode cX4_ways 20 = .ok (.ireturn, 1) := by decide +kernel
theorem dX4_ways_21 : decode cX4_ways 21 = .ok (.aload_n 0, 1) := by decide +kernel
theorem dX4_ways_22 : decode cX4_ways 22 = .ok (.getfield 10, 3) := by decide +kernel
theorem dX4_ways_25 : decode cX4_ways 25 = .ok (.aload_n 0, 1) := by decide +kernel
theorem dX4_ways_26 : decode cX4_ways 26 = .ok (.getfield 37, 3) := by decide +kernel
theorem dX4_ways_29 : decode cX4_ways 29 = .ok (.iload_n 2, 1) := by decide +kernel
theorem dX4_ways_30 : decode cX4_ways 30 = .ok (.aload_n 0, 1) := by decide +kernel
theorem dX4_ways_31 : decode cX4_ways 31 = .ok (.getfield 10, 3) := by decide +kernel
theorem dX4_ways_34 : decode cX4_ways 34 = .ok (.iload_n 2, 1) := by decide +kernel
theorem dX4_ways_35 : decode cX4_ways 35 = .ok (.invokevirtual 91, 3) := by decide +kernel
theorem dX4_ways_38 : decode cX4_ways 38 = .ok (.invokevirtual 109, 3) := by decide +kernel
theorem dX4_ways_41 : decode cX4_ways 41 = .ok (.iload_n 3, 1) := by decide +kernel
theorem dX4_ways_42 : decode cX4_ways 42 = .ok (.iconst (-1), 1) := by decide +kernel
theorem dX4_ways_43 : decode cX4_ways 43 = .ok (.if_icmp .ne 20, 3) := by decide +kernel
theorem dX4_ways_46 : decode cX4_ways 46 = .ok (.aload_n 0, 1) := by decide +kernel
theorem dX4_ways_47 : decode cX4_ways 47 = .ok (.getfield 26, 3) := by decide +kernel
theorem dX4_ways_50 : decode cX4_ways 50 = .ok (.aload_n 0, 1) := by decide +kernel
theorem dX4_ways_51 : decode cX4_ways 51 = .ok (.getfield 10, 3) := by decide +kernel
theorem dX4_ways_54 : decode cX4_ways 54 = .ok (.aload_n 0, 1) := by decide +kernel
theorem dX4_ways_55 : decode cX4_ways 55 = .ok (.getfield 37, 3) := by decide +kernel
theorem dX4_ways_58 : decode cX4_ways 58 = .ok (.iload_n 1, 1) := by decide +kernel
theorem dX4_ways_59 : decode cX4_ways 59 = .ok (.invokevirtual 113, 3) := by decide +kernel
theorem dX4_ways_62 : decode cX4_ways 62 = .ok (.ireturn, 1) := by decide +kernel
theorem dX4_ways_63 : decode cX4_ways 63 = .ok (.aload_n 0, 1) := by decide +kernel
theorem dX4_ways_64 : decode cX4_ways 64 = .ok (.getfield 26, 3) := by decide +kernel
theorem dX4_ways_67 : decode cX4_ways 67 = .ok (.aload_n 0, 1) := by decide +kernel
theorem dX4_ways_68 : decode cX4_ways 68 = .ok (.getfield 10, 3) := by decide +kernel
theorem dX4_ways_71 : decode cX4_ways 71 = .ok (.aload_n 0, 1) := by decide +kernel
theorem dX4_ways_72 : decode cX4_ways 72 = .ok (.getfield 37, 3) := by decide +kernel
theorem dX4_ways_75 : decode cX4_ways 75 = .ok (.iload_n 1, 1) := by decide +kernel
theorem dX4_ways_76 : decode cX4_ways 76 = .ok (.invokevirtual 117, 3) := by decide +kernel
theorem dX4_ways_79 : decode cX4_ways 79 = .ok (.pop, 1) := by decide +kernel
theorem dX4_ways_80 : decode cX4_ways 80 = .ok (.aload_n 0, 1) := by decide +kernel
theorem dX4_ways_81 : decode cX4_ways 81 = .ok (.getfield 26, 3) := by decide +kernel
theorem dX4_ways_84 : decode cX4_ways 84 = .ok (.iload_n 3, 1) := by decide +kernel
theorem dX4_ways_85 : decode cX4_ways 85 = .ok (.invokevirtual 121, 3) := by decide +kernel
theorem dX4_ways_88 : decode cX4_ways 88 = .ok (.ireturn, 1) := by decide +kernel
theorem dX4_draft_0 : decode cX4_draft 0 = .ok (.iload_n 1, 1) := by decide +kernel
theorem dX4_draft_1 : decode cX4_draft 1 = .ok (.invokestatic 75, 3) := by decide +kernel
theorem dX4_draft_4 : decode cX4_draft 4 = .ok (.ifCond .ne 6, 3) := by decide +kernel
theorem dX4_draft_7 : decode cX4_draft 7 = .ok (.bipush (-2), 2) := by decide +kernel
theorem dX4_draft_9 : decode cX4_draft 9 = .ok (.ireturn, 1) := by decide +kernel
theorem dX4_draft_10 : decode cX4_draft 10 = .ok (.aload_n 0, 1) := by decide +kernel
theorem dX4_draft_11 : decode cX4_draft 11 = .ok (.getfield 10, 3) := by decide +kernel
theorem dX4_draft_14 : decode cX4_draft 14 = .ok (.aload_n 0, 1) := by decide +kernel
theorem dX4_draft_15 : decode cX4_draft 15 = .ok (.getfield 37, 3) := by decide +kernel
theorem dX4_draft_18 : decode cX4_draft 18 = .ok (.iload_n 1, 1) := by decide +kernel
theorem dX4_draft_19 : decode cX4_draft 19 = .ok (.aload_n 0, 1) := by decide +kernel
theorem dX4_draft_20 : decode cX4_draft 20 = .ok (.getfield 10, 3) := by decide +kernel
theorem dX4_draft_23 : decode cX4_draft 23 = .ok (.iload_n 1, 1) := by decide +kernel
theorem dX4_draft_24 : decode cX4_draft 24 = .ok (.invokevirtual 91, 3) := by decide +kernel
theorem dX4_draft_27 : decode cX4_draft 27 = .ok (.invokevirtual 109, 3) := by decide +kernel
theorem dX4_draft_30 : decode cX4_draft 30 = .ok (.bipush 9, 2) := by decide +kernel
theorem dX4_draft_32 : decode cX4_draft 32 = .ok (.istore_n 2, 1) := by decide +kernel
theorem dX4_draft_33 : decode cX4_draft 33 = .ok (.iload_n 2, 1) := by decide +kernel
theorem dX4_draft_34 : decode cX4_draft 34 = .ok (.ifCond .le 30, 3) := by decide +kernel
theorem dX4_draft_37 : decode cX4_draft 37 = .ok (.aload_n 0, 1) := by decide +kernel
theorem dX4_draft_38 : decode cX4_draft 38 = .ok (.getfield 26, 3) := by decide +kernel
theorem dX4_draft_41 : decode cX4_draft 41 = .ok (.aload_n 0, 1) := by decide +kernel
theorem dX4_draft_42 : decode cX4_draft 42 = .ok (.getfield 10, 3) := by decide +kernel
theorem dX4_draft_45 : decode cX4_draft 45 = .ok (.aload_n 0, 1) := by decide +kernel
theorem dX4_draft_46 : decode cX4_draft 46 = .ok (.getfield 37, 3) := by decide +kernel
theorem dX4_draft_49 : decode cX4_draft 49 = .ok (.iload_n 2, 1) := by decide +kernel
theorem dX4_draft_50 : decode cX4_draft 50 = .ok (.invokevirtual 117, 3) := by decide +kernel
theorem dX4_draft_53 : decode cX4_draft 53 = .ok (.ifCond .eq 5, 3) := by decide +kernel
theorem dX4_draft_56 : decode cX4_draft 56 = .ok (.iload_n 2, 1) := by decide +kernel
theorem dX4_draft_57 : decode cX4_draft 57 = .ok (.ireturn, 1) := by decide +kernel
theorem dX4_draft_58 : decode cX4_draft 58 = .ok (.iinc 2 (-1), 3) := by decide +kernel
theorem dX4_draft_61 : decode cX4_draft 61 = .ok (.goto (-28), 3) := by decide +kernel
theorem dX4_draft_64 : decode cX4_draft 64 = .ok (.iconst (-1), 1) := by decide +kernel
theorem dX4_draft_65 : decode cX4_draft 65 = .ok (.ireturn, 1) := by decide +kernel
theorem dX4_waits_0 : decode cX4_waits 0 = .ok (.iload_n 1, 1) := by decide +kernel
theorem dX4_waits_1 : decode cX4_waits 1 = .ok (.iload_n 2, 1) := by decide +kernel
theorem dX4_waits_2 : decode cX4_waits 2 = .ok (.invokestatic 105, 3) := by decide +kernel
theorem dX4_waits_5 : decode cX4_waits 5 = .ok (.ifCond .ne 6, 3) := by decide +kernel
theorem dX4_waits_8 : decode cX4_waits 8 = .ok (.bipush (-2), 2) := by decide +kernel
theorem dX4_waits_10 : decode cX4_waits 10 = .ok (.ireturn, 1) := by decide +kernel
theorem dX4_waits_11 : decode cX4_waits 11 = .ok (.iload_n 2, 1) := by decide +kernel
theorem dX4_waits_12 : decode cX4_waits 12 = .ok (.istore_n 3, 1) := by decide +kernel
theorem dX4_waits_13 : decode cX4_waits 13 = .ok (.iload_n 3, 1) := by decide +kernel
theorem dX4_waits_14 : decode cX4_waits 14 = .ok (.bipush 99, 2) := by decide +kernel
theorem dX4_waits_16 : decode cX4_waits 16 = .ok (.if_icmp .gt 28, 3) := by decide +kernel
theorem dX4_waits_19 : decode cX4_waits 19 = .ok (.aload_n 0, 1) := by decide +kernel
theorem dX4_waits_20 : decode cX4_waits 20 = .ok (.iload_n 1, 1) := by decide +kernel
theorem dX4_waits_21 : decode cX4_waits 21 = .ok (.iload_n 3, 1) := by decide +kernel
theorem dX4_waits_22 : decode cX4_waits 22 = .ok (.aload_n 0, 1) := by decide +kernel
theorem dX4_waits_23 : decode cX4_waits 23 = .ok (.getfield 10, 3) := by decide +kernel
theorem dX4_waits_26 : decode cX4_waits 26 = .ok (.iload_n 3, 1) := by decide +kernel
theorem dX4_waits_27 : decode cX4_waits 27 = .ok (.invokevirtual 91, 3) := by decide +kernel
theorem dX4_waits_30 : decode cX4_waits 30 = .ok (.invokevirtual 124, 3) := by decide +kernel
theorem dX4_waits_33 : decode cX4_waits 33 = .ok (.ifCond .eq 5, 3) := by decide +kernel
theorem dX4_waits_36 : decode cX4_waits 36 = .ok (.iload_n 3, 1) := by decide +kernel
theorem dX4_waits_37 : decode cX4_waits 37 = .ok (.ireturn, 1) := by decide +kernel
theorem dX4_waits_38 : decode cX4_waits 38 = .ok (.iinc 3 1, 3) := by decide +kernel
theorem dX4_waits_41 : decode cX4_waits 41 = .ok (.goto (-28), 3) := by decide +kernel
theorem dX4_waits_44 : decode cX4_waits 44 = .ok (.iconst (-1), 1) := by decide +kernel
theorem dX4_waits_45 : decode cX4_waits 45 = .ok (.ireturn, 1) := by decide +kernel
theorem dX4_byMap_0 : decode cX4_byMap 0 = .ok (.iload_n 1, 1) := by decide +kernel
theorem dX4_byMap_1 : decode cX4_byMap 1 = .ok (.iload_n 2, 1) := by decide +kernel
theorem dX4_byMap_2 : decode cX4_byMap 2 = .ok (.invokestatic 105, 3) := by decide +kernel
theorem dX4_byMap_5 : decode cX4_byMap 5 = .ok (.ifCond .ne 6, 3) := by decide +kernel
theorem dX4_byMap_8 : decode cX4_byMap 8 = .ok (.bipush (-2), 2) := by decide +kernel
theorem dX4_byMap_10 : decode cX4_byMap 10 = .ok (.ireturn, 1) := by decide +kernel
theorem dX4_byMap_11 : decode cX4_byMap 11 = .ok (.aload_n 0, 1) := by decide +kernel
theorem dX4_byMap_12 : decode cX4_byMap 12 = .ok (.iload_n 1, 1) := by decide +kernel
theorem dX4_byMap_13 : decode cX4_byMap 13 = .ok (.iload_n 2, 1) := by decide +kernel
theorem dX4_byMap_14 : decode cX4_byMap 14 = .ok (.invokevirtual 128, 3) := by decide +kernel
theorem dX4_byMap_17 : decode cX4_byMap 17 = .ok (.ifCond .ne 6, 3) := by decide +kernel
theorem dX4_byMap_20 : decode cX4_byMap 20 = .ok (.bipush (-3), 2) := by decide +kernel
theorem dX4_byMap_22 : decode cX4_byMap 22 = .ok (.ireturn, 1) := by decide +kernel
theorem dX4_byMap_23 : decode cX4_byMap 23 = .ok (.aload_n 0, 1) := by decide +kernel
theorem dX4_byMap_24 : decode cX4_byMap 24 = .ok (.iload_n 1, 1) := by decide +kernel
theorem dX4_byMap_25 : decode cX4_byMap 25 = .ok (.iload_n 2, 1) := by decide +kernel
theorem dX4_byMap_26 : decode cX4_byMap 26 = .ok (.aload_n 0, 1) := by decide +kernel
theorem dX4_byMap_27 : decode cX4_byMap 27 = .ok (.getfield 10, 3) := by decide +kernel
theorem dX4_byMap_30 : decode cX4_byMap 30 = .ok (.iload_n 2, 1) := by decide +kernel
theorem dX4_byMap_31 : decode cX4_byMap 31 = .ok (.invokevirtual 91, 3) := by decide +kernel
theorem dX4_byMap_34 : decode cX4_byMap 34 = .ok (.invokevirtual 131, 3) := by decide +kernel
theorem dX4_byMap_37 : decode cX4_byMap 37 = .ok (.ireturn, 1) := by decide +kernel
theorem dX4_byChange_0 : decode cX4_byChange 0 = .ok (.iload_n 1, 1) := by decide +kernel
theorem dX4_byChange_1 : decode cX4_byChange 1 = .ok (.iload_n 2, 1) := by decide +kernel
theorem dX4_byChange_2 : decode cX4_byChange 2 = .ok (.invokestatic 105, 3) := by decide +kernel
theorem dX4_byChange_5 : decode cX4_byChange 5 = .ok (.ifCond .ne 6, 3) := by decide +kernel
theorem dX4_byChange_8 : decode cX4_byChange 8 = .ok (.bipush (-2), 2) := by decide +kernel
theorem dX4_byChange_10 : decode cX4_byChange 10 = .ok (.ireturn, 1) := by decide +kernel
theorem dX4_byChange_11 : decode cX4_byChange 11 = .ok (.aload_n 0, 1) := by decide +kernel
theorem dX4_byChange_12 : decode cX4_byChange 12 = .ok (.iload_n 1, 1) := by decide +kernel
theorem dX4_byChange_13 : decode cX4_byChange 13 = .ok (.iload_n 2, 1) := by decide +kernel
theorem dX4_byChange_14 : decode cX4_byChange 14 = .ok (.invokevirtual 134, 3) := by decide +kernel
theorem dX4_byChange_17 : decode cX4_byChange 17 = .ok (.ifCond .ne 6, 3) := by decide +kernel
theorem dX4_byChange_20 : decode cX4_byChange 20 = .ok (.bipush (-3), 2) := by decide +kernel
theorem dX4_byChange_22 : decode cX4_byChange 22 = .ok (.ireturn, 1) := by decide +kernel
theorem dX4_byChange_23 : decode cX4_byChange 23 = .ok (.aload_n 0, 1) := by decide +kernel
theorem dX4_byChange_24 : decode cX4_byChange 24 = .ok (.iload_n 1, 1) := by decide +kernel
theorem dX4_byChange_25 : decode cX4_byChange 25 = .ok (.iload_n 2, 1) := by decide +kernel
theorem dX4_byChange_26 : decode cX4_byChange 26 = .ok (.aload_n 0, 1) := by decide +kernel
theorem dX4_byChange_27 : decode cX4_byChange 27 = .ok (.getfield 10, 3) := by decide +kernel
theorem dX4_byChange_30 : decode cX4_byChange 30 = .ok (.iload_n 2, 1) := by decide +kernel
theorem dX4_byChange_31 : decode cX4_byChange 31 = .ok (.invokevirtual 91, 3) := by decide +kernel
theorem dX4_byChange_34 : decode cX4_byChange 34 = .ok (.invokevirtual 131, 3) := by decide +kernel
theorem dX4_byChange_37 : decode cX4_byChange 37 = .ok (.ireturn, 1) := by decide +kernel
theorem dX4_saved_0 : decode cX4_saved 0 = .ok (.iload_n 1, 1) := by decide +kernel
theorem dX4_saved_1 : decode cX4_saved 1 = .ok (.invokestatic 137, 3) := by decide +kernel
theorem dX4_saved_4 : decode cX4_saved 4 = .ok (.ifCond .eq 12, 3) := by decide +kernel
theorem dX4_saved_7 : decode cX4_saved 7 = .ok (.iload_n 2, 1) := by decide +kernel
theorem dX4_saved_8 : decode cX4_saved 8 = .ok (.ifCond .lt 8, 3) := by decide +kernel
theorem dX4_saved_11 : decode cX4_saved 11 = .ok (.iload_n 2, 1) := by decide +kernel
theorem dX4_saved_12 : decode cX4_saved 12 = .ok (.iconst 1, 1) := by decide +kernel
theorem dX4_saved_13 : decode cX4_saved 13 = .ok (.if_icmp .le 6, 3) := by decide +kernel
theorem dX4_saved_16 : decode cX4_saved 16 = .ok (.bipush (-2), 2) := by decide +kernel
theorem dX4_saved_18 : decode cX4_saved 18 = .ok (.ireturn, 1) := by decide +kernel
theorem dX4_saved_19 : decode cX4_saved 19 = .ok (.iconst 0, 1) := by decide +kernel
theorem dX4_saved_20 : decode cX4_saved 20 = .ok (.istore_n 3, 1) := by decide +kernel
theorem dX4_saved_21 : decode cX4_saved 21 = .ok (.iconst 2, 1) := by decide +kernel
theorem dX4_saved_22 : decode cX4_saved 22 = .ok (.istore 4, 2) := by decide +kernel
theorem dX4_saved_24 : decode cX4_saved 24 = .ok (.iload 4, 2) := by decide +kernel
theorem dX4_saved_26 : decode cX4_saved 26 = .ok (.bipush 99, 2) := by decide +kernel
theorem dX4_saved_28 : decode cX4_saved 28 = .ok (.if_icmp .gt 57, 3) := by decide +kernel
theorem dX4_saved_31 : decode cX4_saved 31 = .ok (.aload_n 0, 1) := by decide +kernel
theorem dX4_saved_32 : decode cX4_saved 32 = .ok (.iload_n 1, 1) := by decide +kernel
theorem dX4_saved_33 : decode cX4_saved 33 = .ok (.iload 4, 2) := by decide +kernel
theorem dX4_saved_35 : decode cX4_saved 35 = .ok (.invokevirtual 140, 3) := by decide +kernel
theorem dX4_saved_38 : decode cX4_saved 38 = .ok (.istore 5, 2) := by decide +kernel
theorem dX4_saved_40 : decode cX4_saved 40 = .ok (.aload_n 0, 1) := by decide +kernel
theorem dX4_saved_41 : decode cX4_saved 41 = .ok (.iload_n 1, 1) := by decide +kernel
theorem dX4_saved_42 : decode cX4_saved 42 = .ok (.iload 4, 2) := by decide +kernel
theorem dX4_saved_44 : decode cX4_saved 44 = .ok (.invokevirtual 143, 3) := by decide +kernel
theorem dX4_saved_47 : decode cX4_saved 47 = .ok (.istore 6, 2) := by decide +kernel
theorem dX4_saved_49 : decode cX4_saved 49 = .ok (.iload_n 2, 1) := by decide +kernel
theorem dX4_saved_50 : decode cX4_saved 50 = .ok (.ifCond .ne 16, 3) := by decide +kernel
theorem dX4_saved_53 : decode cX4_saved 53 = .ok (.iload 6, 2) := by decide +kernel
theorem dX4_saved_55 : decode cX4_saved 55 = .ok (.ifCond .eq 24, 3) := by decide +kernel
theorem dX4_saved_58 : decode cX4_saved 58 = .ok (.iload 5, 2) := by decide +kernel
theorem dX4_saved_60 : decode cX4_saved 60 = .ok (.ifCond .ne 19, 3) := by decide +kernel
theorem dX4_saved_63 : decode cX4_saved 63 = .ok (.goto 13, 3) := by decide +kernel
theorem dX4_saved_66 : decode cX4_saved 66 = .ok (.iload 5, 2) := by decide +kernel
theorem dX4_saved_68 : decode cX4_saved 68 = .ok (.ifCond .eq 11, 3) := by decide +kernel
theorem dX4_saved_71 : decode cX4_saved 71 = .ok (.iload 6, 2) := by decide +kernel
theorem dX4_saved_73 : decode cX4_saved 73 = .ok (.ifCond .ne 6, 3) := by decide +kernel
theorem dX4_saved_76 : decode cX4_saved 76 = .ok (.iinc 3 1, 3) := by decide +kernel
theorem dX4_saved_79 : decode cX4_saved 79 = .ok (.iinc 4 1, 3) := by decide +kernel
theorem dX4_saved_82 : decode cX4_saved 82 = .ok (.goto (-58), 3) := by decide +kernel
theorem dX4_saved_85 : decode cX4_saved 85 = .ok (.iload_n 3, 1) := by decide +kernel
theorem dX4_saved_86 : decode cX4_saved 86 = .ok (.ireturn, 1) := by decide +kernel
theorem dX4_sounded_0 : decode cX4_sounded 0 = .ok (.iload_n 1, 1) := by decide +kernel
theorem dX4_sounded_1 : decode cX4_sounded 1 = .ok (.iload_n 2, 1) := by decide +kernel
theorem dX4_sounded_2 : decode cX4_sounded 2 = .ok (.iload_n 3, 1) := by decide +kernel
theorem dX4_sounded_3 : decode cX4_sounded 3 = .ok (.invokestatic 146, 3) := by decide +kernel
theorem dX4_sounded_6 : decode cX4_sounded 6 = .ok (.ifCond .ne 6, 3) := by decide +kernel
theorem dX4_sounded_9 : decode cX4_sounded 9 = .ok (.bipush (-2), 2) := by decide +kernel
theorem dX4_sounded_11 : decode cX4_sounded 11 = .ok (.ireturn, 1) := by decide +kernel
theorem dX4_sounded_12 : decode cX4_sounded 12 = .ok (.aload_n 0, 1) := by decide +kernel
theorem dX4_sounded_13 : decode cX4_sounded 13 = .ok (.getfield 19, 3) := by decide +kernel
theorem dX4_sounded_16 : decode cX4_sounded 16 = .ok (.iload_n 1, 1) := by decide +kernel
theorem dX4_sounded_17 : decode cX4_sounded 17 = .ok (.iload_n 2, 1) := by decide +kernel
theorem dX4_sounded_18 : decode cX4_sounded 18 = .ok (.iload_n 3, 1) := by decide +kernel
theorem dX4_sounded_19 : decode cX4_sounded 19 = .ok (.invokevirtual 150, 3) := by decide +kernel
theorem dX4_sounded_22 : decode cX4_sounded 22 = .ok (.ifCond .ne 6, 3) := by decide +kernel
theorem dX4_sounded_25 : decode cX4_sounded 25 = .ok (.bipush (-4), 2) := by decide +kernel
theorem dX4_sounded_27 : decode cX4_sounded 27 = .ok (.ireturn, 1) := by decide +kernel
theorem dX4_sounded_28 : decode cX4_sounded 28 = .ok (.aload_n 0, 1) := by decide +kernel
theorem dX4_sounded_29 : decode cX4_sounded 29 = .ok (.getfield 19, 3) := by decide +kernel
theorem dX4_sounded_32 : decode cX4_sounded 32 = .ok (.getfield 153, 3) := by decide +kernel
theorem dX4_sounded_35 : decode cX4_sounded 35 = .ok (.ireturn, 1) := by decide +kernel
theorem dX4_forget_0 : decode cX4_forget 0 = .ok (.aload_n 0, 1) := by decide +kernel
theorem dX4_forget_1 : decode cX4_forget 1 = .ok (.getfield 19, 3) := by decide +kernel
theorem dX4_forget_4 : decode cX4_forget 4 = .ok (.getfield 153, 3) := by decide +kernel
theorem dX4_forget_7 : decode cX4_forget 7 = .ok (.istore_n 1, 1) := by decide +kernel
theorem dX4_forget_8 : decode cX4_forget 8 = .ok (.aload_n 0, 1) := by decide +kernel
theorem dX4_forget_9 : decode cX4_forget 9 = .ok (.getfield 19, 3) := by decide +kernel
theorem dX4_forget_12 : decode cX4_forget 12 = .ok (.invokevirtual 156, 3) := by decide +kernel
theorem dX4_forget_15 : decode cX4_forget 15 = .ok (.iload_n 1, 1) := by decide +kernel
theorem dX4_forget_16 : decode cX4_forget 16 = .ok (.ireturn, 1) := by decide +kernel
theorem dX4_read_0 : decode cX4_read 0 = .ok (.aload_n 0, 1) := by decide +kernel
theorem dX4_read_1 : decode cX4_read 1 = .ok (.iload_n 1, 1) := by decide +kernel
theorem dX4_read_2 : decode cX4_read 2 = .ok (.invokevirtual 159, 3) := by decide +kernel
theorem dX4_read_5 : decode cX4_read 5 = .ok (.astore_n 2, 1) := by decide +kernel
theorem dX4_read_6 : decode cX4_read 6 = .ok (.aload_n 2, 1) := by decide +kernel
theorem dX4_read_7 : decode cX4_read 7 = .ok (.ifnonnull 6, 3) := by decide +kernel
theorem dX4_read_10 : decode cX4_read 10 = .ok (.bipush (-2), 2) := by decide +kernel
theorem dX4_read_12 : decode cX4_read 12 = .ok (.ireturn, 1) := by decide +kernel
theorem dX4_read_13 : decode cX4_read 13 = .ok (.aload_n 2, 1) := by decide +kernel
theorem dX4_read_14 : decode cX4_read 14 = .ok (.invokevirtual 163, 3) := by decide +kernel
theorem dX4_read_17 : decode cX4_read 17 = .ok (.ifCond .eq 9, 3) := by decide +kernel
theorem dX4_read_20 : decode cX4_read 20 = .ok (.aload_n 0, 1) := by decide +kernel
theorem dX4_read_21 : decode cX4_read 21 = .ok (.iconst 1, 1) := by decide +kernel
theorem dX4_read_22 : decode cX4_read 22 = .ok (.invokevirtual 166, 3) := by decide +kernel
theorem dX4_read_25 : decode cX4_read 25 = .ok (.ireturn, 1) := by decide +kernel
theorem dX4_read_26 : decode cX4_read 26 = .ok (.iconst 0, 1) := by decide +kernel
theorem dX4_read_27 : decode cX4_read 27 = .ok (.istore_n 3, 1) := by decide +kernel
theorem dX4_read_28 : decode cX4_read 28 = .ok (.iconst 0, 1) := by decide +kernel
theorem dX4_read_29 : decode cX4_read 29 = .ok (.istore 4, 2) := by decide +kernel
theorem dX4_read_31 : decode cX4_read 31 = .ok (.iload 4, 2) := by decide +kernel
theorem dX4_read_33 : decode cX4_read 33 = .ok (.iconst 2, 1) := by decide +kernel
theorem dX4_read_34 : decode cX4_read 34 = .ok (.iadd, 1) := by decide +kernel
theorem dX4_read_35 : decode cX4_read 35 = .ok (.aload_n 2, 1) := by decide +kernel
theorem dX4_read_36 : decode cX4_read 36 = .ok (.getfield 169, 3) := by decide +kernel
theorem dX4_read_39 : decode cX4_read 39 = .ok (.if_icmp .ge 71, 3) := by decide +kernel
theorem dX4_read_42 : decode cX4_read 42 = .ok (.aload_n 2, 1) := by decide +kernel
theorem dX4_read_43 : decode cX4_read 43 = .ok (.iload 4, 2) := by decide +kernel
theorem dX4_read_45 : decode cX4_read 45 = .ok (.invokevirtual 170, 3) := by decide +kernel
theorem dX4_read_48 : decode cX4_read 48 = .ok (.istore 5, 2) := by decide +kernel
theorem dX4_read_50 : decode cX4_read 50 = .ok (.aload_n 2, 1) := by decide +kernel
theorem dX4_read_51 : decode cX4_read 51 = .ok (.iload 4, 2) := by decide +kernel
theorem dX4_read_53 : decode cX4_read 53 = .ok (.iconst 1, 1) := by decide +kernel
theorem dX4_read_54 : decode cX4_read 54 = .ok (.iadd, 1) := by decide +kernel
theorem dX4_read_55 : decode cX4_read 55 = .ok (.invokevirtual 170, 3) := by decide +kernel
theorem dX4_read_58 : decode cX4_read 58 = .ok (.istore 6, 2) := by decide +kernel
theorem dX4_read_60 : decode cX4_read 60 = .ok (.aload_n 2, 1) := by decide +kernel
theorem dX4_read_61 : decode cX4_read 61 = .ok (.iload 4, 2) := by decide +kernel
theorem dX4_read_63 : decode cX4_read 63 = .ok (.iconst 2, 1) := by decide +kernel
theorem dX4_read_64 : decode cX4_read 64 = .ok (.iadd, 1) := by decide +kernel
theorem dX4_read_65 : decode cX4_read 65 = .ok (.invokevirtual 170, 3) := by decide +kernel
theorem dX4_read_68 : decode cX4_read 68 = .ok (.istore 7, 2) := by decide +kernel
theorem dX4_read_70 : decode cX4_read 70 = .ok (.iload 5, 2) := by decide +kernel
theorem dX4_read_72 : decode cX4_read 72 = .ok (.iload 6, 2) := by decide +kernel
theorem dX4_read_74 : decode cX4_read 74 = .ok (.iload 7, 2) := by decide +kernel
theorem dX4_read_76 : decode cX4_read 76 = .ok (.invokestatic 146, 3) := by decide +kernel
theorem dX4_read_79 : decode cX4_read 79 = .ok (.ifCond .eq 31, 3) := by decide +kernel
theorem dX4_read_82 : decode cX4_read 82 = .ok (.aload_n 0, 1) := by decide +kernel
theorem dX4_read_83 : decode cX4_read 83 = .ok (.getfield 19, 3) := by decide +kernel
theorem dX4_read_86 : decode cX4_read 86 = .ok (.iload 5, 2) := by decide +kernel
theorem dX4_read_88 : decode cX4_read 88 = .ok (.iload 6, 2) := by decide +kernel
theorem dX4_read_90 : decode cX4_read 90 = .ok (.iload 7, 2) := by decide +kernel
theorem dX4_read_92 : decode cX4_read 92 = .ok (.invokevirtual 150, 3) := by decide +kernel
theorem dX4_read_95 : decode cX4_read 95 = .ok (.ifCond .ne 6, 3) := by decide +kernel
theorem dX4_read_98 : decode cX4_read 98 = .ok (.goto 12, 3) := by decide +kernel
theorem dX4_read_101 : decode cX4_read 101 = .ok (.iinc 3 1, 3) := by decide +kernel
theorem dX4_read_104 : decode cX4_read 104 = .ok (.iinc 4 3, 3) := by decide +kernel
theorem dX4_read_107 : decode cX4_read 107 = .ok (.goto (-76), 3) := by decide +kernel
theorem dX4_read_110 : decode cX4_read 110 = .ok (.iload_n 3, 1) := by decide +kernel
theorem dX4_read_111 : decode cX4_read 111 = .ok (.ireturn, 1) := by decide +kernel
theorem dX4_laws_0 : decode cX4_laws 0 = .ok (.aload_n 0, 1) := by decide +kernel
theorem dX4_laws_1 : decode cX4_laws 1 = .ok (.getfield 10, 3) := by decide +kernel
theorem dX4_laws_4 : decode cX4_laws 4 = .ok (.iload_n 1, 1) := by decide +kernel
theorem dX4_laws_5 : decode cX4_laws 5 = .ok (.invokevirtual 88, 3) := by decide +kernel
theorem dX4_laws_8 : decode cX4_laws 8 = .ok (.ifCond .eq 14, 3) := by decide +kernel
theorem dX4_laws_11 : decode cX4_laws 11 = .ok (.iload_n 2, 1) := by decide +kernel
theorem dX4_laws_12 : decode cX4_laws 12 = .ok (.iconst (-1), 1) := by decide +kernel
theorem dX4_laws_13 : decode cX4_laws 13 = .ok (.if_icmp .lt 9, 3) := by decide +kernel
theorem dX4_laws_16 : decode cX4_laws 16 = .ok (.iload_n 2, 1) := by decide +kernel
theorem dX4_laws_17 : decode cX4_laws 17 = .ok (.bipush 36, 2) := by decide +kernel
theorem dX4_laws_19 : decode cX4_laws 19 = .ok (.if_icmp .lt 6, 3) := by decide +kernel
theorem dX4_laws_22 : decode cX4_laws 22 = .ok (.bipush (-2), 2) := by decide +kernel
theorem dX4_laws_24 : decode cX4_laws 24 = .ok (.ireturn, 1) := by decide +kernel
theorem dX4_laws_25 : decode cX4_laws 25 = .ok (.aload_n 0, 1) := by decide +kernel
theorem dX4_laws_26 : decode cX4_laws 26 = .ok (.getfield 19, 3) := by decide +kernel
theorem dX4_laws_29 : decode cX4_laws 29 = .ok (.iload_n 1, 1) := by decide +kernel
theorem dX4_laws_30 : decode cX4_laws 30 = .ok (.aload_n 0, 1) := by decide +kernel
theorem dX4_laws_31 : decode cX4_laws 31 = .ok (.getfield 10, 3) := by decide +kernel
theorem dX4_laws_34 : decode cX4_laws 34 = .ok (.iload_n 1, 1) := by decide +kernel
theorem dX4_laws_35 : decode cX4_laws 35 = .ok (.iconst 2, 1) := by decide +kernel
theorem dX4_laws_36 : decode cX4_laws 36 = .ok (.invokevirtual 71, 3) := by decide +kernel
theorem dX4_laws_39 : decode cX4_laws 39 = .ok (.invokevirtual 173, 3) := by decide +kernel
theorem dX4_laws_42 : decode cX4_laws 42 = .ok (.lstore_n 3, 1) := by decide +kernel
theorem dX4_laws_43 : decode cX4_laws 43 = .ok (.iload_n 2, 1) := by decide +kernel
theorem dX4_laws_44 : decode cX4_laws 44 = .ok (.iconst (-1), 1) := by decide +kernel
theorem dX4_laws_45 : decode cX4_laws 45 = .ok (.if_icmp .ne 8, 3) := by decide +kernel
theorem dX4_laws_48 : decode cX4_laws 48 = .ok (.lload_n 3, 1) := by decide +kernel
theorem dX4_laws_49 : decode cX4_laws 49 = .ok (.invokestatic 177, 3) := by decide +kernel
theorem dX4_laws_52 : decode cX4_laws 52 = .ok (.ireturn, 1) := by decide +kernel
theorem dX4_laws_53 : decode cX4_laws 53 = .ok (.lload_n 3, 1) := by decide +kernel
theorem dX4_laws_54 : decode cX4_laws 54 = .ok (.iload_n 2, 1) := by decide +kernel
theorem dX4_laws_55 : decode cX4_laws 55 = .ok (.invokestatic 183, 3) := by decide +kernel
theorem dX4_laws_58 : decode cX4_laws 58 = .ok (.ireturn, 1) := by decide +kernel
theorem dX4_next_0 : decode cX4_next 0 = .ok (.aload_n 0, 1) := by decide +kernel
theorem dX4_next_1 : decode cX4_next 1 = .ok (.getfield 10, 3) := by decide +kernel
theorem dX4_next_4 : decode cX4_next 4 = .ok (.iload_n 1, 1) := by decide +kernel
theorem dX4_next_5 : decode cX4_next 5 = .ok (.invokevirtual 88, 3) := by decide +kernel
theorem dX4_next_8 : decode cX4_next 8 = .ok (.ifCond .eq 10, 3) := by decide +kernel
theorem dX4_next_11 : decode cX4_next 11 = .ok (.iload_n 2, 1) := by decide +kernel
theorem dX4_next_12 : decode cX4_next 12 = .ok (.invokestatic 75, 3) := by decide +kernel
theorem dX4_next_15 : decode cX4_next 15 = .ok (.ifCond .ne 6, 3) := by decide +kernel
theorem dX4_next_18 : decode cX4_next 18 = .ok (.bipush (-2), 2) := by decide +kernel
theorem dX4_next_20 : decode cX4_next 20 = .ok (.ireturn, 1) := by decide +kernel
theorem dX4_next_21 : decode cX4_next 21 = .ok (.aload_n 0, 1) := by decide +kernel
theorem dX4_next_22 : decode cX4_next 22 = .ok (.getfield 10, 3) := by decide +kernel
theorem dX4_next_25 : decode cX4_next 25 = .ok (.iload_n 1, 1) := by decide +kernel
theorem dX4_next_26 : decode cX4_next 26 = .ok (.iconst 2, 1) := by decide +kernel
theorem dX4_next_27 : decode cX4_next 27 = .ok (.invokevirtual 71, 3) := by decide +kernel
theorem dX4_next_30 : decode cX4_next 30 = .ok (.istore_n 3, 1) := by decide +kernel
theorem dX4_next_31 : decode cX4_next 31 = .ok (.aload_n 0, 1) := by decide +kernel
theorem dX4_next_32 : decode cX4_next 32 = .ok (.getfield 19, 3) := by decide +kernel
theorem dX4_next_35 : decode cX4_next 35 = .ok (.iload_n 1, 1) := by decide +kernel
theorem dX4_next_36 : decode cX4_next 36 = .ok (.iload_n 3, 1) := by decide +kernel
theorem dX4_next_37 : decode cX4_next 37 = .ok (.invokevirtual 173, 3) := by decide +kernel
theorem dX4_next_40 : decode cX4_next 40 = .ok (.iload_n 3, 1) := by decide +kernel
theorem dX4_next_41 : decode cX4_next 41 = .ok (.iload_n 2, 1) := by decide +kernel
theorem dX4_next_42 : decode cX4_next 42 = .ok (.invokestatic 187, 3) := by decide +kernel
theorem dX4_next_45 : decode cX4_next 45 = .ok (.ireturn, 1) := by decide +kernel
theorem dX4_tells_0 : decode cX4_tells 0 = .ok (.aload_n 0, 1) := by decide +kernel
theorem dX4_tells_1 : decode cX4_tells 1 = .ok (.getfield 10, 3) := by decide +kernel
theorem dX4_tells_4 : decode cX4_tells 4 = .ok (.iload_n 1, 1) := by decide +kernel
theorem dX4_tells_5 : decode cX4_tells 5 = .ok (.invokevirtual 88, 3) := by decide +kernel
theorem dX4_tells_8 : decode cX4_tells 8 = .ok (.ifCond .eq 10, 3) := by decide +kernel
theorem dX4_tells_11 : decode cX4_tells 11 = .ok (.iload_n 2, 1) := by decide +kernel
theorem dX4_tells_12 : decode cX4_tells 12 = .ok (.invokestatic 75, 3) := by decide +kernel
theorem dX4_tells_15 : decode cX4_tells 15 = .ok (.ifCond .ne 6, 3) := by decide +kernel
theorem dX4_tells_18 : decode cX4_tells 18 = .ok (.bipush (-2), 2) := by decide +kernel
theorem dX4_tells_20 : decode cX4_tells 20 = .ok (.ireturn, 1) := by decide +kernel
theorem dX4_tells_21 : decode cX4_tells 21 = .ok (.aload_n 0, 1) := by decide +kernel
theorem dX4_tells_22 : decode cX4_tells 22 = .ok (.getfield 10, 3) := by decide +kernel
theorem dX4_tells_25 : decode cX4_tells 25 = .ok (.iload_n 1, 1) := by decide +kernel
theorem dX4_tells_26 : decode cX4_tells 26 = .ok (.iconst 2, 1) := by decide +kernel
theorem dX4_tells_27 : decode cX4_tells 27 = .ok (.invokevirtual 71, 3) := by decide +kernel
theorem dX4_tells_30 : decode cX4_tells 30 = .ok (.istore_n 3, 1) := by decide +kernel
theorem dX4_tells_31 : decode cX4_tells 31 = .ok (.aload_n 0, 1) := by decide +kernel
theorem dX4_tells_32 : decode cX4_tells 32 = .ok (.getfield 19, 3) := by decide +kernel
theorem dX4_tells_35 : decode cX4_tells 35 = .ok (.iload_n 1, 1) := by decide +kernel
theorem dX4_tells_36 : decode cX4_tells 36 = .ok (.iload_n 3, 1) := by decide +kernel
theorem dX4_tells_37 : decode cX4_tells 37 = .ok (.invokevirtual 173, 3) := by decide +kernel
theorem dX4_tells_40 : decode cX4_tells 40 = .ok (.lstore 4, 2) := by decide +kernel
theorem dX4_tells_42 : decode cX4_tells 42 = .ok (.iload_n 2, 1) := by decide +kernel
theorem dX4_tells_43 : decode cX4_tells 43 = .ok (.istore 6, 2) := by decide +kernel
theorem dX4_tells_45 : decode cX4_tells 45 = .ok (.bipush 37, 2) := by decide +kernel
theorem dX4_tells_47 : decode cX4_tells 47 = .ok (.istore 7, 2) := by decide +kernel
theorem dX4_tells_49 : decode cX4_tells 49 = .ok (.iload_n 2, 1) := by decide +kernel
theorem dX4_tells_50 : decode cX4_tells 50 = .ok (.istore 8, 2) := by decide +kernel
theorem dX4_tells_52 : decode cX4_tells 52 = .ok (.iload 8, 2) := by decide +kernel
theorem dX4_tells_54 : decode cX4_tells 54 = .ok (.iload_n 2, 1) := by decide +kernel
theorem dX4_tells_55 : decode cX4_tells 55 = .ok (.bipush 20, 2) := by decide +kernel
theorem dX4_tells_57 : decode cX4_tells 57 = .ok (.iadd, 1) := by decide +kernel
theorem dX4_tells_58 : decode cX4_tells 58 = .ok (.if_icmp .ge 45, 3) := by decide +kernel
theorem dX4_tells_61 : decode cX4_tells 61 = .ok (.iload 8, 2) := by decide +kernel
theorem dX4_tells_63 : decode cX4_tells 63 = .ok (.bipush 99, 2) := by decide +kernel
theorem dX4_tells_65 : decode cX4_tells 65 = .ok (.if_icmp .gt 38, 3) := by decide +kernel
theorem dX4_tells_68 : decode cX4_tells 68 = .ok (.aload_n 0, 1) := by decide +kernel
theorem dX4_tells_69 : decode cX4_tells 69 = .ok (.getfield 19, 3) := by decide +kernel
theorem dX4_tells_72 : decode cX4_tells 72 = .ok (.lload 4, 2) := by decide +kernel
theorem dX4_tells_74 : decode cX4_tells 74 = .ok (.iload_n 3, 1) := by decide +kernel
theorem dX4_tells_75 : decode cX4_tells 75 = .ok (.iload 8, 2) := by decide +kernel
theorem dX4_tells_77 : decode cX4_tells 77 = .ok (.invokevirtual 191, 3) := by decide +kernel
theorem dX4_tells_80 : decode cX4_tells 80 = .ok (.istore 9, 2) := by decide +kernel
theorem dX4_tells_82 : decode cX4_tells 82 = .ok (.iload 9, 2) := by decide +kernel
theorem dX4_tells_84 : decode cX4_tells 84 = .ok (.iload 7, 2) := by decide +kernel
theorem dX4_tells_86 : decode cX4_tells 86 = .ok (.if_icmp .ge 11, 3) := by decide +kernel
theorem dX4_tells_89 : decode cX4_tells 89 = .ok (.iload 9, 2) := by decide +kernel
theorem dX4_tells_91 : decode cX4_tells 91 = .ok (.istore 7, 2) := by decide +kernel
theorem dX4_tells_93 : decode cX4_tells 93 = .ok (.iload 8, 2) := by decide +kernel
theorem dX4_tells_95 : decode cX4_tells 95 = .ok (.istore 6, 2) := by decide +kernel
theorem dX4_tells_97 : decode cX4_tells 97 = .ok (.iinc 8 1, 3) := by decide +kernel
theorem dX4_tells_100 : decode cX4_tells 100 = .ok (.goto (-48), 3) := by decide +kernel
theorem dX4_tells_103 : decode cX4_tells 103 = .ok (.iload 6, 2) := by decide +kernel
theorem dX4_tells_105 : decode cX4_tells 105 = .ok (.ireturn, 1) := by decide +kernel
theorem dX4_wreck_0 : decode cX4_wreck 0 = .ok (.iload_n 1, 1) := by decide +kernel
theorem dX4_wreck_1 : decode cX4_wreck 1 = .ok (.iload_n 3, 1) := by decide +kernel
theorem dX4_wreck_2 : decode cX4_wreck 2 = .ok (.invokestatic 105, 3) := by decide +kernel
theorem dX4_wreck_5 : decode cX4_wreck 5 = .ok (.ifCond .eq 14, 3) := by decide +kernel
theorem dX4_wreck_8 : decode cX4_wreck 8 = .ok (.aload_n 0, 1) := by decide +kernel
theorem dX4_wreck_9 : decode cX4_wreck 9 = .ok (.getfield 10, 3) := by decide +kernel
theorem dX4_wreck_12 : decode cX4_wreck 12 = .ok (.iload_n 2, 1) := by decide +kernel
theorem dX4_wreck_13 : decode cX4_wreck 13 = .ok (.invokevirtual 88, 3) := by decide +kernel
theorem dX4_wreck_16 : decode cX4_wreck 16 = .ok (.ifCond .ne 6, 3) := by decide +kernel
theorem dX4_wreck_19 : decode cX4_wreck 19 = .ok (.bipush (-2), 2) := by decide +kernel
theorem dX4_wreck_21 : decode cX4_wreck 21 = .ok (.ireturn, 1) := by decide +kernel
theorem dX4_wreck_22 : decode cX4_wreck 22 = .ok (.aload_n 0, 1) := by decide +kernel
theorem dX4_wreck_23 : decode cX4_wreck 23 = .ok (.getfield 10, 3) := by decide +kernel
theorem dX4_wreck_26 : decode cX4_wreck 26 = .ok (.iload_n 3, 1) := by decide +kernel
theorem dX4_wreck_27 : decode cX4_wreck 27 = .ok (.invokevirtual 91, 3) := by decide +kernel
theorem dX4_wreck_30 : decode cX4_wreck 30 = .ok (.istore 4, 2) := by decide +kernel
theorem dX4_wreck_32 : decode cX4_wreck 32 = .ok (.iconst 0, 1) := by decide +kernel
theorem dX4_wreck_33 : decode cX4_wreck 33 = .ok (.istore 5, 2) := by decide +kernel
theorem dX4_wreck_35 : decode cX4_wreck 35 = .ok (.iconst 0, 1) := by decide +kernel
theorem dX4_wreck_36 : decode cX4_wreck 36 = .ok (.istore 6, 2) := by decide +kernel
theorem dX4_wreck_38 : decode cX4_wreck 38 = .ok (.iload 6, 2) := by decide +kernel
theorem dX4_wreck_40 : decode cX4_wreck 40 = .ok (.bipush 30, 2) := by decide +kernel
theorem dX4_wreck_42 : decode cX4_wreck 42 = .ok (.if_icmp .gt 52, 3) := by decide +kernel
theorem dX4_wreck_45 : decode cX4_wreck 45 = .ok (.iload 6, 2) := by decide +kernel
theorem dX4_wreck_47 : decode cX4_wreck 47 = .ok (.iload_n 3, 1) := by decide +kernel
theorem dX4_wreck_48 : decode cX4_wreck 48 = .ok (.if_icmp .gt 46, 3) := by decide +kernel
theorem dX4_wreck_51 : decode cX4_wreck 51 = .ok (.aload_n 0, 1) := by decide +kernel
theorem dX4_wreck_52 : decode cX4_wreck 52 = .ok (.iload_n 1, 1) := by decide +kernel
theorem dX4_wreck_53 : decode cX4_wreck 53 = .ok (.iload_n 3, 1) := by decide +kernel
theorem dX4_wreck_54 : decode cX4_wreck 54 = .ok (.iload 6, 2) := by decide +kernel
theorem dX4_wreck_56 : decode cX4_wreck 56 = .ok (.isub, 1) := by decide +kernel
theorem dX4_wreck_57 : decode cX4_wreck 57 = .ok (.invokevirtual 128, 3) := by decide +kernel
theorem dX4_wreck_60 : decode cX4_wreck 60 = .ok (.istore 7, 2) := by decide +kernel
theorem dX4_wreck_62 : decode cX4_wreck 62 = .ok (.iload 7, 2) := by decide +kernel
theorem dX4_wreck_64 : decode cX4_wreck 64 = .ok (.ifCond .eq 24, 3) := by decide +kernel
theorem dX4_wreck_67 : decode cX4_wreck 67 = .ok (.aload_n 0, 1) := by decide +kernel
theorem dX4_wreck_68 : decode cX4_wreck 68 = .ok (.iload_n 1, 1) := by decide +kernel
theorem dX4_wreck_69 : decode cX4_wreck 69 = .ok (.iload_n 3, 1) := by decide +kernel
theorem dX4_wreck_70 : decode cX4_wreck 70 = .ok (.iload 4, 2) := by decide +kernel
theorem dX4_wreck_72 : decode cX4_wreck 72 = .ok (.invokevirtual 131, 3) := by decide +kernel
theorem dX4_wreck_75 : decode cX4_wreck 75 = .ok (.iload_n 2, 1) := by decide +kernel
theorem dX4_wreck_76 : decode cX4_wreck 76 = .ok (.if_icmp .ne 12, 3) := by decide +kernel
theorem dX4_wreck_79 : decode cX4_wreck 79 = .ok (.iload 5, 2) := by decide +kernel
theorem dX4_wreck_81 : decode cX4_wreck 81 = .ok (.iconst 1, 1) := by decide +kernel
theorem dX4_wreck_82 : decode cX4_wreck 82 = .ok (.iload 6, 2) := by decide +kernel
theorem dX4_wreck_84 : decode cX4_wreck 84 = .ok (.ishl, 1) := by decide +kernel
theorem dX4_wreck_85 : decode cX4_wreck 85 = .ok (.ior, 1) := by decide +kernel
theorem dX4_wreck_86 : decode cX4_wreck 86 = .ok (.istore 5, 2) := by decide +kernel
theorem dX4_wreck_88 : decode cX4_wreck 88 = .ok (.iinc 6 1, 3) := by decide +kernel
theorem dX4_wreck_91 : decode cX4_wreck 91 = .ok (.goto (-53), 3) := by decide +kernel
theorem dX4_wreck_94 : decode cX4_wreck 94 = .ok (.iload 5, 2) := by decide +kernel
theorem dX4_wreck_96 : decode cX4_wreck 96 = .ok (.ireturn, 1) := by decide +kernel
theorem dX4_through_0 : decode cX4_through 0 = .ok (.iload_n 1, 1) := by decide +kernel
theorem dX4_through_1 : decode cX4_through 1 = .ok (.iload_n 2, 1) := by decide +kernel
theorem dX4_through_2 : decode cX4_through 2 = .ok (.invokestatic 105, 3) := by decide +kernel
theorem dX4_through_5 : decode cX4_through 5 = .ok (.ifCond .eq 12, 3) := by decide +kernel
theorem dX4_through_8 : decode cX4_through 8 = .ok (.iload_n 3, 1) := by decide +kernel
theorem dX4_through_9 : decode cX4_through 9 = .ok (.ifCond .lt 8, 3) := by decide +kernel
theorem dX4_through_12 : decode cX4_through 12 = .ok (.iload_n 3, 1) := by decide +kernel
theorem dX4_through_13 : decode cX4_through 13 = .ok (.iconst 1, 1) := by decide +kernel
theorem dX4_through_14 : decode cX4_through 14 = .ok (.if_icmp .le 6, 3) := by decide +kernel
theorem dX4_through_17 : decode cX4_through 17 = .ok (.bipush (-2), 2) := by decide +kernel
theorem dX4_through_19 : decode cX4_through 19 = .ok (.ireturn, 1) := by decide +kernel
theorem dX4_through_20 : decode cX4_through 20 = .ok (.iconst 0, 1) := by decide +kernel
theorem dX4_through_21 : decode cX4_through 21 = .ok (.istore 4, 2) := by decide +kernel
theorem dX4_through_23 : decode cX4_through 23 = .ok (.aload_n 0, 1) := by decide +kernel
theorem dX4_through_24 : decode cX4_through 24 = .ok (.iload_n 1, 1) := by decide +kernel
theorem dX4_through_25 : decode cX4_through 25 = .ok (.iload_n 2, 1) := by decide +kernel
theorem dX4_through_26 : decode cX4_through 26 = .ok (.iconst 1, 1) := by decide +kernel
theorem dX4_through_27 : decode cX4_through 27 = .ok (.invokevirtual 124, 3) := by decide +kernel
theorem dX4_through_30 : decode cX4_through 30 = .ok (.ifCond .eq 12, 3) := by decide +kernel
theorem dX4_through_33 : decode cX4_through 33 = .ok (.iload 4, 2) := by decide +kernel
theorem dX4_through_35 : decode cX4_through 35 = .ok (.aload_n 0, 1) := by decide +kernel
theorem dX4_through_36 : decode cX4_through 36 = .ok (.getfield 44, 3) := by decide +kernel
theorem dX4_through_39 : decode cX4_through 39 = .ok (.iadd, 1) := by decide +kernel
theorem dX4_through_40 : decode cX4_through 40 = .ok (.istore 4, 2) := by decide +kernel
theorem dX4_through_42 : decode cX4_through 42 = .ok (.aload_n 0, 1) := by decide +kernel
theorem dX4_through_43 : decode cX4_through 43 = .ok (.iload_n 1, 1) := by decide +kernel
theorem dX4_through_44 : decode cX4_through 44 = .ok (.iload_n 2, 1) := by decide +kernel
theorem dX4_through_45 : decode cX4_through 45 = .ok (.iconst 0, 1) := by decide +kernel
theorem dX4_through_46 : decode cX4_through 46 = .ok (.invokevirtual 124, 3) := by decide +kernel
theorem dX4_through_49 : decode cX4_through 49 = .ok (.ifCond .eq 15, 3) := by decide +kernel
theorem dX4_through_52 : decode cX4_through 52 = .ok (.iload 4, 2) := by decide +kernel
theorem dX4_through_54 : decode cX4_through 54 = .ok (.bipush 16, 2) := by decide +kernel
theorem dX4_through_56 : decode cX4_through 56 = .ok (.aload_n 0, 1) := by decide +kernel
theorem dX4_through_57 : decode cX4_through 57 = .ok (.getfield 44, 3) := by decide +kernel
theorem dX4_through_60 : decode cX4_through 60 = .ok (.isub, 1) := by decide +kernel
theorem dX4_through_61 : decode cX4_through 61 = .ok (.iadd, 1) := by decide +kernel
theorem dX4_through_62 : decode cX4_through 62 = .ok (.istore 4, 2) := by decide +kernel
theorem dX4_through_64 : decode cX4_through 64 = .ok (.iload 4, 2) := by decide +kernel
theorem dX4_through_66 : decode cX4_through 66 = .ok (.bipush 16, 2) := by decide +kernel
theorem dX4_through_68 : decode cX4_through 68 = .ok (.iload_n 3, 1) := by decide +kernel
theorem dX4_through_69 : decode cX4_through 69 = .ok (.invokestatic 194, 3) := by decide +kernel
theorem dX4_through_72 : decode cX4_through 72 = .ok (.ireturn, 1) := by decide +kernel
theorem dX4_sure_0 : decode cX4_sure 0 = .ok (.iload_n 1, 1) := by decide +kernel
theorem dX4_sure_1 : decode cX4_sure 1 = .ok (.iload_n 2, 1) := by decide +kernel
theorem dX4_sure_2 : decode cX4_sure 2 = .ok (.invokestatic 105, 3) := by decide +kernel
theorem dX4_sure_5 : decode cX4_sure 5 = .ok (.ifCond .eq 12, 3) := by decide +kernel
theorem dX4_sure_8 : decode cX4_sure 8 = .ok (.iload_n 3, 1) := by decide +kernel
theorem dX4_sure_9 : decode cX4_sure 9 = .ok (.ifCond .lt 8, 3) := by decide +kernel
theorem dX4_sure_12 : decode cX4_sure 12 = .ok (.iload_n 3, 1) := by decide +kernel
theorem dX4_sure_13 : decode cX4_sure 13 = .ok (.iconst 5, 1) := by decide +kernel
theorem dX4_sure_14 : decode cX4_sure 14 = .ok (.if_icmp .lt 6, 3) := by decide +kernel
theorem dX4_sure_17 : decode cX4_sure 17 = .ok (.bipush (-2), 2) := by decide +kernel
theorem dX4_sure_19 : decode cX4_sure 19 = .ok (.ireturn, 1) := by decide +kernel
theorem dX4_sure_20 : decode cX4_sure 20 = .ok (.aload_n 0, 1) := by decide +kernel
theorem dX4_sure_21 : decode cX4_sure 21 = .ok (.getfield 10, 3) := by decide +kernel
theorem dX4_sure_24 : decode cX4_sure 24 = .ok (.aload_n 0, 1) := by decide +kernel
theorem dX4_sure_25 : decode cX4_sure 25 = .ok (.getfield 37, 3) := by decide +kernel
theorem dX4_sure_28 : decode cX4_sure 28 = .ok (.iload_n 2, 1) := by decide +kernel
theorem dX4_sure_29 : decode cX4_sure 29 = .ok (.iconst 0, 1) := by decide +kernel
theorem dX4_sure_30 : decode cX4_sure 30 = .ok (.invokevirtual 109, 3) := by decide +kernel
theorem dX4_sure_33 : decode cX4_sure 33 = .ok (.aload_n 0, 1) := by decide +kernel
theorem dX4_sure_34 : decode cX4_sure 34 = .ok (.getfield 10, 3) := by decide +kernel
theorem dX4_sure_37 : decode cX4_sure 37 = .ok (.aload_n 0, 1) := by decide +kernel
theorem dX4_sure_38 : decode cX4_sure 38 = .ok (.getfield 41, 3) := by decide +kernel
theorem dX4_sure_41 : decode cX4_sure 41 = .ok (.iload_n 2, 1) := by decide +kernel
theorem dX4_sure_42 : decode cX4_sure 42 = .ok (.iconst 1, 1) := by decide +kernel
theorem dX4_sure_43 : decode cX4_sure 43 = .ok (.invokevirtual 109, 3) := by decide +kernel
theorem dX4_sure_46 : decode cX4_sure 46 = .ok (.iconst 0, 1) := by decide +kernel
theorem dX4_sure_47 : decode cX4_sure 47 = .ok (.istore 4, 2) := by decide +kernel
theorem dX4_sure_49 : decode cX4_sure 49 = .ok (.iload 4, 2) := by decide +kernel
theorem dX4_sure_51 : decode cX4_sure 51 = .ok (.aload_n 0, 1) := by decide +kernel
theorem dX4_sure_52 : decode cX4_sure 52 = .ok (.getfield 37, 3) := by decide +kernel
theorem dX4_sure_55 : decode cX4_sure 55 = .ok (.arraylength, 1) := by decide +kernel
theorem dX4_sure_56 : decode cX4_sure 56 = .ok (.if_icmp .ge 43, 3) := by decide +kernel
theorem dX4_sure_59 : decode cX4_sure 59 = .ok (.iload 4, 2) := by decide +kernel
theorem dX4_sure_61 : decode cX4_sure 61 = .ok (.aload_n 0, 1) := by decide +kernel
theorem dX4_sure_62 : decode cX4_sure 62 = .ok (.getfield 41, 3) := by decide +kernel
theorem dX4_sure_65 : decode cX4_sure 65 = .ok (.arraylength, 1) := by decide +kernel
theorem dX4_sure_66 : decode cX4_sure 66 = .ok (.if_icmp .ge 33, 3) := by decide +kernel
theorem dX4_sure_69 : decode cX4_sure 69 = .ok (.aload_n 0, 1) := by decide +kernel
theorem dX4_sure_70 : decode cX4_sure 70 = .ok (.getfield 37, 3) := by decide +kernel
theorem dX4_sure_73 : decode cX4_sure 73 = .ok (.iload 4, 2) := by decide +kernel
theorem dX4_sure_75 : decode cX4_sure 75 = .ok (.aload_n 0, 1) := by decide +kernel
theorem dX4_sure_76 : decode cX4_sure 76 = .ok (.getfield 37, 3) := by decide +kernel
theorem dX4_sure_79 : decode cX4_sure 79 = .ok (.iload 4, 2) := by decide +kernel
theorem dX4_sure_81 : decode cX4_sure 81 = .ok (.iaload, 1) := by decide +kernel
theorem dX4_sure_82 : decode cX4_sure 82 = .ok (.aload_n 0, 1) := by decide +kernel
theorem dX4_sure_83 : decode cX4_sure 83 = .ok (.getfield 41, 3) := by decide +kernel
theorem dX4_sure_86 : decode cX4_sure 86 = .ok (.iload 4, 2) := by decide +kernel
theorem dX4_sure_88 : decode cX4_sure 88 = .ok (.iaload, 1) := by decide +kernel
theorem dX4_sure_89 : decode cX4_sure 89 = .ok (.invokestatic 198, 3) := by decide +kernel
theorem dX4_sure_92 : decode cX4_sure 92 = .ok (.iastore, 1) := by decide +kernel
theorem dX4_sure_93 : decode cX4_sure 93 = .ok (.iinc 4 1, 3) := by decide +kernel
theorem dX4_sure_96 : decode cX4_sure 96 = .ok (.goto (-47), 3) := by decide +kernel
theorem dX4_sure_99 : decode cX4_sure 99 = .ok (.aload_n 0, 1) := by decide +kernel
theorem dX4_sure_100 : decode cX4_sure 100 = .ok (.getfield 26, 3) := by decide +kernel
theorem dX4_sure_103 : decode cX4_sure 103 = .ok (.aload_n 0, 1) := by decide +kernel
theorem dX4_sure_104 : decode cX4_sure 104 = .ok (.getfield 10, 3) := by decide +kernel
theorem dX4_sure_107 : decode cX4_sure 107 = .ok (.aload_n 0, 1) := by decide +kernel
theorem dX4_sure_108 : decode cX4_sure 108 = .ok (.getfield 37, 3) := by decide +kernel
theorem dX4_sure_111 : decode cX4_sure 111 = .ok (.iload_n 1, 1) := by decide +kernel
theorem dX4_sure_112 : decode cX4_sure 112 = .ok (.invokevirtual 117, 3) := by decide +kernel
theorem dX4_sure_115 : decode cX4_sure 115 = .ok (.pop, 1) := by decide +kernel
theorem dX4_sure_116 : decode cX4_sure 116 = .ok (.aload_n 0, 1) := by decide +kernel
theorem dX4_sure_117 : decode cX4_sure 117 = .ok (.getfield 26, 3) := by decide +kernel
theorem dX4_sure_120 : decode cX4_sure 120 = .ok (.iload_n 3, 1) := by decide +kernel
theorem dX4_sure_121 : decode cX4_sure 121 = .ok (.invokevirtual 121, 3) := by decide +kernel
theorem dX4_sure_124 : decode cX4_sure 124 = .ok (.ireturn, 1) := by decide +kernel
theorem dX4_safest_0 : decode cX4_safest 0 = .ok (.iload_n 1, 1) := by decide +kernel
theorem dX4_safest_1 : decode cX4_safest 1 = .ok (.iload_n 2, 1) := by decide +kernel
theorem dX4_safest_2 : decode cX4_safest 2 = .ok (.invokestatic 105, 3) := by decide +kernel
theorem dX4_safest_5 : decode cX4_safest 5 = .ok (.ifCond .eq 14, 3) := by decide +kernel
theorem dX4_safest_8 : decode cX4_safest 8 = .ok (.iload_n 3, 1) := by decide +kernel
theorem dX4_safest_9 : decode cX4_safest 9 = .ok (.bipush (-2), 2) := by decide +kernel
theorem dX4_safest_11 : decode cX4_safest 11 = .ok (.if_icmp .lt 8, 3) := by decide +kernel
theorem dX4_safest_14 : decode cX4_safest 14 = .ok (.iload_n 3, 1) := by decide +kernel
theorem dX4_safest_15 : decode cX4_safest 15 = .ok (.iconst 5, 1) := by decide +kernel
theorem dX4_safest_16 : decode cX4_safest 16 = .ok (.if_icmp .lt 6, 3) := by decide +kernel
theorem dX4_safest_19 : decode cX4_safest 19 = .ok (.bipush (-2), 2) := by decide +kernel
theorem dX4_safest_21 : decode cX4_safest 21 = .ok (.ireturn, 1) := by decide +kernel
theorem dX4_safest_22 : decode cX4_safest 22 = .ok (.aload_n 0, 1) := by decide +kernel
theorem dX4_safest_23 : decode cX4_safest 23 = .ok (.iload_n 1, 1) := by decide +kernel
theorem dX4_safest_24 : decode cX4_safest 24 = .ok (.iload_n 2, 1) := by decide +kernel
theorem dX4_safest_25 : decode cX4_safest 25 = .ok (.invokevirtual 203, 3) := by decide +kernel
theorem dX4_safest_28 : decode cX4_safest 28 = .ok (.istore 4, 2) := by decide +kernel
theorem dX4_safest_30 : decode cX4_safest 30 = .ok (.iload_n 3, 1) := by decide +kernel
theorem dX4_safest_31 : decode cX4_safest 31 = .ok (.ifCond .ge 14, 3) := by decide +kernel
theorem dX4_safest_34 : decode cX4_safest 34 = .ok (.iload 4, 2) := by decide +kernel
theorem dX4_safest_36 : decode cX4_safest 36 = .ok (.ldc 206, 2) := by decide +kernel
theorem dX4_safest_38 : decode cX4_safest 38 = .ok (.iload_n 3, 1) := by decide +kernel
theorem dX4_safest_39 : decode cX4_safest 39 = .ok (.iconst 2, 1) := by decide +kernel
theorem dX4_safest_40 : decode cX4_safest 40 = .ok (.iadd, 1) := by decide +kernel
theorem dX4_safest_41 : decode cX4_safest 41 = .ok (.invokestatic 194, 3) := by decide +kernel
theorem dX4_safest_44 : decode cX4_safest 44 = .ok (.ireturn, 1) := by decide +kernel
theorem dX4_safest_45 : decode cX4_safest 45 = .ok (.aload_n 0, 1) := by decide +kernel
theorem dX4_safest_46 : decode cX4_safest 46 = .ok (.getfield 26, 3) := by decide +kernel
theorem dX4_safest_49 : decode cX4_safest 49 = .ok (.iload_n 3, 1) := by decide +kernel
theorem dX4_safest_50 : decode cX4_safest 50 = .ok (.invokevirtual 121, 3) := by decide +kernel
theorem dX4_safest_53 : decode cX4_safest 53 = .ok (.ireturn, 1) := by decide +kernel
theorem dX4_worth_0 : decode cX4_worth 0 = .ok (.iload_n 1, 1) := by decide +kernel
theorem dX4_worth_1 : decode cX4_worth 1 = .ok (.iload_n 2, 1) := by decide +kernel
theorem dX4_worth_2 : decode cX4_worth 2 = .ok (.invokestatic 105, 3) := by decide +kernel
theorem dX4_worth_5 : decode cX4_worth 5 = .ok (.ifCond .ne 6, 3) := by decide +kernel
theorem dX4_worth_8 : decode cX4_worth 8 = .ok (.bipush (-102), 2) := by decide +kernel
theorem dX4_worth_10 : decode cX4_worth 10 = .ok (.ireturn, 1) := by decide +kernel
theorem dX4_worth_11 : decode cX4_worth 11 = .ok (.iconst 0, 1) := by decide +kernel
theorem dX4_worth_12 : decode cX4_worth 12 = .ok (.istore_n 3, 1) := by decide +kernel
theorem dX4_worth_13 : decode cX4_worth 13 = .ok (.iconst 0, 1) := by decide +kernel
theorem dX4_worth_14 : decode cX4_worth 14 = .ok (.istore 4, 2) := by decide +kernel
theorem dX4_worth_16 : decode cX4_worth 16 = .ok (.iload_n 2, 1) := by decide +kernel
theorem dX4_worth_17 : decode cX4_worth 17 = .ok (.istore 5, 2) := by decide +kernel
theorem dX4_worth_19 : decode cX4_worth 19 = .ok (.iload 5, 2) := by decide +kernel
theorem dX4_worth_21 : decode cX4_worth 21 = .ok (.iload_n 2, 1) := by decide +kernel
theorem dX4_worth_22 : decode cX4_worth 22 = .ok (.bipush 10, 2) := by decide +kernel
theorem dX4_worth_24 : decode cX4_worth 24 = .ok (.iadd, 1) := by decide +kernel
theorem dX4_worth_25 : decode cX4_worth 25 = .ok (.if_icmp .ge 53, 3) := by decide +kernel
theorem dX4_worth_28 : decode cX4_worth 28 = .ok (.iload 5, 2) := by decide +kernel
theorem dX4_worth_30 : decode cX4_worth 30 = .ok (.bipush 99, 2) := by decide +kernel
theorem dX4_worth_32 : decode cX4_worth 32 = .ok (.if_icmp .gt 46, 3) := by decide +kernel
theorem dX4_worth_35 : decode cX4_worth 35 = .ok (.aload_n 0, 1) := by decide +kernel
theorem dX4_worth_36 : decode cX4_worth 36 = .ok (.getfield 10, 3) := by decide +kernel
theorem dX4_worth_39 : decode cX4_worth 39 = .ok (.iload 5, 2) := by decide +kernel
theorem dX4_worth_41 : decode cX4_worth 41 = .ok (.invokevirtual 91, 3) := by decide +kernel
theorem dX4_worth_44 : decode cX4_worth 44 = .ok (.istore 6, 2) := by decide +kernel
theorem dX4_worth_46 : decode cX4_worth 46 = .ok (.aload_n 0, 1) := by decide +kernel
theorem dX4_worth_47 : decode cX4_worth 47 = .ok (.iload_n 1, 1) := by decide +kernel
theorem dX4_worth_48 : decode cX4_worth 48 = .ok (.iload 5, 2) := by decide +kernel
theorem dX4_worth_50 : decode cX4_worth 50 = .ok (.invokevirtual 128, 3) := by decide +kernel
theorem dX4_worth_53 : decode cX4_worth 53 = .ok (.ifCond .eq 19, 3) := by decide +kernel
theorem dX4_worth_56 : decode cX4_worth 56 = .ok (.aload_n 0, 1) := by decide +kernel
theorem dX4_worth_57 : decode cX4_worth 57 = .ok (.iload_n 1, 1) := by decide +kernel
theorem dX4_worth_58 : decode cX4_worth 58 = .ok (.iload 5, 2) := by decide +kernel
theorem dX4_worth_60 : decode cX4_worth 60 = .ok (.iload 6, 2) := by decide +kernel
theorem dX4_worth_62 : decode cX4_worth 62 = .ok (.invokevirtual 131, 3) := by decide +kernel
theorem dX4_worth_65 : decode cX4_worth 65 = .ok (.iconst (-1), 1) := by decide +kernel
theorem dX4_worth_66 : decode cX4_worth 66 = .ok (.if_icmp .ne 6, 3) := by decide +kernel
theorem dX4_worth_69 : decode cX4_worth 69 = .ok (.iinc 3 1, 3) := by decide +kernel
theorem dX4_worth_72 : decode cX4_worth 72 = .ok (.iinc 5 1, 3) := by decide +kernel
theorem dX4_worth_75 : decode cX4_worth 75 = .ok (.goto (-56), 3) := by decide +kernel
theorem dX4_worth_78 : decode cX4_worth 78 = .ok (.aload_n 0, 1) := by decide +kernel
theorem dX4_worth_79 : decode cX4_worth 79 = .ok (.iload_n 1, 1) := by decide +kernel
theorem dX4_worth_80 : decode cX4_worth 80 = .ok (.iload_n 2, 1) := by decide +kernel
theorem dX4_worth_81 : decode cX4_worth 81 = .ok (.invokevirtual 128, 3) := by decide +kernel
theorem dX4_worth_84 : decode cX4_worth 84 = .ok (.ifCond .ne 5, 3) := by decide +kernel
theorem dX4_worth_87 : decode cX4_worth 87 = .ok (.iload_n 3, 1) := by decide +kernel
theorem dX4_worth_88 : decode cX4_worth 88 = .ok (.ireturn, 1) := by decide +kernel
theorem dX4_worth_89 : decode cX4_worth 89 = .ok (.iload_n 2, 1) := by decide +kernel
theorem dX4_worth_90 : decode cX4_worth 90 = .ok (.istore 5, 2) := by decide +kernel
theorem dX4_worth_92 : decode cX4_worth 92 = .ok (.iload 5, 2) := by decide +kernel
theorem dX4_worth_94 : decode cX4_worth 94 = .ok (.iload_n 2, 1) := by decide +kernel
theorem dX4_worth_95 : decode cX4_worth 95 = .ok (.bipush 10, 2) := by decide +kernel
theorem dX4_worth_97 : decode cX4_worth 97 = .ok (.iadd, 1) := by decide +kernel
theorem dX4_worth_98 : decode cX4_worth 98 = .ok (.if_icmp .ge 39, 3) := by decide +kernel
theorem dX4_worth_101 : decode cX4_worth 101 = .ok (.iload 5, 2) := by decide +kernel
theorem dX4_worth_103 : decode cX4_worth 103 = .ok (.bipush 99, 2) := by decide +kernel
theorem dX4_worth_105 : decode cX4_worth 105 = .ok (.if_icmp .gt 32, 3) := by decide +kernel
theorem dX4_worth_108 : decode cX4_worth 108 = .ok (.aload_n 0, 1) := by decide +kernel
theorem dX4_worth_109 : decode cX4_worth 109 = .ok (.iload_n 1, 1) := by decide +kernel
theorem dX4_worth_110 : decode cX4_worth 110 = .ok (.iload 5, 2) := by decide +kernel
theorem dX4_worth_112 : decode cX4_worth 112 = .ok (.aload_n 0, 1) := by decide +kernel
theorem dX4_worth_113 : decode cX4_worth 113 = .ok (.getfield 10, 3) := by decide +kernel
theorem dX4_worth_116 : decode cX4_worth 116 = .ok (.iload 5, 2) := by decide +kernel
theorem dX4_worth_118 : decode cX4_worth 118 = .ok (.invokevirtual 91, 3) := by decide +kernel
theorem dX4_worth_121 : decode cX4_worth 121 = .ok (.invokevirtual 131, 3) := by decide +kernel
theorem dX4_worth_124 : decode cX4_worth 124 = .ok (.iconst (-1), 1) := by decide +kernel
theorem dX4_worth_125 : decode cX4_worth 125 = .ok (.if_icmp .ne 6, 3) := by decide +kernel
theorem dX4_worth_128 : decode cX4_worth 128 = .ok (.iinc 4 1, 3) := by decide +kernel
theorem dX4_worth_131 : decode cX4_worth 131 = .ok (.iinc 5 1, 3) := by decide +kernel
theorem dX4_worth_134 : decode cX4_worth 134 = .ok (.goto (-42), 3) := by decide +kernel
theorem dX4_worth_137 : decode cX4_worth 137 = .ok (.iload_n 3, 1) := by decide +kernel
theorem dX4_worth_138 : decode cX4_worth 138 = .ok (.iload 4, 2) := by decide +kernel
theorem dX4_worth_140 : decode cX4_worth 140 = .ok (.isub, 1) := by decide +kernel
theorem dX4_worth_141 : decode cX4_worth 141 = .ok (.ireturn, 1) := by decide +kernel
theorem dX4_season_0 : decode cX4_season 0 = .ok (.iload_n 2, 1) := by decide +kernel
theorem dX4_season_1 : decode cX4_season 1 = .ok (.iload_n 3, 1) := by decide +kernel
theorem dX4_season_2 : decode cX4_season 2 = .ok (.invokestatic 105, 3) := by decide +kernel
theorem dX4_season_5 : decode cX4_season 5 = .ok (.ifCond .eq 15, 3) := by decide +kernel
theorem dX4_season_8 : decode cX4_season 8 = .ok (.iload 4, 2) := by decide +kernel
theorem dX4_season_10 : decode cX4_season 10 = .ok (.ifCond .lt 10, 3) := by decide +kernel
theorem dX4_season_13 : decode cX4_season 13 = .ok (.iload 4, 2) := by decide +kernel
theorem dX4_season_15 : decode cX4_season 15 = .ok (.bipush 40, 2) := by decide +kernel
theorem dX4_season_17 : decode cX4_season 17 = .ok (.if_icmp .le 6, 3) := by decide +kernel
theorem dX4_season_20 : decode cX4_season 20 = .ok (.bipush (-2), 2) := by decide +kernel
theorem dX4_season_22 : decode cX4_season 22 = .ok (.ireturn, 1) := by decide +kernel
theorem dX4_season_23 : decode cX4_season 23 = .ok (.iload_n 1, 1) := by decide +kernel
theorem dX4_season_24 : decode cX4_season 24 = .ok (.istore 5, 2) := by decide +kernel
theorem dX4_season_26 : decode cX4_season 26 = .ok (.iconst 0, 1) := by decide +kernel
theorem dX4_season_27 : decode cX4_season 27 = .ok (.istore 6, 2) := by decide +kernel
theorem dX4_season_29 : decode cX4_season 29 = .ok (.iload_n 3, 1) := by decide +kernel
theorem dX4_season_30 : decode cX4_season 30 = .ok (.istore 7, 2) := by decide +kernel
theorem dX4_season_32 : decode cX4_season 32 = .ok (.iload 7, 2) := by decide +kernel
theorem dX4_season_34 : decode cX4_season 34 = .ok (.iload_n 3, 1) := by decide +kernel
theorem dX4_season_35 : decode cX4_season 35 = .ok (.iload 4, 2) := by decide +kernel
theorem dX4_season_37 : decode cX4_season 37 = .ok (.iadd, 1) := by decide +kernel
theorem dX4_season_38 : decode cX4_season 38 = .ok (.if_icmp .ge 99, 3) := by decide +kernel
theorem dX4_season_41 : decode cX4_season 41 = .ok (.iload 7, 2) := by decide +kernel
theorem dX4_season_43 : decode cX4_season 43 = .ok (.bipush 99, 2) := by decide +kernel
theorem dX4_season_45 : decode cX4_season 45 = .ok (.if_icmp .gt 92, 3) := by decide +kernel
theorem dX4_season_48 : decode cX4_season 48 = .ok (.ldc 207, 2) := by decide +kernel
theorem dX4_season_50 : decode cX4_season 50 = .ok (.iload 5, 2) := by decide +kernel
theorem dX4_season_52 : decode cX4_season 52 = .ok (.imul, 1) := by decide +kernel
theorem dX4_season_53 : decode cX4_season 53 = .ok (.sipush 12345, 3) := by decide +kernel
theorem dX4_season_56 : decode cX4_season 56 = .ok (.iadd, 1) := by decide +kernel
theorem dX4_season_57 : decode cX4_season 57 = .ok (.istore 5, 2) := by decide +kernel
theorem dX4_season_59 : decode cX4_season 59 = .ok (.iload 5, 2) := by decide +kernel
theorem dX4_season_61 : decode cX4_season 61 = .ok (.bipush 16, 2) := by decide +kernel
theorem dX4_season_63 : decode cX4_season 63 = .ok (.iushr, 1) := by decide +kernel
theorem dX4_season_64 : decode cX4_season 64 = .ok (.bipush 16, 2) := by decide +kernel
theorem dX4_season_66 : decode cX4_season 66 = .ok (.irem, 1) := by decide +kernel
theorem dX4_season_67 : decode cX4_season 67 = .ok (.aload_n 0, 1) := by decide +kernel
theorem dX4_season_68 : decode cX4_season 68 = .ok (.getfield 44, 3) := by decide +kernel
theorem dX4_season_71 : decode cX4_season 71 = .ok (.if_icmp .ge 7, 3) := by decide +kernel
theorem dX4_season_74 : decode cX4_season 74 = .ok (.iconst 1, 1) := by decide +kernel
theorem dX4_season_75 : decode cX4_season 75 = .ok (.goto 4, 3) := by decide +kernel
theorem dX4_season_78 : decode cX4_season 78 = .ok (.iconst 0, 1) := by decide +kernel
theorem dX4_season_79 : decode cX4_season 79 = .ok (.istore 8, 2) := by decide +kernel
theorem dX4_season_81 : decode cX4_season 81 = .ok (.iload 8, 2) := by decide +kernel
theorem dX4_season_83 : decode cX4_season 83 = .ok (.ifCond .ne 15, 3) := by decide +kernel
theorem dX4_season_86 : decode cX4_season 86 = .ok (.aload_n 0, 1) := by decide +kernel
theorem dX4_season_87 : decode cX4_season 87 = .ok (.getfield 10, 3) := by decide +kernel
theorem dX4_season_90 : decode cX4_season 90 = .ok (.iload 7, 2) := by decide +kernel
theorem dX4_season_92 : decode cX4_season 92 = .ok (.invokevirtual 91, 3) := by decide +kernel
theorem dX4_season_95 : decode cX4_season 95 = .ok (.ifCond .eq 7, 3) := by decide +kernel
theorem dX4_season_98 : decode cX4_season 98 = .ok (.iconst 1, 1) := by decide +kernel
theorem dX4_season_99 : decode cX4_season 99 = .ok (.goto 4, 3) := by decide +kernel
theorem dX4_season_102 : decode cX4_season 102 = .ok (.iconst 0, 1) := by decide +kernel
theorem dX4_season_103 : decode cX4_season 103 = .ok (.istore 9, 2) := by decide +kernel
theorem dX4_season_105 : decode cX4_season 105 = .ok (.aload_n 0, 1) := by decide +kernel
theorem dX4_season_106 : decode cX4_season 106 = .ok (.iload_n 2, 1) := by decide +kernel
theorem dX4_season_107 : decode cX4_season 107 = .ok (.iload 7, 2) := by decide +kernel
theorem dX4_season_109 : decode cX4_season 109 = .ok (.invokevirtual 128, 3) := by decide +kernel
theorem dX4_season_112 : decode cX4_season 112 = .ok (.ifCond .eq 19, 3) := by decide +kernel
theorem dX4_season_115 : decode cX4_season 115 = .ok (.aload_n 0, 1) := by decide +kernel
theorem dX4_season_116 : decode cX4_season 116 = .ok (.iload_n 2, 1) := by decide +kernel
theorem dX4_season_117 : decode cX4_season 117 = .ok (.iload 7, 2) := by decide +kernel
theorem dX4_season_119 : decode cX4_season 119 = .ok (.iload 9, 2) := by decide +kernel
theorem dX4_season_121 : decode cX4_season 121 = .ok (.invokevirtual 131, 3) := by decide +kernel
theorem dX4_season_124 : decode cX4_season 124 = .ok (.iconst (-1), 1) := by decide +kernel
theorem dX4_season_125 : decode cX4_season 125 = .ok (.if_icmp .ne 6, 3) := by decide +kernel
theorem dX4_season_128 : decode cX4_season 128 = .ok (.iinc 6 1, 3) := by decide +kernel
theorem dX4_season_131 : decode cX4_season 131 = .ok (.iinc 7 1, 3) := by decide +kernel
theorem dX4_season_134 : decode cX4_season 134 = .ok (.goto (-102), 3) := by decide +kernel
theorem dX4_season_137 : decode cX4_season 137 = .ok (.iload 6, 2) := by decide +kernel
theorem dX4_season_139 : decode cX4_season 139 = .ok (.ireturn, 1) := by decide +kernel
theorem dX4_sheet_0 : decode cX4_sheet 0 = .ok (.aload_n 0, 1) := by decide +kernel
theorem dX4_sheet_1 : decode cX4_sheet 1 = .ok (.iload_n 1, 1) := by decide +kernel
theorem dX4_sheet_2 : decode cX4_sheet 2 = .ok (.invokevirtual 159, 3) := by decide +kernel
theorem dX4_sheet_5 : decode cX4_sheet 5 = .ok (.astore 4, 2) := by decide +kernel
theorem dX4_sheet_7 : decode cX4_sheet 7 = .ok (.aload 4, 2) := by decide +kernel
theorem dX4_sheet_9 : decode cX4_sheet 9 = .ok (.ifnull 16, 3) := by decide +kernel
theorem dX4_sheet_12 : decode cX4_sheet 12 = .ok (.iload_n 2, 1) := by decide +kernel
theorem dX4_sheet_13 : decode cX4_sheet 13 = .ok (.invokestatic 208, 3) := by decide +kernel
theorem dX4_sheet_16 : decode cX4_sheet 16 = .ok (.ifCond .eq 9, 3) := by decide +kernel
theorem dX4_sheet_19 : decode cX4_sheet 19 = .ok (.iload_n 3, 1) := by decide +kernel
theorem dX4_sheet_20 : decode cX4_sheet 20 = .ok (.bipush 60, 2) := by decide +kernel
theorem dX4_sheet_22 : decode cX4_sheet 22 = .ok (.if_icmp .le 6, 3) := by decide +kernel
theorem dX4_sheet_25 : decode cX4_sheet 25 = .ok (.bipush (-2), 2) := by decide +kernel
theorem dX4_sheet_27 : decode cX4_sheet 27 = .ok (.ireturn, 1) := by decide +kernel
theorem dX4_sheet_28 : decode cX4_sheet 28 = .ok (.iload_n 3, 1) := by decide +kernel
theorem dX4_sheet_29 : decode cX4_sheet 29 = .ok (.ifCond .ge 9, 3) := by decide +kernel
theorem dX4_sheet_32 : decode cX4_sheet 32 = .ok (.aload_n 0, 1) := by decide +kernel
theorem dX4_sheet_33 : decode cX4_sheet 33 = .ok (.iconst 5, 1) := by decide +kernel
theorem dX4_sheet_34 : decode cX4_sheet 34 = .ok (.invokevirtual 166, 3) := by decide +kernel
theorem dX4_sheet_37 : decode cX4_sheet 37 = .ok (.ireturn, 1) := by decide +kernel
theorem dX4_sheet_38 : decode cX4_sheet 38 = .ok (.aload 4, 2) := by decide +kernel
theorem dX4_sheet_40 : decode cX4_sheet 40 = .ok (.iload_n 2, 1) := by decide +kernel
theorem dX4_sheet_41 : decode cX4_sheet 41 = .ok (.iload_n 3, 1) := by decide +kernel
theorem dX4_sheet_42 : decode cX4_sheet 42 = .ok (.invokevirtual 211, 3) := by decide +kernel
theorem dX4_sheet_45 : decode cX4_sheet 45 = .ok (.iload_n 3, 1) := by decide +kernel
theorem dX4_sheet_46 : decode cX4_sheet 46 = .ok (.ireturn, 1) := by decide +kernel
theorem dX4_lose_0 : decode cX4_lose 0 = .ok (.aload_n 0, 1) := by decide +kernel
theorem dX4_lose_1 : decode cX4_lose 1 = .ok (.iload_n 1, 1) := by decide +kernel
theorem dX4_lose_2 : decode cX4_lose 2 = .ok (.invokevirtual 159, 3) := by decide +kernel
theorem dX4_lose_5 : decode cX4_lose 5 = .ok (.astore_n 2, 1) := by decide +kernel
theorem dX4_lose_6 : decode cX4_lose 6 = .ok (.aload_n 2, 1) := by decide +kernel
theorem dX4_lose_7 : decode cX4_lose 7 = .ok (.ifnonnull 6, 3) := by decide +kernel
theorem dX4_lose_10 : decode cX4_lose 10 = .ok (.bipush (-2), 2) := by decide +kernel
theorem dX4_lose_12 : decode cX4_lose 12 = .ok (.ireturn, 1) := by decide +kernel
theorem dX4_lose_13 : decode cX4_lose 13 = .ok (.aload_n 2, 1) := by decide +kernel
theorem dX4_lose_14 : decode cX4_lose 14 = .ok (.invokevirtual 163, 3) := by decide +kernel
theorem dX4_lose_17 : decode cX4_lose 17 = .ok (.ifCond .eq 9, 3) := by decide +kernel
theorem dX4_lose_20 : decode cX4_lose 20 = .ok (.aload_n 0, 1) := by decide +kernel
theorem dX4_lose_21 : decode cX4_lose 21 = .ok (.iconst 1, 1) := by decide +kernel
theorem dX4_lose_22 : decode cX4_lose 22 = .ok (.invokevirtual 166, 3) := by decide +kernel
theorem dX4_lose_25 : decode cX4_lose 25 = .ok (.ireturn, 1) := by decide +kernel
theorem dX4_lose_26 : decode cX4_lose 26 = .ok (.aload_n 2, 1) := by decide +kernel
theorem dX4_lose_27 : decode cX4_lose 27 = .ok (.getfield 169, 3) := by decide +kernel
theorem dX4_lose_30 : decode cX4_lose 30 = .ok (.istore_n 3, 1) := by decide +kernel
theorem dX4_lose_31 : decode cX4_lose 31 = .ok (.aload_n 2, 1) := by decide +kernel
theorem dX4_lose_32 : decode cX4_lose 32 = .ok (.iconst (-1), 1) := by decide +kernel
theorem dX4_lose_33 : decode cX4_lose 33 = .ok (.iconst 0, 1) := by decide +kernel
theorem dX4_lose_34 : decode cX4_lose 34 = .ok (.invokevirtual 211, 3) := by decide +kernel
theorem dX4_lose_37 : decode cX4_lose 37 = .ok (.iload_n 3, 1) := by decide +kernel
theorem dX4_lose_38 : decode cX4_lose 38 = .ok (.ireturn, 1) := by decide +kernel
theorem dX4_lay_0 : decode cX4_lay 0 = .ok (.aload_n 0, 1) := by decide +kernel
theorem dX4_lay_1 : decode cX4_lay 1 = .ok (.iload_n 1, 1) := by decide +kernel
theorem dX4_lay_2 : decode cX4_lay 2 = .ok (.invokevirtual 159, 3) := by decide +kernel
theorem dX4_lay_5 : decode cX4_lay 5 = .ok (.astore 5, 2) := by decide +kernel
theorem dX4_lay_7 : decode cX4_lay 7 = .ok (.aload_n 0, 1) := by decide +kernel
theorem dX4_lay_8 : decode cX4_lay 8 = .ok (.aload 5, 2) := by decide +kernel
theorem dX4_lay_10 : decode cX4_lay 10 = .ok (.iload_n 2, 1) := by decide +kernel
theorem dX4_lay_11 : decode cX4_lay 11 = .ok (.iload_n 3, 1) := by decide +kernel
theorem dX4_lay_12 : decode cX4_lay 12 = .ok (.invokevirtual 215, 3) := by decide +kernel
theorem dX4_lay_15 : decode cX4_lay 15 = .ok (.istore 6, 2) := by decide +kernel
theorem dX4_lay_17 : decode cX4_lay 17 = .ok (.aload 5, 2) := by decide +kernel
theorem dX4_lay_19 : decode cX4_lay 19 = .ok (.ifnull 8, 3) := by decide +kernel
theorem dX4_lay_22 : decode cX4_lay 22 = .ok (.iload 6, 2) := by decide +kernel
theorem dX4_lay_24 : decode cX4_lay 24 = .ok (.ifCond .eq 6, 3) := by decide +kernel
theorem dX4_lay_27 : decode cX4_lay 27 = .ok (.iload 6, 2) := by decide +kernel
theorem dX4_lay_29 : decode cX4_lay 29 = .ok (.ireturn, 1) := by decide +kernel
theorem dX4_lay_30 : decode cX4_lay 30 = .ok (.aload 5, 2) := by decide +kernel
theorem dX4_lay_32 : decode cX4_lay 32 = .ok (.iload_n 3, 1) := by decide +kernel
theorem dX4_lay_33 : decode cX4_lay 33 = .ok (.iload 4, 2) := by decide +kernel
theorem dX4_lay_35 : decode cX4_lay 35 = .ok (.invokevirtual 219, 3) := by decide +kernel
theorem dX4_lay_38 : decode cX4_lay 38 = .ok (.iconst 1, 1) := by decide +kernel
theorem dX4_lay_39 : decode cX4_lay 39 = .ok (.ireturn, 1) := by decide +kernel
theorem dX4_get_0 : decode cX4_get 0 = .ok (.aload_n 0, 1) := by decide +kernel
theorem dX4_get_1 : decode cX4_get 1 = .ok (.iload_n 1, 1) := by decide +kernel
theorem dX4_get_2 : decode cX4_get 2 = .ok (.invokevirtual 159, 3) := by decide +kernel
theorem dX4_get_5 : decode cX4_get 5 = .ok (.astore 4, 2) := by decide +kernel
theorem dX4_get_7 : decode cX4_get 7 = .ok (.aload_n 0, 1) := by decide +kernel
theorem dX4_get_8 : decode cX4_get 8 = .ok (.aload 4, 2) := by decide +kernel
theorem dX4_get_10 : decode cX4_get 10 = .ok (.iload_n 2, 1) := by decide +kernel
theorem dX4_get_11 : decode cX4_get 11 = .ok (.iload_n 3, 1) := by decide +kernel
theorem dX4_get_12 : decode cX4_get 12 = .ok (.invokevirtual 215, 3) := by decide +kernel
theorem dX4_get_15 : decode cX4_get 15 = .ok (.istore 5, 2) := by decide +kernel
theorem dX4_get_17 : decode cX4_get 17 = .ok (.aload 4, 2) := by decide +kernel
theorem dX4_get_19 : decode cX4_get 19 = .ok (.ifnull 8, 3) := by decide +kernel
theorem dX4_get_22 : decode cX4_get 22 = .ok (.iload 5, 2) := by decide +kernel
theorem dX4_get_24 : decode cX4_get 24 = .ok (.ifCond .eq 6, 3) := by decide +kernel
theorem dX4_get_27 : decode cX4_get 27 = .ok (.ldc 222, 2) := by decide +kernel
theorem dX4_get_29 : decode cX4_get 29 = .ok (.ireturn, 1) := by decide +kernel
theorem dX4_get_30 : decode cX4_get 30 = .ok (.aload 4, 2) := by decide +kernel
theorem dX4_get_32 : decode cX4_get 32 = .ok (.iload_n 3, 1) := by decide +kernel
theorem dX4_get_33 : decode cX4_get 33 = .ok (.invokevirtual 170, 3) := by decide +kernel
theorem dX4_get_36 : decode cX4_get 36 = .ok (.ireturn, 1) := by decide +kernel
theorem dX4_copy_0 : decode cX4_copy 0 = .ok (.aload_n 0, 1) := by decide +kernel
theorem dX4_copy_1 : decode cX4_copy 1 = .ok (.iload_n 1, 1) := by decide +kernel
theorem dX4_copy_2 : decode cX4_copy 2 = .ok (.invokevirtual 159, 3) := by decide +kernel
theorem dX4_copy_5 : decode cX4_copy 5 = .ok (.astore 6, 2) := by decide +kernel
theorem dX4_copy_7 : decode cX4_copy 7 = .ok (.aload_n 0, 1) := by decide +kernel
theorem dX4_copy_8 : decode cX4_copy 8 = .ok (.iload_n 3, 1) := by decide +kernel
theorem dX4_copy_9 : decode cX4_copy 9 = .ok (.invokevirtual 159, 3) := by decide +kernel
theorem dX4_copy_12 : decode cX4_copy 12 = .ok (.astore 7, 2) := by decide +kernel
theorem dX4_copy_14 : decode cX4_copy 14 = .ok (.aload 6, 2) := by decide +kernel
theorem dX4_copy_16 : decode cX4_copy 16 = .ok (.ifnull 8, 3) := by decide +kernel
theorem dX4_copy_19 : decode cX4_copy 19 = .ok (.aload 7, 2) := by decide +kernel
theorem dX4_copy_21 : decode cX4_copy 21 = .ok (.ifnonnull 6, 3) := by decide +kernel
theorem dX4_copy_24 : decode cX4_copy 24 = .ok (.bipush (-2), 2) := by decide +kernel
theorem dX4_copy_26 : decode cX4_copy 26 = .ok (.ireturn, 1) := by decide +kernel
theorem dX4_copy_27 : decode cX4_copy 27 = .ok (.aload 6, 2) := by decide +kernel
theorem dX4_copy_29 : decode cX4_copy 29 = .ok (.invokevirtual 163, 3) := by decide +kernel
theorem dX4_copy_32 : decode cX4_copy 32 = .ok (.ifCond .ne 11, 3) := by decide +kernel
theorem dX4_copy_35 : decode cX4_copy 35 = .ok (.aload 7, 2) := by decide +kernel
theorem dX4_copy_37 : decode cX4_copy 37 = .ok (.invokevirtual 163, 3) := by decide +kernel
theorem dX4_copy_40 : decode cX4_copy 40 = .ok (.ifCond .eq 9, 3) := by decide +kernel
theorem dX4_copy_43 : decode cX4_copy 43 = .ok (.aload_n 0, 1) := by decide +kernel
theorem dX4_copy_44 : decode cX4_copy 44 = .ok (.iconst 1, 1) := by decide +kernel
theorem dX4_copy_45 : decode cX4_copy 45 = .ok (.invokevirtual 166, 3) := by decide +kernel
theorem dX4_copy_48 : decode cX4_copy 48 = .ok (.ireturn, 1) := by decide +kernel
theorem dX4_copy_49 : decode cX4_copy 49 = .ok (.aload 6, 2) := by decide +kernel
theorem dX4_copy_51 : decode cX4_copy 51 = .ok (.getfield 223, 3) := by decide +kernel
theorem dX4_copy_54 : decode cX4_copy 54 = .ok (.aload 7, 2) := by decide +kernel
theorem dX4_copy_56 : decode cX4_copy 56 = .ok (.getfield 223, 3) := by decide +kernel
theorem dX4_copy_59 : decode cX4_copy 59 = .ok (.if_icmp .eq 9, 3) := by decide +kernel
theorem dX4_copy_62 : decode cX4_copy 62 = .ok (.aload_n 0, 1) := by decide +kernel
theorem dX4_copy_63 : decode cX4_copy 63 = .ok (.iconst 4, 1) := by decide +kernel
theorem dX4_copy_64 : decode cX4_copy 64 = .ok (.invokevirtual 166, 3) := by decide +kernel
theorem dX4_copy_67 : decode cX4_copy 67 = .ok (.ireturn, 1) := by decide +kernel
theorem dX4_copy_68 : decode cX4_copy 68 = .ok (.aload 6, 2) := by decide +kernel
theorem dX4_copy_70 : decode cX4_copy 70 = .ok (.iload_n 2, 1) := by decide +kernel
theorem dX4_copy_71 : decode cX4_copy 71 = .ok (.iload 5, 2) := by decide +kernel
theorem dX4_copy_73 : decode cX4_copy 73 = .ok (.invokevirtual 226, 3) := by decide +kernel
theorem dX4_copy_76 : decode cX4_copy 76 = .ok (.ifCond .eq 15, 3) := by decide +kernel
theorem dX4_copy_79 : decode cX4_copy 79 = .ok (.aload 7, 2) := by decide +kernel
theorem dX4_copy_81 : decode cX4_copy 81 = .ok (.iload 4, 2) := by decide +kernel
theorem dX4_copy_83 : decode cX4_copy 83 = .ok (.iload 5, 2) := by decide +kernel
theorem dX4_copy_85 : decode cX4_copy 85 = .ok (.invokevirtual 226, 3) := by decide +kernel
theorem dX4_copy_88 : decode cX4_copy 88 = .ok (.ifCond .ne 9, 3) := by decide +kernel
theorem dX4_copy_91 : decode cX4_copy 91 = .ok (.aload_n 0, 1) := by decide +kernel
theorem dX4_copy_92 : decode cX4_copy 92 = .ok (.iconst 2, 1) := by decide +kernel
theorem dX4_copy_93 : decode cX4_copy 93 = .ok (.invokevirtual 166, 3) := by decide +kernel
theorem dX4_copy_96 : decode cX4_copy 96 = .ok (.ireturn, 1) := by decide +kernel
theorem dX4_copy_97 : decode cX4_copy 97 = .ok (.aload 6, 2) := by decide +kernel
theorem dX4_copy_99 : decode cX4_copy 99 = .ok (.getfield 229, 3) := by decide +kernel
theorem dX4_copy_102 : decode cX4_copy 102 = .ok (.iload_n 2, 1) := by decide +kernel
theorem dX4_copy_103 : decode cX4_copy 103 = .ok (.aload 7, 2) := by decide +kernel
theorem dX4_copy_105 : decode cX4_copy 105 = .ok (.getfield 229, 3) := by decide +kernel
theorem dX4_copy_108 : decode cX4_copy 108 = .ok (.iload 4, 2) := by decide +kernel
theorem dX4_copy_110 : decode cX4_copy 110 = .ok (.iload 5, 2) := by decide +kernel
theorem dX4_copy_112 : decode cX4_copy 112 = .ok (.invokestatic 232, 3) := by decide +kernel
theorem dX4_copy_115 : decode cX4_copy 115 = .ok (.iconst 1, 1) := by decide +kernel
theorem dX4_copy_116 : decode cX4_copy 116 = .ok (.ireturn, 1) := by decide +kernel
theorem dX4_write_0 : decode cX4_write 0 = .ok (.aload_n 0, 1) := by decide +kernel
theorem dX4_write_1 : decode cX4_write 1 = .ok (.iload_n 3, 1) := by decide +kernel
theorem dX4_write_2 : decode cX4_write 2 = .ok (.invokevirtual 159, 3) := by decide +kernel
theorem dX4_write_5 : decode cX4_write 5 = .ok (.astore 4, 2) := by decide +kernel
theorem dX4_write_7 : decode cX4_write 7 = .ok (.iload_n 1, 1) := by decide +kernel
theorem dX4_write_8 : decode cX4_write 8 = .ok (.ifCond .lt 20, 3) := by decide +kernel
theorem dX4_write_11 : decode cX4_write 11 = .ok (.iload_n 1, 1) := by decide +kernel
theorem dX4_write_12 : decode cX4_write 12 = .ok (.iconst 1, 1) := by decide +kernel
theorem dX4_write_13 : decode cX4_write 13 = .ok (.if_icmp .gt 15, 3) := by decide +kernel
theorem dX4_write_16 : decode cX4_write 16 = .ok (.iload_n 2, 1) := by decide +kernel
theorem dX4_write_17 : decode cX4_write 17 = .ok (.invokestatic 75, 3) := by decide +kernel
theorem dX4_write_20 : decode cX4_write 20 = .ok (.ifCond .eq 8, 3) := by decide +kernel
theorem dX4_write_23 : decode cX4_write 23 = .ok (.aload 4, 2) := by decide +kernel
theorem dX4_write_25 : decode cX4_write 25 = .ok (.ifnonnull 6, 3) := by decide +kernel
theorem dX4_write_28 : decode cX4_write 28 = .ok (.bipush (-2), 2) := by decide +kernel
theorem dX4_write_30 : decode cX4_write 30 = .ok (.ireturn, 1) := by decide +kernel
theorem dX4_write_31 : decode cX4_write 31 = .ok (.aload 4, 2) := by decide +kernel
theorem dX4_write_33 : decode cX4_write 33 = .ok (.invokevirtual 163, 3) := by decide +kernel
theorem dX4_write_36 : decode cX4_write 36 = .ok (.ifCond .eq 9, 3) := by decide +kernel
theorem dX4_write_39 : decode cX4_write 39 = .ok (.aload_n 0, 1) := by decide +kernel
theorem dX4_write_40 : decode cX4_write 40 = .ok (.iconst 1, 1) := by decide +kernel
theorem dX4_write_41 : decode cX4_write 41 = .ok (.invokevirtual 166, 3) := by decide +kernel
theorem dX4_write_44 : decode cX4_write 44 = .ok (.ireturn, 1) := by decide +kernel
theorem dX4_write_45 : decode cX4_write 45 = .ok (.iconst 0, 1) := by decide +kernel
theorem dX4_write_46 : decode cX4_write 46 = .ok (.istore 5, 2) := by decide +kernel
theorem dX4_write_48 : decode cX4_write 48 = .ok (.iconst 0, 1) := by decide +kernel
theorem dX4_write_49 : decode cX4_write 49 = .ok (.istore 6, 2) := by decide +kernel
theorem dX4_write_51 : decode cX4_write 51 = .ok (.iload 6, 2) := by decide +kernel
theorem dX4_write_53 : decode cX4_write 53 = .ok (.aload_n 0, 1) := by decide +kernel
theorem dX4_write_54 : decode cX4_write 54 = .ok (.getfield 10, 3) := by decide +kernel
theorem dX4_write_57 : decode cX4_write 57 = .ok (.getfield 62, 3) := by decide +kernel
theorem dX4_write_60 : decode cX4_write 60 = .ok (.if_icmp .ge 50, 3) := by decide +kernel
theorem dX4_write_63 : decode cX4_write 63 = .ok (.iload 6, 2) := by decide +kernel
theorem dX4_write_65 : decode cX4_write 65 = .ok (.aload 4, 2) := by decide +kernel
theorem dX4_write_67 : decode cX4_write 67 = .ok (.getfield 169, 3) := by decide +kernel
theorem dX4_write_70 : decode cX4_write 70 = .ok (.if_icmp .ge 40, 3) := by decide +kernel
theorem dX4_write_73 : decode cX4_write 73 = .ok (.aload 4, 2) := by decide +kernel
theorem dX4_write_75 : decode cX4_write 75 = .ok (.iload 6, 2) := by decide +kernel
theorem dX4_write_77 : decode cX4_write 77 = .ok (.iload_n 1, 1) := by decide +kernel
theorem dX4_write_78 : decode cX4_write 78 = .ok (.ifCond .ne 13, 3) := by decide +kernel
theorem dX4_write_81 : decode cX4_write 81 = .ok (.aload_n 0, 1) := by decide +kernel
theorem dX4_write_82 : decode cX4_write 82 = .ok (.iload 6, 2) := by decide +kernel
theorem dX4_write_84 : decode cX4_write 84 = .ok (.iload_n 2, 1) := by decide +kernel
theorem dX4_write_85 : decode cX4_write 85 = .ok (.invokevirtual 102, 3) := by decide +kernel
theorem dX4_write_88 : decode cX4_write 88 = .ok (.goto 10, 3) := by decide +kernel
theorem dX4_write_91 : decode cX4_write 91 = .ok (.aload_n 0, 1) := by decide +kernel
theorem dX4_write_92 : decode cX4_write 92 = .ok (.iload 6, 2) := by decide +kernel
theorem dX4_write_94 : decode cX4_write 94 = .ok (.iload_n 2, 1) := by decide +kernel
theorem dX4_write_95 : decode cX4_write 95 = .ok (.invokevirtual 238, 3) := by decide +kernel
theorem dX4_write_98 : decode cX4_write 98 = .ok (.invokevirtual 219, 3) := by decide +kernel
theorem dX4_write_101 : decode cX4_write 101 = .ok (.iinc 5 1, 3) := by decide +kernel
theorem dX4_write_104 : decode cX4_write 104 = .ok (.iinc 6 1, 3) := by decide +kernel
theorem dX4_write_107 : decode cX4_write 107 = .ok (.goto (-56), 3) := by decide +kernel
theorem dX4_write_110 : decode cX4_write 110 = .ok (.iload 5, 2) := by decide +kernel
theorem dX4_write_112 : decode cX4_write 112 = .ok (.ireturn, 1) := by decide +kernel
theorem dX4_count_0 : decode cX4_count 0 = .ok (.iload_n 1, 1) := by decide +kernel
theorem dX4_count_1 : decode cX4_count 1 = .ok (.tableswitch 114 0 8 #[51, 59, 67, 75, 83, 88, 96, 104, 109], 51) := by decide +kernel
theorem dX4_count_52 : decode cX4_count 52 = .ok (.aload_n 0, 1) := by decide +kernel
theorem dX4_count_53 : decode cX4_count 53 = .ok (.getfield 10, 3) := by decide +kernel
theorem dX4_count_56 : decode cX4_count 56 = .ok (.getfield 62, 3) := by decide +kernel
theorem dX4_count_59 : decode cX4_count 59 = .ok (.ireturn, 1) := by decide +kernel
theorem dX4_count_60 : decode cX4_count 60 = .ok (.aload_n 0, 1) := by decide +kernel
theorem dX4_count_61 : decode cX4_count 61 = .ok (.getfield 10, 3) := by decide +kernel
theorem dX4_count_64 : decode cX4_count 64 = .ok (.getfield 55, 3) := by decide +kernel
theorem dX4_count_67 : decode cX4_count 67 = .ok (.ireturn, 1) := by decide +kernel
theorem dX4_count_68 : decode cX4_count 68 = .ok (.aload_n 0, 1) := by decide +kernel
theorem dX4_count_69 : decode cX4_count 69 = .ok (.getfield 10, 3) := by decide +kernel
theorem dX4_count_72 : decode cX4_count 72 = .ok (.getfield 81, 3) := by decide +kernel
theorem dX4_count_75 : decode cX4_count 75 = .ok (.ireturn, 1) := by decide +kernel
theorem dX4_count_76 : decode cX4_count 76 = .ok (.aload_n 0, 1) := by decide +kernel
theorem dX4_count_77 : decode cX4_count 77 = .ok (.getfield 19, 3) := by decide +kernel
theorem dX4_count_80 : decode cX4_count 80 = .ok (.getfield 153, 3) := by decide +kernel
theorem dX4_count_83 : decode cX4_count 83 = .ok (.ireturn, 1) := by decide +kernel
theorem dX4_count_84 : decode cX4_count 84 = .ok (.aload_n 0, 1) := by decide +kernel
theorem dX4_count_85 : decode cX4_count 85 = .ok (.getfield 44, 3) := by decide +kernel
theorem dX4_count_88 : decode cX4_count 88 = .ok (.ireturn, 1) := by decide +kernel
theorem dX4_count_89 : decode cX4_count 89 = .ok (.aload_n 0, 1) := by decide +kernel
theorem dX4_count_90 : decode cX4_count 90 = .ok (.getfield 10, 3) := by decide +kernel
theorem dX4_count_93 : decode cX4_count 93 = .ok (.invokevirtual 241, 3) := by decide +kernel
theorem dX4_count_96 : decode cX4_count 96 = .ok (.ireturn, 1) := by decide +kernel
theorem dX4_count_97 : decode cX4_count 97 = .ok (.aload_n 0, 1) := by decide +kernel
theorem dX4_count_98 : decode cX4_count 98 = .ok (.getfield 10, 3) := by decide +kernel
theorem dX4_count_101 : decode cX4_count 101 = .ok (.invokevirtual 245, 3) := by decide +kernel
theorem dX4_count_104 : decode cX4_count 104 = .ok (.ireturn, 1) := by decide +kernel
theorem dX4_count_105 : decode cX4_count 105 = .ok (.aload_n 0, 1) := by decide +kernel
theorem dX4_count_106 : decode cX4_count 106 = .ok (.invokevirtual 248, 3) := by decide +kernel
theorem dX4_count_109 : decode cX4_count 109 = .ok (.ireturn, 1) := by decide +kernel
theorem dX4_count_110 : decode cX4_count 110 = .ok (.aload_n 0, 1) := by decide +kernel
theorem dX4_count_111 : decode cX4_count 111 = .ok (.getfield 48, 3) := by decide +kernel
theorem dX4_count_114 : decode cX4_count 114 = .ok (.ireturn, 1) := by decide +kernel
theorem dX4_count_115 : decode cX4_count 115 = .ok (.bipush (-2), 2) := by decide +kernel
theorem dX4_count_117 : decode cX4_count 117 = .ok (.ireturn, 1) := by decide +kernel
theorem dX4_digest_0 : decode cX4_digest 0 = .ok (.ldc2_w 251, 3) := by decide +kernel
theorem dX4_digest_3 : decode cX4_digest 3 = .ok (.lstore_n 1, 1) := by decide +kernel
theorem dX4_digest_4 : decode cX4_digest 4 = .ok (.iconst 0, 1) := by decide +kernel
theorem dX4_digest_5 : decode cX4_digest 5 = .ok (.istore_n 3, 1) := by decide +kernel
theorem dX4_digest_6 : decode cX4_digest 6 = .ok (.iload_n 3, 1) := by decide +kernel
theorem dX4_digest_7 : decode cX4_digest 7 = .ok (.bipush 7, 2) := by decide +kernel
theorem dX4_digest_9 : decode cX4_digest 9 = .ok (.if_icmp .gt 19, 3) := by decide +kernel
theorem dX4_digest_12 : decode cX4_digest 12 = .ok (.lload_n 1, 1) := by decide +kernel
theorem dX4_digest_13 : decode cX4_digest 13 = .ok (.aload_n 0, 1) := by decide +kernel
theorem dX4_digest_14 : decode cX4_digest 14 = .ok (.iload_n 3, 1) := by decide +kernel
theorem dX4_digest_15 : decode cX4_digest 15 = .ok (.invokevirtual 253, 3) := by decide +kernel
theorem dX4_digest_18 : decode cX4_digest 18 = .ok (.invokestatic 256, 3) := by decide +kernel
theorem dX4_digest_21 : decode cX4_digest 21 = .ok (.lstore_n 1, 1) := by decide +kernel
theorem dX4_digest_22 : decode cX4_digest 22 = .ok (.iinc 3 1, 3) := by decide +kernel
theorem dX4_digest_25 : decode cX4_digest 25 = .ok (.goto (-19), 3) := by decide +kernel
theorem dX4_digest_28 : decode cX4_digest 28 = .ok (.lload_n 1, 1) := by decide +kernel
theorem dX4_digest_29 : decode cX4_digest 29 = .ok (.aload_n 0, 1) := by decide +kernel
theorem dX4_digest_30 : decode cX4_digest 30 = .ok (.invokevirtual 260, 3) := by decide +kernel
theorem dX4_digest_33 : decode cX4_digest 33 = .ok (.invokestatic 256, 3) := by decide +kernel
theorem dX4_digest_36 : decode cX4_digest 36 = .ok (.lstore_n 1, 1) := by decide +kernel
theorem dX4_digest_37 : decode cX4_digest 37 = .ok (.iconst 0, 1) := by decide +kernel
theorem dX4_digest_38 : decode cX4_digest 38 = .ok (.istore_n 3, 1) := by decide +kernel
theorem dX4_digest_39 : decode cX4_digest 39 = .ok (.iload_n 3, 1) := by decide +kernel
theorem dX4_digest_40 : decode cX4_digest 40 = .ok (.aload_n 0, 1) := by decide +kernel
theorem dX4_digest_41 : decode cX4_digest 41 = .ok (.getfield 10, 3) := by decide +kernel
theorem dX4_digest_44 : decode cX4_digest 44 = .ok (.getfield 62, 3) := by decide +kernel
theorem dX4_digest_47 : decode cX4_digest 47 = .ok (.if_icmp .ge 16, 3) := by decide +kernel
theorem dX4_digest_50 : decode cX4_digest 50 = .ok (.aload_n 0, 1) := by decide +kernel
theorem dX4_digest_51 : decode cX4_digest 51 = .ok (.lload_n 1, 1) := by decide +kernel
theorem dX4_digest_52 : decode cX4_digest 52 = .ok (.iload_n 3, 1) := by decide +kernel
theorem dX4_digest_53 : decode cX4_digest 53 = .ok (.invokevirtual 263, 3) := by decide +kernel
theorem dX4_digest_56 : decode cX4_digest 56 = .ok (.lstore_n 1, 1) := by decide +kernel
theorem dX4_digest_57 : decode cX4_digest 57 = .ok (.iinc 3 1, 3) := by decide +kernel
theorem dX4_digest_60 : decode cX4_digest 60 = .ok (.goto (-21), 3) := by decide +kernel
theorem dX4_digest_63 : decode cX4_digest 63 = .ok (.getstatic 266, 3) := by decide +kernel
theorem dX4_digest_66 : decode cX4_digest 66 = .ok (.astore_n 3, 1) := by decide +kernel
theorem dX4_digest_67 : decode cX4_digest 67 = .ok (.aload_n 3, 1) := by decide +kernel
theorem dX4_digest_68 : decode cX4_digest 68 = .ok (.arraylength, 1) := by decide +kernel
theorem dX4_digest_69 : decode cX4_digest 69 = .ok (.istore 4, 2) := by decide +kernel
theorem dX4_digest_71 : decode cX4_digest 71 = .ok (.iconst 0, 1) := by decide +kernel
theorem dX4_digest_72 : decode cX4_digest 72 = .ok (.istore 5, 2) := by decide +kernel
theorem dX4_digest_74 : decode cX4_digest 74 = .ok (.iload 5, 2) := by decide +kernel
theorem dX4_digest_76 : decode cX4_digest 76 = .ok (.iload 4, 2) := by decide +kernel
theorem dX4_digest_78 : decode cX4_digest 78 = .ok (.if_icmp .ge 23, 3) := by decide +kernel
theorem dX4_digest_81 : decode cX4_digest 81 = .ok (.aload_n 3, 1) := by decide +kernel
theorem dX4_digest_82 : decode cX4_digest 82 = .ok (.iload 5, 2) := by decide +kernel
theorem dX4_digest_84 : decode cX4_digest 84 = .ok (.iaload, 1) := by decide +kernel
theorem dX4_digest_85 : decode cX4_digest 85 = .ok (.istore 6, 2) := by decide +kernel
theorem dX4_digest_87 : decode cX4_digest 87 = .ok (.aload_n 0, 1) := by decide +kernel
theorem dX4_digest_88 : decode cX4_digest 88 = .ok (.lload_n 1, 1) := by decide +kernel
theorem dX4_digest_89 : decode cX4_digest 89 = .ok (.iload 6, 2) := by decide +kernel
theorem dX4_digest_91 : decode cX4_digest 91 = .ok (.invokevirtual 269, 3) := by decide +kernel
theorem dX4_digest_94 : decode cX4_digest 94 = .ok (.lstore_n 1, 1) := by decide +kernel
theorem dX4_digest_95 : decode cX4_digest 95 = .ok (.iinc 5 1, 3) := by decide +kernel
theorem dX4_digest_98 : decode cX4_digest 98 = .ok (.goto (-24), 3) := by decide +kernel
theorem dX4_digest_101 : decode cX4_digest 101 = .ok (.getstatic 272, 3) := by decide +kernel
theorem dX4_digest_104 : decode cX4_digest 104 = .ok (.astore_n 3, 1) := by decide +kernel
theorem dX4_digest_105 : decode cX4_digest 105 = .ok (.aload_n 3, 1) := by decide +kernel
theorem dX4_digest_106 : decode cX4_digest 106 = .ok (.arraylength, 1) := by decide +kernel
theorem dX4_digest_107 : decode cX4_digest 107 = .ok (.istore 4, 2) := by decide +kernel
theorem dX4_digest_109 : decode cX4_digest 109 = .ok (.iconst 0, 1) := by decide +kernel
theorem dX4_digest_110 : decode cX4_digest 110 = .ok (.istore 5, 2) := by decide +kernel
theorem dX4_digest_112 : decode cX4_digest 112 = .ok (.iload 5, 2) := by decide +kernel
theorem dX4_digest_114 : decode cX4_digest 114 = .ok (.iload 4, 2) := by decide +kernel
theorem dX4_digest_116 : decode cX4_digest 116 = .ok (.if_icmp .ge 69, 3) := by decide +kernel
theorem dX4_digest_119 : decode cX4_digest 119 = .ok (.aload_n 3, 1) := by decide +kernel
theorem dX4_digest_120 : decode cX4_digest 120 = .ok (.iload 5, 2) := by decide +kernel
theorem dX4_digest_122 : decode cX4_digest 122 = .ok (.iaload, 1) := by decide +kernel
theorem dX4_digest_123 : decode cX4_digest 123 = .ok (.istore 6, 2) := by decide +kernel
theorem dX4_digest_125 : decode cX4_digest 125 = .ok (.lload_n 1, 1) := by decide +kernel
theorem dX4_digest_126 : decode cX4_digest 126 = .ok (.aload_n 0, 1) := by decide +kernel
theorem dX4_digest_127 : decode cX4_digest 127 = .ok (.iload 6, 2) := by decide +kernel
theorem dX4_digest_129 : decode cX4_digest 129 = .ok (.iconst 0, 1) := by decide +kernel
theorem dX4_digest_130 : decode cX4_digest 130 = .ok (.invokevirtual 275, 3) := by decide +kernel
theorem dX4_digest_133 : decode cX4_digest 133 = .ok (.invokestatic 256, 3) := by decide +kernel
theorem dX4_digest_136 : decode cX4_digest 136 = .ok (.lstore_n 1, 1) := by decide +kernel
theorem dX4_digest_137 : decode cX4_digest 137 = .ok (.lload_n 1, 1) := by decide +kernel
theorem dX4_digest_138 : decode cX4_digest 138 = .ok (.aload_n 0, 1) := by decide +kernel
theorem dX4_digest_139 : decode cX4_digest 139 = .ok (.iload 6, 2) := by decide +kernel
theorem dX4_digest_141 : decode cX4_digest 141 = .ok (.iconst 1, 1) := by decide +kernel
theorem dX4_digest_142 : decode cX4_digest 142 = .ok (.invokevirtual 275, 3) := by decide +kernel
theorem dX4_digest_145 : decode cX4_digest 145 = .ok (.invokestatic 256, 3) := by decide +kernel
theorem dX4_digest_148 : decode cX4_digest 148 = .ok (.lstore_n 1, 1) := by decide +kernel
theorem dX4_digest_149 : decode cX4_digest 149 = .ok (.lload_n 1, 1) := by decide +kernel
theorem dX4_digest_150 : decode cX4_digest 150 = .ok (.aload_n 0, 1) := by decide +kernel
theorem dX4_digest_151 : decode cX4_digest 151 = .ok (.iload 6, 2) := by decide +kernel
theorem dX4_digest_153 : decode cX4_digest 153 = .ok (.iconst 1, 1) := by decide +kernel
theorem dX4_digest_154 : decode cX4_digest 154 = .ok (.bipush 9, 2) := by decide +kernel
theorem dX4_digest_156 : decode cX4_digest 156 = .ok (.invokevirtual 278, 3) := by decide +kernel
theorem dX4_digest_159 : decode cX4_digest 159 = .ok (.invokestatic 256, 3) := by decide +kernel
theorem dX4_digest_162 : decode cX4_digest 162 = .ok (.lstore_n 1, 1) := by decide +kernel
theorem dX4_digest_163 : decode cX4_digest 163 = .ok (.lload_n 1, 1) := by decide +kernel
theorem dX4_digest_164 : decode cX4_digest 164 = .ok (.aload_n 0, 1) := by decide +kernel
theorem dX4_digest_165 : decode cX4_digest 165 = .ok (.bipush 7, 2) := by decide +kernel
theorem dX4_digest_167 : decode cX4_digest 167 = .ok (.iload 6, 2) := by decide +kernel
theorem dX4_digest_169 : decode cX4_digest 169 = .ok (.iconst 3, 1) := by decide +kernel
theorem dX4_digest_170 : decode cX4_digest 170 = .ok (.bipush 20, 2) := by decide +kernel
theorem dX4_digest_172 : decode cX4_digest 172 = .ok (.invokevirtual 281, 3) := by decide +kernel
theorem dX4_digest_175 : decode cX4_digest 175 = .ok (.invokestatic 256, 3) := by decide +kernel
theorem dX4_digest_178 : decode cX4_digest 178 = .ok (.lstore_n 1, 1) := by decide +kernel
theorem dX4_digest_179 : decode cX4_digest 179 = .ok (.iinc 5 1, 3) := by decide +kernel
theorem dX4_digest_182 : decode cX4_digest 182 = .ok (.goto (-70), 3) := by decide +kernel
theorem dX4_digest_185 : decode cX4_digest 185 = .ok (.lload_n 1, 1) := by decide +kernel
theorem dX4_digest_186 : decode cX4_digest 186 = .ok (.lreturn, 1) := by decide +kernel
theorem dX4_digestChannel_0 : decode cX4_digestChannel 0 = .ok (.lload_n 1, 1) := by decide +kernel
theorem dX4_digestChannel_1 : decode cX4_digestChannel 1 = .ok (.lstore 4, 2) := by decide +kernel
theorem dX4_digestChannel_3 : decode cX4_digestChannel 3 = .ok (.iconst 0, 1) := by decide +kernel
theorem dX4_digestChannel_4 : decode cX4_digestChannel 4 = .ok (.istore 6, 2) := by decide +kernel
theorem dX4_digestChannel_6 : decode cX4_digestChannel 6 = .ok (.iload 6, 2) := by decide +kernel
theorem dX4_digestChannel_8 : decode cX4_digestChannel 8 = .ok (.iconst 5, 1) := by decide +kernel
theorem dX4_digestChannel_9 : decode cX4_digestChannel 9 = .ok (.if_icmp .ge 23, 3) := by decide +kernel
theorem dX4_digestChannel_12 : decode cX4_digestChannel 12 = .ok (.lload 4, 2) := by decide +kernel
theorem dX4_digestChannel_14 : decode cX4_digestChannel 14 = .ok (.aload_n 0, 1) := by decide +kernel
theorem dX4_digestChannel_15 : decode cX4_digestChannel 15 = .ok (.iload_n 3, 1) := by decide +kernel
theorem dX4_digestChannel_16 : decode cX4_digestChannel 16 = .ok (.iload 6, 2) := by decide +kernel
theorem dX4_digestChannel_18 : decode cX4_digestChannel 18 = .ok (.invokevirtual 285, 3) := by decide +kernel
theorem dX4_digestChannel_21 : decode cX4_digestChannel 21 = .ok (.invokestatic 256, 3) := by decide +kernel
theorem dX4_digestChannel_24 : decode cX4_digestChannel 24 = .ok (.lstore 4, 2) := by decide +kernel
theorem dX4_digestChannel_26 : decode cX4_digestChannel 26 = .ok (.iinc 6 1, 3) := by decide +kernel
theorem dX4_digestChannel_29 : decode cX4_digestChannel 29 = .ok (.goto (-23), 3) := by decide +kernel
theorem dX4_digestChannel_32 : decode cX4_digestChannel 32 = .ok (.lload 4, 2) := by decide +kernel
theorem dX4_digestChannel_34 : decode cX4_digestChannel 34 = .ok (.aload_n 0, 1) := by decide +kernel
theorem dX4_digestChannel_35 : decode cX4_digestChannel 35 = .ok (.iload_n 3, 1) := by decide +kernel
theorem dX4_digestChannel_36 : decode cX4_digestChannel 36 = .ok (.bipush 7, 2) := by decide +kernel
theorem dX4_digestChannel_38 : decode cX4_digestChannel 38 = .ok (.invokevirtual 102, 3) := by decide +kernel
theorem dX4_digestChannel_41 : decode cX4_digestChannel 41 = .ok (.invokestatic 256, 3) := by decide +kernel
theorem dX4_digestChannel_44 : decode cX4_digestChannel 44 = .ok (.lstore 4, 2) := by decide +kernel
theorem dX4_digestChannel_46 : decode cX4_digestChannel 46 = .ok (.lload 4, 2) := by decide +kernel
theorem dX4_digestChannel_48 : decode cX4_digestChannel 48 = .ok (.aload_n 0, 1) := by decide +kernel
theorem dX4_digestChannel_49 : decode cX4_digestChannel 49 = .ok (.iload_n 3, 1) := by decide +kernel
theorem dX4_digestChannel_50 : decode cX4_digestChannel 50 = .ok (.bipush 7, 2) := by decide +kernel
theorem dX4_digestChannel_52 : decode cX4_digestChannel 52 = .ok (.invokevirtual 238, 3) := by decide +kernel
theorem dX4_digestChannel_55 : decode cX4_digestChannel 55 = .ok (.invokestatic 256, 3) := by decide +kernel
theorem dX4_digestChannel_58 : decode cX4_digestChannel 58 = .ok (.lstore 4, 2) := by decide +kernel
theorem dX4_digestChannel_60 : decode cX4_digestChannel 60 = .ok (.lload 4, 2) := by decide +kernel
theorem dX4_digestChannel_62 : decode cX4_digestChannel 62 = .ok (.aload_n 0, 1) := by decide +kernel
theorem dX4_digestChannel_63 : decode cX4_digestChannel 63 = .ok (.iload_n 3, 1) := by decide +kernel
theorem dX4_digestChannel_64 : decode cX4_digestChannel 64 = .ok (.iconst (-1), 1) := by decide +kernel
theorem dX4_digestChannel_65 : decode cX4_digestChannel 65 = .ok (.invokevirtual 288, 3) := by decide +kernel
theorem dX4_digestChannel_68 : decode cX4_digestChannel 68 = .ok (.invokestatic 256, 3) := by decide +kernel
theorem dX4_digestChannel_71 : decode cX4_digestChannel 71 = .ok (.lstore 4, 2) := by decide +kernel
theorem dX4_digestChannel_73 : decode cX4_digestChannel 73 = .ok (.lload 4, 2) := by decide +kernel
theorem dX4_digestChannel_75 : decode cX4_digestChannel 75 = .ok (.aload_n 0, 1) := by decide +kernel
theorem dX4_digestChannel_76 : decode cX4_digestChannel 76 = .ok (.iload_n 3, 1) := by decide +kernel
theorem dX4_digestChannel_77 : decode cX4_digestChannel 77 = .ok (.iconst 0, 1) := by decide +kernel
theorem dX4_digestChannel_78 : decode cX4_digestChannel 78 = .ok (.invokevirtual 288, 3) := by decide +kernel
theorem dX4_digestChannel_81 : decode cX4_digestChannel 81 = .ok (.invokestatic 256, 3) := by decide +kernel
theorem dX4_digestChannel_84 : decode cX4_digestChannel 84 = .ok (.lstore 4, 2) := by decide +kernel
theorem dX4_digestChannel_86 : decode cX4_digestChannel 86 = .ok (.lload 4, 2) := by decide +kernel
theorem dX4_digestChannel_88 : decode cX4_digestChannel 88 = .ok (.aload_n 0, 1) := by decide +kernel
theorem dX4_digestChannel_89 : decode cX4_digestChannel 89 = .ok (.iload_n 3, 1) := by decide +kernel
theorem dX4_digestChannel_90 : decode cX4_digestChannel 90 = .ok (.bipush 9, 2) := by decide +kernel
theorem dX4_digestChannel_92 : decode cX4_digestChannel 92 = .ok (.invokevirtual 291, 3) := by decide +kernel
theorem dX4_digestChannel_95 : decode cX4_digestChannel 95 = .ok (.invokestatic 256, 3) := by decide +kernel
theorem dX4_digestChannel_98 : decode cX4_digestChannel 98 = .ok (.lstore 4, 2) := by decide +kernel
theorem dX4_digestChannel_100 : decode cX4_digestChannel 100 = .ok (.lload 4, 2) := by decide +kernel
theorem dX4_digestChannel_102 : decode cX4_digestChannel 102 = .ok (.aload_n 0, 1) := by decide +kernel
theorem dX4_digestChannel_103 : decode cX4_digestChannel 103 = .ok (.iload_n 3, 1) := by decide +kernel
theorem dX4_digestChannel_104 : decode cX4_digestChannel 104 = .ok (.iconst 3, 1) := by decide +kernel
theorem dX4_digestChannel_105 : decode cX4_digestChannel 105 = .ok (.invokevirtual 294, 3) := by decide +kernel
theorem dX4_digestChannel_108 : decode cX4_digestChannel 108 = .ok (.invokestatic 256, 3) := by decide +kernel
theorem dX4_digestChannel_111 : decode cX4_digestChannel 111 = .ok (.lreturn, 1) := by decide +kernel
theorem dX4_digestNight_0 : decode cX4_digestNight 0 = .ok (.lload_n 1, 1) := by decide +kernel
theorem dX4_digestNight_1 : decode cX4_digestNight 1 = .ok (.aload_n 0, 1) := by decide +kernel
theorem dX4_digestNight_2 : decode cX4_digestNight 2 = .ok (.iload_n 3, 1) := by decide +kernel
theorem dX4_digestNight_3 : decode cX4_digestNight 3 = .ok (.invokevirtual 297, 3) := by decide +kernel
theorem dX4_digestNight_6 : decode cX4_digestNight 6 = .ok (.invokestatic 256, 3) := by decide +kernel
theorem dX4_digestNight_9 : decode cX4_digestNight 9 = .ok (.lstore 4, 2) := by decide +kernel
theorem dX4_digestNight_11 : decode cX4_digestNight 11 = .ok (.getstatic 272, 3) := by decide +kernel
theorem dX4_digestNight_14 : decode cX4_digestNight 14 = .ok (.astore 6, 2) := by decide +kernel
theorem dX4_digestNight_16 : decode cX4_digestNight 16 = .ok (.aload 6, 2) := by decide +kernel
theorem dX4_digestNight_18 : decode cX4_digestNight 18 = .ok (.arraylength, 1) := by decide +kernel
theorem dX4_digestNight_19 : decode cX4_digestNight 19 = .ok (.istore 7, 2) := by decide +kernel
theorem dX4_digestNight_21 : decode cX4_digestNight 21 = .ok (.iconst 0, 1) := by decide +kernel
theorem dX4_digestNight_22 : decode cX4_digestNight 22 = .ok (.istore 8, 2) := by decide +kernel
theorem dX4_digestNight_24 : decode cX4_digestNight 24 = .ok (.iload 8, 2) := by decide +kernel
theorem dX4_digestNight_26 : decode cX4_digestNight 26 = .ok (.iload 7, 2) := by decide +kernel
theorem dX4_digestNight_28 : decode cX4_digestNight 28 = .ok (.if_icmp .ge 178, 3) := by decide +kernel
theorem dX4_digestNight_31 : decode cX4_digestNight 31 = .ok (.aload 6, 2) := by decide +kernel
theorem dX4_digestNight_33 : decode cX4_digestNight 33 = .ok (.iload 8, 2) := by decide +kernel
theorem dX4_digestNight_35 : decode cX4_digestNight 35 = .ok (.iaload, 1) := by decide +kernel
theorem dX4_digestNight_36 : decode cX4_digestNight 36 = .ok (.istore 9, 2) := by decide +kernel
theorem dX4_digestNight_38 : decode cX4_digestNight 38 = .ok (.lload 4, 2) := by decide +kernel
theorem dX4_digestNight_40 : decode cX4_digestNight 40 = .ok (.aload_n 0, 1) := by decide +kernel
theorem dX4_digestNight_41 : decode cX4_digestNight 41 = .ok (.iload 9, 2) := by decide +kernel
theorem dX4_digestNight_43 : decode cX4_digestNight 43 = .ok (.iload_n 3, 1) := by decide +kernel
theorem dX4_digestNight_44 : decode cX4_digestNight 44 = .ok (.iconst (-1), 1) := by decide +kernel
theorem dX4_digestNight_45 : decode cX4_digestNight 45 = .ok (.invokevirtual 300, 3) := by decide +kernel
theorem dX4_digestNight_48 : decode cX4_digestNight 48 = .ok (.invokestatic 256, 3) := by decide +kernel
theorem dX4_digestNight_51 : decode cX4_digestNight 51 = .ok (.lstore 4, 2) := by decide +kernel
theorem dX4_digestNight_53 : decode cX4_digestNight 53 = .ok (.lload 4, 2) := by decide +kernel
theorem dX4_digestNight_55 : decode cX4_digestNight 55 = .ok (.aload_n 0, 1) := by decide +kernel
theorem dX4_digestNight_56 : decode cX4_digestNight 56 = .ok (.iload 9, 2) := by decide +kernel
theorem dX4_digestNight_58 : decode cX4_digestNight 58 = .ok (.iload_n 3, 1) := by decide +kernel
theorem dX4_digestNight_59 : decode cX4_digestNight 59 = .ok (.iconst 0, 1) := by decide +kernel
theorem dX4_digestNight_60 : decode cX4_digestNight 60 = .ok (.invokevirtual 300, 3) := by decide +kernel
theorem dX4_digestNight_63 : decode cX4_digestNight 63 = .ok (.invokestatic 256, 3) := by decide +kernel
theorem dX4_digestNight_66 : decode cX4_digestNight 66 = .ok (.lstore 4, 2) := by decide +kernel
theorem dX4_digestNight_68 : decode cX4_digestNight 68 = .ok (.lload 4, 2) := by decide +kernel
theorem dX4_digestNight_70 : decode cX4_digestNight 70 = .ok (.aload_n 0, 1) := by decide +kernel
theorem dX4_digestNight_71 : decode cX4_digestNight 71 = .ok (.iload 9, 2) := by decide +kernel
theorem dX4_digestNight_73 : decode cX4_digestNight 73 = .ok (.iload_n 3, 1) := by decide +kernel
theorem dX4_digestNight_74 : decode cX4_digestNight 74 = .ok (.invokevirtual 303, 3) := by decide +kernel
theorem dX4_digestNight_77 : decode cX4_digestNight 77 = .ok (.invokestatic 256, 3) := by decide +kernel
theorem dX4_digestNight_80 : decode cX4_digestNight 80 = .ok (.lstore 4, 2) := by decide +kernel
theorem dX4_digestNight_82 : decode cX4_digestNight 82 = .ok (.lload 4, 2) := by decide +kernel
theorem dX4_digestNight_84 : decode cX4_digestNight 84 = .ok (.aload_n 0, 1) := by decide +kernel
theorem dX4_digestNight_85 : decode cX4_digestNight 85 = .ok (.iload 9, 2) := by decide +kernel
theorem dX4_digestNight_87 : decode cX4_digestNight 87 = .ok (.iload_n 3, 1) := by decide +kernel
theorem dX4_digestNight_88 : decode cX4_digestNight 88 = .ok (.invokevirtual 306, 3) := by decide +kernel
theorem dX4_digestNight_91 : decode cX4_digestNight 91 = .ok (.invokestatic 256, 3) := by decide +kernel
theorem dX4_digestNight_94 : decode cX4_digestNight 94 = .ok (.lstore 4, 2) := by decide +kernel
theorem dX4_digestNight_96 : decode cX4_digestNight 96 = .ok (.lload 4, 2) := by decide +kernel
theorem dX4_digestNight_98 : decode cX4_digestNight 98 = .ok (.aload_n 0, 1) := by decide +kernel
theorem dX4_digestNight_99 : decode cX4_digestNight 99 = .ok (.iload 9, 2) := by decide +kernel
theorem dX4_digestNight_101 : decode cX4_digestNight 101 = .ok (.iload_n 3, 1) := by decide +kernel
theorem dX4_digestNight_102 : decode cX4_digestNight 102 = .ok (.invokevirtual 309, 3) := by decide +kernel
theorem dX4_digestNight_105 : decode cX4_digestNight 105 = .ok (.invokestatic 256, 3) := by decide +kernel
theorem dX4_digestNight_108 : decode cX4_digestNight 108 = .ok (.lstore 4, 2) := by decide +kernel
theorem dX4_digestNight_110 : decode cX4_digestNight 110 = .ok (.lload 4, 2) := by decide +kernel
theorem dX4_digestNight_112 : decode cX4_digestNight 112 = .ok (.aload_n 0, 1) := by decide +kernel
theorem dX4_digestNight_113 : decode cX4_digestNight 113 = .ok (.iload 9, 2) := by decide +kernel
theorem dX4_digestNight_115 : decode cX4_digestNight 115 = .ok (.iload_n 3, 1) := by decide +kernel
theorem dX4_digestNight_116 : decode cX4_digestNight 116 = .ok (.iconst 0, 1) := by decide +kernel
theorem dX4_digestNight_117 : decode cX4_digestNight 117 = .ok (.invokevirtual 312, 3) := by decide +kernel
theorem dX4_digestNight_120 : decode cX4_digestNight 120 = .ok (.invokestatic 256, 3) := by decide +kernel
theorem dX4_digestNight_123 : decode cX4_digestNight 123 = .ok (.lstore 4, 2) := by decide +kernel
theorem dX4_digestNight_125 : decode cX4_digestNight 125 = .ok (.lload 4, 2) := by decide +kernel
theorem dX4_digestNight_127 : decode cX4_digestNight 127 = .ok (.aload_n 0, 1) := by decide +kernel
theorem dX4_digestNight_128 : decode cX4_digestNight 128 = .ok (.iload 9, 2) := by decide +kernel
theorem dX4_digestNight_130 : decode cX4_digestNight 130 = .ok (.iload_n 3, 1) := by decide +kernel
theorem dX4_digestNight_131 : decode cX4_digestNight 131 = .ok (.iconst 1, 1) := by decide +kernel
theorem dX4_digestNight_132 : decode cX4_digestNight 132 = .ok (.invokevirtual 312, 3) := by decide +kernel
theorem dX4_digestNight_135 : decode cX4_digestNight 135 = .ok (.invokestatic 256, 3) := by decide +kernel
theorem dX4_digestNight_138 : decode cX4_digestNight 138 = .ok (.lstore 4, 2) := by decide +kernel
theorem dX4_digestNight_140 : decode cX4_digestNight 140 = .ok (.lload 4, 2) := by decide +kernel
theorem dX4_digestNight_142 : decode cX4_digestNight 142 = .ok (.aload_n 0, 1) := by decide +kernel
theorem dX4_digestNight_143 : decode cX4_digestNight 143 = .ok (.iload 9, 2) := by decide +kernel
theorem dX4_digestNight_145 : decode cX4_digestNight 145 = .ok (.iload_n 3, 1) := by decide +kernel
theorem dX4_digestNight_146 : decode cX4_digestNight 146 = .ok (.iconst 0, 1) := by decide +kernel
theorem dX4_digestNight_147 : decode cX4_digestNight 147 = .ok (.invokevirtual 315, 3) := by decide +kernel
theorem dX4_digestNight_150 : decode cX4_digestNight 150 = .ok (.invokestatic 256, 3) := by decide +kernel
theorem dX4_digestNight_153 : decode cX4_digestNight 153 = .ok (.lstore 4, 2) := by decide +kernel
theorem dX4_digestNight_155 : decode cX4_digestNight 155 = .ok (.bipush (-2), 2) := by decide +kernel
theorem dX4_digestNight_157 : decode cX4_digestNight 157 = .ok (.istore 10, 2) := by decide +kernel
theorem dX4_digestNight_159 : decode cX4_digestNight 159 = .ok (.iload 10, 2) := by decide +kernel
theorem dX4_digestNight_161 : decode cX4_digestNight 161 = .ok (.ifCond .gt 25, 3) := by decide +kernel
theorem dX4_digestNight_164 : decode cX4_digestNight 164 = .ok (.lload 4, 2) := by decide +kernel
theorem dX4_digestNight_166 : decode cX4_digestNight 166 = .ok (.aload_n 0, 1) := by decide +kernel
theorem dX4_digestNight_167 : decode cX4_digestNight 167 = .ok (.iload 9, 2) := by decide +kernel
theorem dX4_digestNight_169 : decode cX4_digestNight 169 = .ok (.iload_n 3, 1) := by decide +kernel
theorem dX4_digestNight_170 : decode cX4_digestNight 170 = .ok (.iload 10, 2) := by decide +kernel
theorem dX4_digestNight_172 : decode cX4_digestNight 172 = .ok (.invokevirtual 318, 3) := by decide +kernel
theorem dX4_digestNight_175 : decode cX4_digestNight 175 = .ok (.invokestatic 256, 3) := by decide +kernel
theorem dX4_digestNight_178 : decode cX4_digestNight 178 = .ok (.lstore 4, 2) := by decide +kernel
theorem dX4_digestNight_180 : decode cX4_digestNight 180 = .ok (.iinc 10 1, 3) := by decide +kernel
theorem dX4_digestNight_183 : decode cX4_digestNight 183 = .ok (.goto (-24), 3) := by decide +kernel
theorem dX4_digestNight_186 : decode cX4_digestNight 186 = .ok (.lload 4, 2) := by decide +kernel
theorem dX4_digestNight_188 : decode cX4_digestNight 188 = .ok (.aload_n 0, 1) := by decide +kernel
theorem dX4_digestNight_189 : decode cX4_digestNight 189 = .ok (.iload 9, 2) := by decide +kernel
theorem dX4_digestNight_191 : decode cX4_digestNight 191 = .ok (.iload_n 3, 1) := by decide +kernel
theorem dX4_digestNight_192 : decode cX4_digestNight 192 = .ok (.invokevirtual 321, 3) := by decide +kernel
theorem dX4_digestNight_195 : decode cX4_digestNight 195 = .ok (.invokestatic 256, 3) := by decide +kernel
theorem dX4_digestNight_198 : decode cX4_digestNight 198 = .ok (.lstore 4, 2) := by decide +kernel
theorem dX4_digestNight_200 : decode cX4_digestNight 200 = .ok (.iinc 8 1, 3) := by decide +kernel
theorem dX4_digestNight_203 : decode cX4_digestNight 203 = .ok (.goto (-179), 3) := by decide +kernel
theorem dX4_digestNight_206 : decode cX4_digestNight 206 = .ok (.lload 4, 2) := by decide +kernel
theorem dX4_digestNight_208 : decode cX4_digestNight 208 = .ok (.lreturn, 1) := by decide +kernel
theorem dX4_mix_0 : decode cX4_mix 0 = .ok (.ldc2_w 324, 3) := by decide +kernel
theorem dX4_mix_3 : decode cX4_mix 3 = .ok (.lload_n 0, 1) := by decide +kernel
theorem dX4_mix_4 : decode cX4_mix 4 = .ok (.lmul, 1) := by decide +kernel
theorem dX4_mix_5 : decode cX4_mix 5 = .ok (.iload_n 2, 1) := by decide +kernel
theorem dX4_mix_6 : decode cX4_mix 6 = .ok (.i2l, 1) := by decide +kernel
theorem dX4_mix_7 : decode cX4_mix 7 = .ok (.ladd, 1) := by decide +kernel
theorem dX4_mix_8 : decode cX4_mix 8 = .ok (.lreturn, 1) := by decide +kernel
theorem dX4_isNight_0 : decode cX4_isNight 0 = .ok (.iload_n 0, 1) := by decide +kernel
theorem dX4_isNight_1 : decode cX4_isNight 1 = .ok (.ifCond .lt 13, 3) := by decide +kernel
theorem dX4_isNight_4 : decode cX4_isNight 4 = .ok (.iload_n 0, 1) := by decide +kernel
theorem dX4_isNight_5 : decode cX4_isNight 5 = .ok (.bipush 99, 2) := by decide +kernel
theorem dX4_isNight_7 : decode cX4_isNight 7 = .ok (.if_icmp .gt 7, 3) := by decide +kernel
theorem dX4_isNight_10 : decode cX4_isNight 10 = .ok (.iconst 1, 1) := by decide +kernel
theorem dX4_isNight_11 : decode cX4_isNight 11 = .ok (.goto 4, 3) := by decide +kernel
theorem dX4_isNight_14 : decode cX4_isNight 14 = .ok (.iconst 0, 1) := by decide +kernel
theorem dX4_isNight_15 : decode cX4_isNight 15 = .ok (.ireturn, 1) := by decide +kernel
theorem dX4_isDraught_0 : decode cX4_isDraught 0 = .ok (.iload_n 0, 1) := by decide +kernel
theorem dX4_isDraught_1 : decode cX4_isDraught 1 = .ok (.iconst 1, 1) := by decide +kernel
theorem dX4_isDraught_2 : decode cX4_isDraught 2 = .ok (.if_icmp .lt 13, 3) := by decide +kernel
theorem dX4_isDraught_5 : decode cX4_isDraught 5 = .ok (.iload_n 0, 1) := by decide +kernel
theorem dX4_isDraught_6 : decode cX4_isDraught 6 = .ok (.bipush 9, 2) := by decide +kernel
theorem dX4_isDraught_8 : decode cX4_isDraught 8 = .ok (.if_icmp .gt 7, 3) := by decide +kernel
theorem dX4_isDraught_11 : decode cX4_isDraught 11 = .ok (.iconst 1, 1) := by decide +kernel
theorem dX4_isDraught_12 : decode cX4_isDraught 12 = .ok (.goto 4, 3) := by decide +kernel
theorem dX4_isDraught_15 : decode cX4_isDraught 15 = .ok (.iconst 0, 1) := by decide +kernel
theorem dX4_isDraught_16 : decode cX4_isDraught 16 = .ok (.ireturn, 1) := by decide +kernel
theorem dX4_isShip_0 : decode cX4_isShip 0 = .ok (.iload_n 0, 1) := by decide +kernel
theorem dX4_isShip_1 : decode cX4_isShip 1 = .ok (.invokestatic 137, 3) := by decide +kernel
theorem dX4_isShip_4 : decode cX4_isShip 4 = .ok (.ifCond .eq 14, 3) := by decide +kernel
theorem dX4_isShip_7 : decode cX4_isShip 7 = .ok (.iload_n 1, 1) := by decide +kernel
theorem dX4_isShip_8 : decode cX4_isShip 8 = .ok (.invokestatic 75, 3) := by decide +kernel
theorem dX4_isShip_11 : decode cX4_isShip 11 = .ok (.ifCond .eq 7, 3) := by decide +kernel
theorem dX4_isShip_14 : decode cX4_isShip 14 = .ok (.iconst 1, 1) := by decide +kernel
theorem dX4_isShip_15 : decode cX4_isShip 15 = .ok (.goto 4, 3) := by decide +kernel
theorem dX4_isShip_18 : decode cX4_isShip 18 = .ok (.iconst 0, 1) := by decide +kernel
theorem dX4_isShip_19 : decode cX4_isShip 19 = .ok (.ireturn, 1) := by decide +kernel
theorem dX4_isSounding_0 : decode cX4_isSounding 0 = .ok (.iload_n 1, 1) := by decide +kernel
theorem dX4_isSounding_1 : decode cX4_isSounding 1 = .ok (.ifCond .lt 13, 3) := by decide +kernel
theorem dX4_isSounding_4 : decode cX4_isSounding 4 = .ok (.iload_n 1, 1) := by decide +kernel
theorem dX4_isSounding_5 : decode cX4_isSounding 5 = .ok (.bipush 16, 2) := by decide +kernel
theorem dX4_isSounding_7 : decode cX4_isSounding 7 = .ok (.if_icmp .ge 7, 3) := by decide +kernel
theorem dX4_isSounding_10 : decode cX4_isSounding 10 = .ok (.iconst 1, 1) := by decide +kernel
theorem dX4_isSounding_11 : decode cX4_isSounding 11 = .ok (.goto 4, 3) := by decide +kernel
theorem dX4_isSounding_14 : decode cX4_isSounding 14 = .ok (.iconst 0, 1) := by decide +kernel
theorem dX4_isSounding_15 : decode cX4_isSounding 15 = .ok (.istore_n 3, 1) := by decide +kernel
theorem dX4_isSounding_16 : decode cX4_isSounding 16 = .ok (.iload_n 0, 1) := by decide +kernel
theorem dX4_isSounding_17 : decode cX4_isSounding 17 = .ok (.invokestatic 75, 3) := by decide +kernel
theorem dX4_isSounding_20 : decode cX4_isSounding 20 = .ok (.ifCond .eq 21, 3) := by decide +kernel
theorem dX4_isSounding_23 : decode cX4_isSounding 23 = .ok (.iload_n 3, 1) := by decide +kernel
theorem dX4_isSounding_24 : decode cX4_isSounding 24 = .ok (.ifCond .eq 17, 3) := by decide +kernel
theorem dX4_isSounding_27 : decode cX4_isSounding 27 = .ok (.iload_n 2, 1) := by decide +kernel
theorem dX4_isSounding_28 : decode cX4_isSounding 28 = .ok (.ifCond .lt 13, 3) := by decide +kernel
theorem dX4_isSounding_31 : decode cX4_isSounding 31 = .ok (.iload_n 2, 1) := by decide +kernel
theorem dX4_isSounding_32 : decode cX4_isSounding 32 = .ok (.bipush 9, 2) := by decide +kernel
theorem dX4_isSounding_34 : decode cX4_isSounding 34 = .ok (.if_icmp .gt 7, 3) := by decide +kernel
theorem dX4_isSounding_37 : decode cX4_isSounding 37 = .ok (.iconst 1, 1) := by decide +kernel
theorem dX4_isSounding_38 : decode cX4_isSounding 38 = .ok (.goto 4, 3) := by decide +kernel
theorem dX4_isSounding_41 : decode cX4_isSounding 41 = .ok (.iconst 0, 1) := by decide +kernel
theorem dX4_isSounding_42 : decode cX4_isSounding 42 = .ok (.ireturn, 1) := by decide +kernel
theorem dX4_isForm_0 : decode cX4_isForm 0 = .ok (.iload_n 0, 1) := by decide +kernel
theorem dX4_isForm_1 : decode cX4_isForm 1 = .ok (.ifCond .lt 12, 3) := by decide +kernel
theorem dX4_isForm_4 : decode cX4_isForm 4 = .ok (.iload_n 0, 1) := by decide +kernel
theorem dX4_isForm_5 : decode cX4_isForm 5 = .ok (.iconst 2, 1) := by decide +kernel
theorem dX4_isForm_6 : decode cX4_isForm 6 = .ok (.if_icmp .gt 7, 3) := by decide +kernel
theorem dX4_isForm_9 : decode cX4_isForm 9 = .ok (.iconst 1, 1) := by decide +kernel
theorem dX4_isForm_10 : decode cX4_isForm 10 = .ok (.goto 4, 3) := by decide +kernel
theorem dX4_isForm_13 : decode cX4_isForm 13 = .ok (.iconst 0, 1) := by decide +kernel
theorem dX4_isForm_14 : decode cX4_isForm 14 = .ok (.ireturn, 1) := by decide +kernel
theorem dX4_isOpen_0 : decode cX4_isOpen 0 = .ok (.aload_n 0, 1) := by decide +kernel
theorem dX4_isOpen_1 : decode cX4_isOpen 1 = .ok (.getfield 10, 3) := by decide +kernel
theorem dX4_isOpen_4 : decode cX4_isOpen 4 = .ok (.aload_n 0, 1) := by decide +kernel
theorem dX4_isOpen_5 : decode cX4_isOpen 5 = .ok (.getfield 37, 3) := by decide +kernel
theorem dX4_isOpen_8 : decode cX4_isOpen 8 = .ok (.iload_n 2, 1) := by decide +kernel
theorem dX4_isOpen_9 : decode cX4_isOpen 9 = .ok (.iload_n 3, 1) := by decide +kernel
theorem dX4_isOpen_10 : decode cX4_isOpen 10 = .ok (.invokevirtual 109, 3) := by decide +kernel
theorem dX4_isOpen_13 : decode cX4_isOpen 13 = .ok (.aload_n 0, 1) := by decide +kernel
theorem dX4_isOpen_14 : decode cX4_isOpen 14 = .ok (.getfield 26, 3) := by decide +kernel
theorem dX4_isOpen_17 : decode cX4_isOpen 17 = .ok (.aload_n 0, 1) := by decide +kernel
theorem dX4_isOpen_18 : decode cX4_isOpen 18 = .ok (.getfield 10, 3) := by decide +kernel
theorem dX4_isOpen_21 : decode cX4_isOpen 21 = .ok (.aload_n 0, 1) := by decide +kernel
theorem dX4_isOpen_22 : decode cX4_isOpen 22 = .ok (.getfield 37, 3) := by decide +kernel
theorem dX4_isOpen_25 : decode cX4_isOpen 25 = .ok (.iload_n 1, 1) := by decide +kernel
theorem dX4_isOpen_26 : decode cX4_isOpen 26 = .ok (.invokevirtual 117, 3) := by decide +kernel
theorem dX4_isOpen_29 : decode cX4_isOpen 29 = .ok (.ireturn, 1) := by decide +kernel
theorem dX4_findByMap_0 : decode cX4_findByMap 0 = .ok (.iload_n 2, 1) := by decide +kernel
theorem dX4_findByMap_1 : decode cX4_findByMap 1 = .ok (.invokestatic 98, 3) := by decide +kernel
theorem dX4_findByMap_4 : decode cX4_findByMap 4 = .ok (.istore_n 3, 1) := by decide +kernel
theorem dX4_findByMap_5 : decode cX4_findByMap 5 = .ok (.aload_n 0, 1) := by decide +kernel
theorem dX4_findByMap_6 : decode cX4_findByMap 6 = .ok (.getfield 10, 3) := by decide +kernel
theorem dX4_findByMap_9 : decode cX4_findByMap 9 = .ok (.aload_n 0, 1) := by decide +kernel
theorem dX4_findByMap_10 : decode cX4_findByMap 10 = .ok (.getfield 37, 3) := by decide +kernel
theorem dX4_findByMap_13 : decode cX4_findByMap 13 = .ok (.iload_n 3, 1) := by decide +kernel
theorem dX4_findByMap_14 : decode cX4_findByMap 14 = .ok (.aload_n 0, 1) := by decide +kernel
theorem dX4_findByMap_15 : decode cX4_findByMap 15 = .ok (.getfield 10, 3) := by decide +kernel
theorem dX4_findByMap_18 : decode cX4_findByMap 18 = .ok (.iload_n 3, 1) := by decide +kernel
theorem dX4_findByMap_19 : decode cX4_findByMap 19 = .ok (.invokevirtual 91, 3) := by decide +kernel
theorem dX4_findByMap_22 : decode cX4_findByMap 22 = .ok (.invokevirtual 109, 3) := by decide +kernel
theorem dX4_findByMap_25 : decode cX4_findByMap 25 = .ok (.aload_n 0, 1) := by decide +kernel
theorem dX4_findByMap_26 : decode cX4_findByMap 26 = .ok (.getfield 26, 3) := by decide +kernel
theorem dX4_findByMap_29 : decode cX4_findByMap 29 = .ok (.aload_n 0, 1) := by decide +kernel
theorem dX4_findByMap_30 : decode cX4_findByMap 30 = .ok (.getfield 10, 3) := by decide +kernel
theorem dX4_findByMap_33 : decode cX4_findByMap 33 = .ok (.aload_n 0, 1) := by decide +kernel
theorem dX4_findByMap_34 : decode cX4_findByMap 34 = .ok (.getfield 37, 3) := by decide +kernel
theorem dX4_findByMap_37 : decode cX4_findByMap 37 = .ok (.iload_n 1, 1) := by decide +kernel
theorem dX4_findByMap_38 : decode cX4_findByMap 38 = .ok (.invokevirtual 117, 3) := by decide +kernel
theorem dX4_findByMap_41 : decode cX4_findByMap 41 = .ok (.ireturn, 1) := by decide +kernel
theorem dX4_findByChange_0 : decode cX4_findByChange 0 = .ok (.iload_n 2, 1) := by decide +kernel
theorem dX4_findByChange_1 : decode cX4_findByChange 1 = .ok (.invokestatic 98, 3) := by decide +kernel
theorem dX4_findByChange_4 : decode cX4_findByChange 4 = .ok (.istore_n 3, 1) := by decide +kernel
theorem dX4_findByChange_5 : decode cX4_findByChange 5 = .ok (.iconst 0, 1) := by decide +kernel
theorem dX4_findByChange_6 : decode cX4_findByChange 6 = .ok (.iload_n 2, 1) := by decide +kernel
theorem dX4_findByChange_7 : decode cX4_findByChange 7 = .ok (.iconst 1, 1) := by decide +kernel
theorem dX4_findByChange_8 : decode cX4_findByChange 8 = .ok (.isub, 1) := by decide +kernel
theorem dX4_findByChange_9 : decode cX4_findByChange 9 = .ok (.invokestatic 326, 3) := by decide +kernel
theorem dX4_findByChange_12 : decode cX4_findByChange 12 = .ok (.invokestatic 98, 3) := by decide +kernel
theorem dX4_findByChange_15 : decode cX4_findByChange 15 = .ok (.istore 4, 2) := by decide +kernel
theorem dX4_findByChange_17 : decode cX4_findByChange 17 = .ok (.aload_n 0, 1) := by decide +kernel
theorem dX4_findByChange_18 : decode cX4_findByChange 18 = .ok (.getfield 10, 3) := by decide +kernel
theorem dX4_findByChange_21 : decode cX4_findByChange 21 = .ok (.aload_n 0, 1) := by decide +kernel
theorem dX4_findByChange_22 : decode cX4_findByChange 22 = .ok (.getfield 37, 3) := by decide +kernel
theorem dX4_findByChange_25 : decode cX4_findByChange 25 = .ok (.iload_n 3, 1) := by decide +kernel
theorem dX4_findByChange_26 : decode cX4_findByChange 26 = .ok (.aload_n 0, 1) := by decide +kernel
theorem dX4_findByChange_27 : decode cX4_findByChange 27 = .ok (.getfield 10, 3) := by decide +kernel
theorem dX4_findByChange_30 : decode cX4_findByChange 30 = .ok (.iload_n 3, 1) := by decide +kernel
theorem dX4_findByChange_31 : decode cX4_findByChange 31 = .ok (.invokevirtual 91, 3) := by decide +kernel
theorem dX4_findByChange_34 : decode cX4_findByChange 34 = .ok (.invokevirtual 109, 3) := by decide +kernel
theorem dX4_findByChange_37 : decode cX4_findByChange 37 = .ok (.aload_n 0, 1) := by decide +kernel
theorem dX4_findByChange_38 : decode cX4_findByChange 38 = .ok (.getfield 10, 3) := by decide +kernel
theorem dX4_findByChange_41 : decode cX4_findByChange 41 = .ok (.aload_n 0, 1) := by decide +kernel
theorem dX4_findByChange_42 : decode cX4_findByChange 42 = .ok (.getfield 41, 3) := by decide +kernel
theorem dX4_findByChange_45 : decode cX4_findByChange 45 = .ok (.iload 4, 2) := by decide +kernel
theorem dX4_findByChange_47 : decode cX4_findByChange 47 = .ok (.aload_n 0, 1) := by decide +kernel
theorem dX4_findByChange_48 : decode cX4_findByChange 48 = .ok (.getfield 10, 3) := by decide +kernel
theorem dX4_findByChange_51 : decode cX4_findByChange 51 = .ok (.iload 4, 2) := by decide +kernel
theorem dX4_findByChange_53 : decode cX4_findByChange 53 = .ok (.invokevirtual 91, 3) := by decide +kernel
theorem dX4_findByChange_56 : decode cX4_findByChange 56 = .ok (.invokevirtual 109, 3) := by decide +kernel
theorem dX4_findByChange_59 : decode cX4_findByChange 59 = .ok (.iconst 0, 1) := by decide +kernel
theorem dX4_findByChange_60 : decode cX4_findByChange 60 = .ok (.istore 5, 2) := by decide +kernel
theorem dX4_findByChange_62 : decode cX4_findByChange 62 = .ok (.iload 5, 2) := by decide +kernel
theorem dX4_findByChange_64 : decode cX4_findByChange 64 = .ok (.aload_n 0, 1) := by decide +kernel
theorem dX4_findByChange_65 : decode cX4_findByChange 65 = .ok (.getfield 37, 3) := by decide +kernel
theorem dX4_findByChange_68 : decode cX4_findByChange 68 = .ok (.arraylength, 1) := by decide +kernel
theorem dX4_findByChange_69 : decode cX4_findByChange 69 = .ok (.if_icmp .ge 62, 3) := by decide +kernel
theorem dX4_findByChange_72 : decode cX4_findByChange 72 = .ok (.iload 5, 2) := by decide +kernel
theorem dX4_findByChange_74 : decode cX4_findByChange 74 = .ok (.aload_n 0, 1) := by decide +kernel
theorem dX4_findByChange_75 : decode cX4_findByChange 75 = .ok (.getfield 41, 3) := by decide +kernel
theorem dX4_findByChange_78 : decode cX4_findByChange 78 = .ok (.arraylength, 1) := by decide +kernel
theorem dX4_findByChange_79 : decode cX4_findByChange 79 = .ok (.if_icmp .ge 52, 3) := by decide +kernel
theorem dX4_findByChange_82 : decode cX4_findByChange 82 = .ok (.aload_n 0, 1) := by decide +kernel
theorem dX4_findByChange_83 : decode cX4_findByChange 83 = .ok (.getfield 37, 3) := by decide +kernel
theorem dX4_findByChange_86 : decode cX4_findByChange 86 = .ok (.iload 5, 2) := by decide +kernel
theorem dX4_findByChange_88 : decode cX4_findByChange 88 = .ok (.iaload, 1) := by decide +kernel
theorem dX4_findByChange_89 : decode cX4_findByChange 89 = .ok (.aload_n 0, 1) := by decide +kernel
theorem dX4_findByChange_90 : decode cX4_findByChange 90 = .ok (.getfield 37, 3) := by decide +kernel
theorem dX4_findByChange_93 : decode cX4_findByChange 93 = .ok (.iload 5, 2) := by decide +kernel
theorem dX4_findByChange_95 : decode cX4_findByChange 95 = .ok (.iaload, 1) := by decide +kernel
theorem dX4_findByChange_96 : decode cX4_findByChange 96 = .ok (.iadd, 1) := by decide +kernel
theorem dX4_findByChange_97 : decode cX4_findByChange 97 = .ok (.aload_n 0, 1) := by decide +kernel
theorem dX4_findByChange_98 : decode cX4_findByChange 98 = .ok (.getfield 41, 3) := by decide +kernel
theorem dX4_findByChange_101 : decode cX4_findByChange 101 = .ok (.iload 5, 2) := by decide +kernel
theorem dX4_findByChange_103 : decode cX4_findByChange 103 = .ok (.iaload, 1) := by decide +kernel
theorem dX4_findByChange_104 : decode cX4_findByChange 104 = .ok (.isub, 1) := by decide +kernel
theorem dX4_findByChange_105 : decode cX4_findByChange 105 = .ok (.istore 6, 2) := by decide +kernel
theorem dX4_findByChange_107 : decode cX4_findByChange 107 = .ok (.aload_n 0, 1) := by decide +kernel
theorem dX4_findByChange_108 : decode cX4_findByChange 108 = .ok (.getfield 37, 3) := by decide +kernel
theorem dX4_findByChange_111 : decode cX4_findByChange 111 = .ok (.iload 5, 2) := by decide +kernel
theorem dX4_findByChange_113 : decode cX4_findByChange 113 = .ok (.iconst 0, 1) := by decide +kernel
theorem dX4_findByChange_114 : decode cX4_findByChange 114 = .ok (.bipush 9, 2) := by decide +kernel
theorem dX4_findByChange_116 : decode cX4_findByChange 116 = .ok (.iload 6, 2) := by decide +kernel
theorem dX4_findByChange_118 : decode cX4_findByChange 118 = .ok (.invokestatic 198, 3) := by decide +kernel
theorem dX4_findByChange_121 : decode cX4_findByChange 121 = .ok (.invokestatic 326, 3) := by decide +kernel
theorem dX4_findByChange_124 : decode cX4_findByChange 124 = .ok (.iastore, 1) := by decide +kernel
theorem dX4_findByChange_125 : decode cX4_findByChange 125 = .ok (.iinc 5 1, 3) := by decide +kernel
theorem dX4_findByChange_128 : decode cX4_findByChange 128 = .ok (.goto (-66), 3) := by decide +kernel
theorem dX4_findByChange_131 : decode cX4_findByChange 131 = .ok (.aload_n 0, 1) := by decide +kernel
theorem dX4_findByChange_132 : decode cX4_findByChange 132 = .ok (.getfield 26, 3) := by decide +kernel
theorem dX4_findByChange_135 : decode cX4_findByChange 135 = .ok (.aload_n 0, 1) := by decide +kernel
theorem dX4_findByChange_136 : decode cX4_findByChange 136 = .ok (.getfield 10, 3) := by decide +kernel
theorem dX4_findByChange_139 : decode cX4_findByChange 139 = .ok (.aload_n 0, 1) := by decide +kernel
theorem dX4_findByChange_140 : decode cX4_findByChange 140 = .ok (.getfield 37, 3) := by decide +kernel
theorem dX4_findByChange_143 : decode cX4_findByChange 143 = .ok (.iload_n 1, 1) := by decide +kernel
theorem dX4_findByChange_144 : decode cX4_findByChange 144 = .ok (.invokevirtual 117, 3) := by decide +kernel
theorem dX4_findByChange_147 : decode cX4_findByChange 147 = .ok (.ireturn, 1) := by decide +kernel
theorem dX4_aground_0 : decode cX4_aground 0 = .ok (.iconst 0, 1) := by decide +kernel
theorem dX4_aground_1 : decode cX4_aground 1 = .ok (.istore 4, 2) := by decide +kernel
theorem dX4_aground_3 : decode cX4_aground 3 = .ok (.iload 4, 2) := by decide +kernel
theorem dX4_aground_5 : decode cX4_aground 5 = .ok (.aload_n 0, 1) := by decide +kernel
theorem dX4_aground_6 : decode cX4_aground 6 = .ok (.getfield 26, 3) := by decide +kernel
theorem dX4_aground_9 : decode cX4_aground 9 = .ok (.getfield 329, 3) := by decide +kernel
theorem dX4_aground_12 : decode cX4_aground 12 = .ok (.if_icmp .ge 38, 3) := by decide +kernel
theorem dX4_aground_15 : decode cX4_aground 15 = .ok (.aload_n 0, 1) := by decide +kernel
theorem dX4_aground_16 : decode cX4_aground 16 = .ok (.getfield 26, 3) := by decide +kernel
theorem dX4_aground_19 : decode cX4_aground 19 = .ok (.iload 4, 2) := by decide +kernel
theorem dX4_aground_21 : decode cX4_aground 21 = .ok (.invokevirtual 121, 3) := by decide +kernel
theorem dX4_aground_24 : decode cX4_aground 24 = .ok (.istore 5, 2) := by decide +kernel
theorem dX4_aground_26 : decode cX4_aground 26 = .ok (.aload_n 0, 1) := by decide +kernel
theorem dX4_aground_27 : decode cX4_aground 27 = .ok (.getfield 10, 3) := by decide +kernel
theorem dX4_aground_30 : decode cX4_aground 30 = .ok (.iload 5, 2) := by decide +kernel
theorem dX4_aground_32 : decode cX4_aground 32 = .ok (.iload_n 2, 1) := by decide +kernel
theorem dX4_aground_33 : decode cX4_aground 33 = .ok (.iload_n 3, 1) := by decide +kernel
theorem dX4_aground_34 : decode cX4_aground 34 = .ok (.invokevirtual 94, 3) := by decide +kernel
theorem dX4_aground_37 : decode cX4_aground 37 = .ok (.iload_n 1, 1) := by decide +kernel
theorem dX4_aground_38 : decode cX4_aground 38 = .ok (.if_icmp .ge 6, 3) := by decide +kernel
theorem dX4_aground_41 : decode cX4_aground 41 = .ok (.iload 5, 2) := by decide +kernel
theorem dX4_aground_43 : decode cX4_aground 43 = .ok (.ireturn, 1) := by decide +kernel
theorem dX4_aground_44 : decode cX4_aground 44 = .ok (.iinc 4 1, 3) := by decide +kernel
theorem dX4_aground_47 : decode cX4_aground 47 = .ok (.goto (-44), 3) := by decide +kernel
theorem dX4_aground_50 : decode cX4_aground 50 = .ok (.iconst (-1), 1) := by decide +kernel
theorem dX4_aground_51 : decode cX4_aground 51 = .ok (.ireturn, 1) := by decide +kernel
theorem dX4_passesByMap_0 : decode cX4_passesByMap 0 = .ok (.aload_n 0, 1) := by decide +kernel
theorem dX4_passesByMap_1 : decode cX4_passesByMap 1 = .ok (.iload_n 1, 1) := by decide +kernel
theorem dX4_passesByMap_2 : decode cX4_passesByMap 2 = .ok (.iload_n 2, 1) := by decide +kernel
theorem dX4_passesByMap_3 : decode cX4_passesByMap 3 = .ok (.invokevirtual 128, 3) := by decide +kernel
theorem dX4_passesByMap_6 : decode cX4_passesByMap 6 = .ok (.ifCond .eq 25, 3) := by decide +kernel
theorem dX4_passesByMap_9 : decode cX4_passesByMap 9 = .ok (.aload_n 0, 1) := by decide +kernel
theorem dX4_passesByMap_10 : decode cX4_passesByMap 10 = .ok (.iload_n 1, 1) := by decide +kernel
theorem dX4_passesByMap_11 : decode cX4_passesByMap 11 = .ok (.iload_n 2, 1) := by decide +kernel
theorem dX4_passesByMap_12 : decode cX4_passesByMap 12 = .ok (.aload_n 0, 1) := by decide +kernel
theorem dX4_passesByMap_13 : decode cX4_passesByMap 13 = .ok (.getfield 10, 3) := by decide +kernel
theorem dX4_passesByMap_16 : decode cX4_passesByMap 16 = .ok (.iload_n 2, 1) := by decide +kernel
theorem dX4_passesByMap_17 : decode cX4_passesByMap 17 = .ok (.invokevirtual 91, 3) := by decide +kernel
theorem dX4_passesByMap_20 : decode cX4_passesByMap 20 = .ok (.invokevirtual 131, 3) := by decide +kernel
theorem dX4_passesByMap_23 : decode cX4_passesByMap 23 = .ok (.iconst (-1), 1) := by decide +kernel
theorem dX4_passesByMap_24 : decode cX4_passesByMap 24 = .ok (.if_icmp .ne 7, 3) := by decide +kernel
theorem dX4_passesByMap_27 : decode cX4_passesByMap 27 = .ok (.iconst 1, 1) := by decide +kernel
theorem dX4_passesByMap_28 : decode cX4_passesByMap 28 = .ok (.goto 4, 3) := by decide +kernel
theorem dX4_passesByMap_31 : decode cX4_passesByMap 31 = .ok (.iconst 0, 1) := by decide +kernel
theorem dX4_passesByMap_32 : decode cX4_passesByMap 32 = .ok (.ireturn, 1) := by decide +kernel
theorem dX4_passesByChange_0 : decode cX4_passesByChange 0 = .ok (.aload_n 0, 1) := by decide +kernel
theorem dX4_passesByChange_1 : decode cX4_passesByChange 1 = .ok (.iload_n 1, 1) := by decide +kernel
theorem dX4_passesByChange_2 : decode cX4_passesByChange 2 = .ok (.iload_n 2, 1) := by decide +kernel
theorem dX4_passesByChange_3 : decode cX4_passesByChange 3 = .ok (.invokevirtual 134, 3) := by decide +kernel
theorem dX4_passesByChange_6 : decode cX4_passesByChange 6 = .ok (.ifCond .eq 25, 3) := by decide +kernel
theorem dX4_passesByChange_9 : decode cX4_passesByChange 9 = .ok (.aload_n 0, 1) := by decide +kernel
theorem dX4_passesByChange_10 : decode cX4_passesByChange 10 = .ok (.iload_n 1, 1) := by decide +kernel
theorem dX4_passesByChange_11 : decode cX4_passesByChange 11 = .ok (.iload_n 2, 1) := by decide +kernel
theorem dX4_passesByChange_12 : decode cX4_passesByChange 12 = .ok (.aload_n 0, 1) := by decide +kernel
theorem dX4_passesByChange_13 : decode cX4_passesByChange 13 = .ok (.getfield 10, 3) := by decide +kernel
theorem dX4_passesByChange_16 : decode cX4_passesByChange 16 = .ok (.iload_n 2, 1) := by decide +kernel
theorem dX4_passesByChange_17 : decode cX4_passesByChange 17 = .ok (.invokevirtual 91, 3) := by decide +kernel
theorem dX4_passesByChange_20 : decode cX4_passesByChange 20 = .ok (.invokevirtual 131, 3) := by decide +kernel
theorem dX4_passesByChange_23 : decode cX4_passesByChange 23 = .ok (.iconst (-1), 1) := by decide +kernel
theorem dX4_passesByChange_24 : decode cX4_passesByChange 24 = .ok (.if_icmp .ne 7, 3) := by decide +kernel
theorem dX4_passesByChange_27 : decode cX4_passesByChange 27 = .ok (.iconst 1, 1) := by decide +kernel
theorem dX4_passesByChange_28 : decode cX4_passesByChange 28 = .ok (.goto 4, 3) := by decide +kernel
theorem dX4_passesByChange_31 : decode cX4_passesByChange 31 = .ok (.iconst 0, 1) := by decide +kernel
theorem dX4_passesByChange_32 : decode cX4_passesByChange 32 = .ok (.ireturn, 1) := by decide +kernel
theorem dX4_findSafest_0 : decode cX4_findSafest 0 = .ok (.aload_n 0, 1) := by decide +kernel
theorem dX4_findSafest_1 : decode cX4_findSafest 1 = .ok (.getfield 10, 3) := by decide +kernel
theorem dX4_findSafest_4 : decode cX4_findSafest 4 = .ok (.aload_n 0, 1) := by decide +kernel
theorem dX4_findSafest_5 : decode cX4_findSafest 5 = .ok (.getfield 37, 3) := by decide +kernel
theorem dX4_findSafest_8 : decode cX4_findSafest 8 = .ok (.iload_n 2, 1) := by decide +kernel
theorem dX4_findSafest_9 : decode cX4_findSafest 9 = .ok (.iconst 0, 1) := by decide +kernel
theorem dX4_findSafest_10 : decode cX4_findSafest 10 = .ok (.invokevirtual 109, 3) := by decide +kernel
theorem dX4_findSafest_13 : decode cX4_findSafest 13 = .ok (.aload_n 0, 1) := by decide +kernel
theorem dX4_findSafest_14 : decode cX4_findSafest 14 = .ok (.getfield 10, 3) := by decide +kernel
theorem dX4_findSafest_17 : decode cX4_findSafest 17 = .ok (.aload_n 0, 1) := by decide +kernel
theorem dX4_findSafest_18 : decode cX4_findSafest 18 = .ok (.getfield 41, 3) := by decide +kernel
theorem dX4_findSafest_21 : decode cX4_findSafest 21 = .ok (.iload_n 2, 1) := by decide +kernel
theorem dX4_findSafest_22 : decode cX4_findSafest 22 = .ok (.iconst 1, 1) := by decide +kernel
theorem dX4_findSafest_23 : decode cX4_findSafest 23 = .ok (.invokevirtual 109, 3) := by decide +kernel
theorem dX4_findSafest_26 : decode cX4_findSafest 26 = .ok (.iconst 0, 1) := by decide +kernel
theorem dX4_findSafest_27 : decode cX4_findSafest 27 = .ok (.istore_n 3, 1) := by decide +kernel
theorem dX4_findSafest_28 : decode cX4_findSafest 28 = .ok (.iload_n 3, 1) := by decide +kernel
theorem dX4_findSafest_29 : decode cX4_findSafest 29 = .ok (.aload_n 0, 1) := by decide +kernel
theorem dX4_findSafest_30 : decode cX4_findSafest 30 = .ok (.getfield 37, 3) := by decide +kernel
theorem dX4_findSafest_33 : decode cX4_findSafest 33 = .ok (.arraylength, 1) := by decide +kernel
theorem dX4_findSafest_34 : decode cX4_findSafest 34 = .ok (.if_icmp .ge 68, 3) := by decide +kernel
theorem dX4_findSafest_37 : decode cX4_findSafest 37 = .ok (.iload_n 3, 1) := by decide +kernel
theorem dX4_findSafest_38 : decode cX4_findSafest 38 = .ok (.aload_n 0, 1) := by decide +kernel
theorem dX4_findSafest_39 : decode cX4_findSafest 39 = .ok (.getfield 41, 3) := by decide +kernel
theorem dX4_findSafest_42 : decode cX4_findSafest 42 = .ok (.arraylength, 1) := by decide +kernel
theorem dX4_findSafest_43 : decode cX4_findSafest 43 = .ok (.if_icmp .ge 59, 3) := by decide +kernel
theorem dX4_findSafest_46 : decode cX4_findSafest 46 = .ok (.aload_n 0, 1) := by decide +kernel
theorem dX4_findSafest_47 : decode cX4_findSafest 47 = .ok (.getfield 37, 3) := by decide +kernel
theorem dX4_findSafest_50 : decode cX4_findSafest 50 = .ok (.iload_n 3, 1) := by decide +kernel
theorem dX4_findSafest_51 : decode cX4_findSafest 51 = .ok (.iaload, 1) := by decide +kernel
theorem dX4_findSafest_52 : decode cX4_findSafest 52 = .ok (.iload_n 1, 1) := by decide +kernel
theorem dX4_findSafest_53 : decode cX4_findSafest 53 = .ok (.if_icmp .lt 13, 3) := by decide +kernel
theorem dX4_findSafest_56 : decode cX4_findSafest 56 = .ok (.bipush 16, 2) := by decide +kernel
theorem dX4_findSafest_58 : decode cX4_findSafest 58 = .ok (.aload_n 0, 1) := by decide +kernel
theorem dX4_findSafest_59 : decode cX4_findSafest 59 = .ok (.getfield 44, 3) := by decide +kernel
theorem dX4_findSafest_62 : decode cX4_findSafest 62 = .ok (.isub, 1) := by decide +kernel
theorem dX4_findSafest_63 : decode cX4_findSafest 63 = .ok (.goto 4, 3) := by decide +kernel
theorem dX4_findSafest_66 : decode cX4_findSafest 66 = .ok (.iconst 0, 1) := by decide +kernel
theorem dX4_findSafest_67 : decode cX4_findSafest 67 = .ok (.istore 4, 2) := by decide +kernel
theorem dX4_findSafest_69 : decode cX4_findSafest 69 = .ok (.aload_n 0, 1) := by decide +kernel
theorem dX4_findSafest_70 : decode cX4_findSafest 70 = .ok (.getfield 41, 3) := by decide +kernel
theorem dX4_findSafest_73 : decode cX4_findSafest 73 = .ok (.iload_n 3, 1) := by decide +kernel
theorem dX4_findSafest_74 : decode cX4_findSafest 74 = .ok (.iaload, 1) := by decide +kernel
theorem dX4_findSafest_75 : decode cX4_findSafest 75 = .ok (.iload_n 1, 1) := by decide +kernel
theorem dX4_findSafest_76 : decode cX4_findSafest 76 = .ok (.if_icmp .lt 12, 3) := by decide +kernel
theorem dX4_findSafest_79 : decode cX4_findSafest 79 = .ok (.iload 4, 2) := by decide +kernel
theorem dX4_findSafest_81 : decode cX4_findSafest 81 = .ok (.aload_n 0, 1) := by decide +kernel
theorem dX4_findSafest_82 : decode cX4_findSafest 82 = .ok (.getfield 44, 3) := by decide +kernel
theorem dX4_findSafest_85 : decode cX4_findSafest 85 = .ok (.iadd, 1) := by decide +kernel
theorem dX4_findSafest_86 : decode cX4_findSafest 86 = .ok (.istore 4, 2) := by decide +kernel
theorem dX4_findSafest_88 : decode cX4_findSafest 88 = .ok (.aload_n 0, 1) := by decide +kernel
theorem dX4_findSafest_89 : decode cX4_findSafest 89 = .ok (.getfield 37, 3) := by decide +kernel
theorem dX4_findSafest_92 : decode cX4_findSafest 92 = .ok (.iload_n 3, 1) := by decide +kernel
theorem dX4_findSafest_93 : decode cX4_findSafest 93 = .ok (.iload 4, 2) := by decide +kernel
theorem dX4_findSafest_95 : decode cX4_findSafest 95 = .ok (.iastore, 1) := by decide +kernel
theorem dX4_findSafest_96 : decode cX4_findSafest 96 = .ok (.iinc 3 1, 3) := by decide +kernel
theorem dX4_findSafest_99 : decode cX4_findSafest 99 = .ok (.goto (-71), 3) := by decide +kernel
theorem dX4_findSafest_102 : decode cX4_findSafest 102 = .ok (.aload_n 0, 1) := by decide +kernel
theorem dX4_findSafest_103 : decode cX4_findSafest 103 = .ok (.getfield 26, 3) := by decide +kernel
theorem dX4_findSafest_106 : decode cX4_findSafest 106 = .ok (.aload_n 0, 1) := by decide +kernel
theorem dX4_findSafest_107 : decode cX4_findSafest 107 = .ok (.getfield 10, 3) := by decide +kernel
theorem dX4_findSafest_110 : decode cX4_findSafest 110 = .ok (.aload_n 0, 1) := by decide +kernel
theorem dX4_findSafest_111 : decode cX4_findSafest 111 = .ok (.getfield 37, 3) := by decide +kernel
theorem dX4_findSafest_114 : decode cX4_findSafest 114 = .ok (.invokevirtual 330, 3) := by decide +kernel
theorem dX4_findSafest_117 : decode cX4_findSafest 117 = .ok (.istore_n 3, 1) := by decide +kernel
theorem dX4_findSafest_118 : decode cX4_findSafest 118 = .ok (.iload_n 3, 1) := by decide +kernel
theorem dX4_findSafest_119 : decode cX4_findSafest 119 = .ok (.ifCond .le 5, 3) := by decide +kernel
theorem dX4_findSafest_122 : decode cX4_findSafest 122 = .ok (.iload_n 3, 1) := by decide +kernel
theorem dX4_findSafest_123 : decode cX4_findSafest 123 = .ok (.ireturn, 1) := by decide +kernel
theorem dX4_findSafest_124 : decode cX4_findSafest 124 = .ok (.aload_n 0, 1) := by decide +kernel
theorem dX4_findSafest_125 : decode cX4_findSafest 125 = .ok (.getfield 26, 3) := by decide +kernel
theorem dX4_findSafest_128 : decode cX4_findSafest 128 = .ok (.aload_n 0, 1) := by decide +kernel
theorem dX4_findSafest_129 : decode cX4_findSafest 129 = .ok (.getfield 10, 3) := by decide +kernel
theorem dX4_findSafest_132 : decode cX4_findSafest 132 = .ok (.aload_n 0, 1) := by decide +kernel
theorem dX4_findSafest_133 : decode cX4_findSafest 133 = .ok (.getfield 37, 3) := by decide +kernel
theorem dX4_findSafest_136 : decode cX4_findSafest 136 = .ok (.iconst 0, 1) := by decide +kernel
theorem dX4_findSafest_137 : decode cX4_findSafest 137 = .ok (.invokevirtual 117, 3) := by decide +kernel
theorem dX4_findSafest_140 : decode cX4_findSafest 140 = .ok (.pop, 1) := by decide +kernel
theorem dX4_findSafest_141 : decode cX4_findSafest 141 = .ok (.iconst 0, 1) := by decide +kernel
theorem dX4_findSafest_142 : decode cX4_findSafest 142 = .ok (.ireturn, 1) := by decide +kernel
theorem dX4_allRows_0 : decode cX4_allRows 0 = .ok (.aload_n 0, 1) := by decide +kernel
theorem dX4_allRows_1 : decode cX4_allRows 1 = .ok (.getfield 10, 3) := by decide +kernel
theorem dX4_allRows_4 : decode cX4_allRows 4 = .ok (.aload_n 0, 1) := by decide +kernel
theorem dX4_allRows_5 : decode cX4_allRows 5 = .ok (.getfield 37, 3) := by decide +kernel
theorem dX4_allRows_8 : decode cX4_allRows 8 = .ok (.iconst 0, 1) := by decide +kernel
theorem dX4_allRows_9 : decode cX4_allRows 9 = .ok (.iconst 0, 1) := by decide +kernel
theorem dX4_allRows_10 : decode cX4_allRows 10 = .ok (.invokevirtual 109, 3) := by decide +kernel
theorem dX4_allRows_13 : decode cX4_allRows 13 = .ok (.aload_n 0, 1) := by decide +kernel
theorem dX4_allRows_14 : decode cX4_allRows 14 = .ok (.getfield 26, 3) := by decide +kernel
theorem dX4_allRows_17 : decode cX4_allRows 17 = .ok (.aload_n 0, 1) := by decide +kernel
theorem dX4_allRows_18 : decode cX4_allRows 18 = .ok (.getfield 10, 3) := by decide +kernel
theorem dX4_allRows_21 : decode cX4_allRows 21 = .ok (.aload_n 0, 1) := by decide +kernel
theorem dX4_allRows_22 : decode cX4_allRows 22 = .ok (.getfield 37, 3) := by decide +kernel
theorem dX4_allRows_25 : decode cX4_allRows 25 = .ok (.iconst 0, 1) := by decide +kernel
theorem dX4_allRows_26 : decode cX4_allRows 26 = .ok (.invokevirtual 113, 3) := by decide +kernel
theorem dX4_allRows_29 : decode cX4_allRows 29 = .ok (.ireturn, 1) := by decide +kernel
theorem dX4_nightShown_0 : decode cX4_nightShown 0 = .ok (.iconst 0, 1) := by decide +kernel
theorem dX4_nightShown_1 : decode cX4_nightShown 1 = .ok (.iload_n 0, 1) := by decide +kernel
theorem dX4_nightShown_2 : decode cX4_nightShown 2 = .ok (.iconst 1, 1) := by decide +kernel
theorem dX4_nightShown_3 : decode cX4_nightShown 3 = .ok (.isub, 1) := by decide +kernel
theorem dX4_nightShown_4 : decode cX4_nightShown 4 = .ok (.invokestatic 326, 3) := by decide +kernel
theorem dX4_nightShown_7 : decode cX4_nightShown 7 = .ok (.ireturn, 1) := by decide +kernel
theorem dX4_inLowestTerms_0 : decode cX4_inLowestTerms 0 = .ok (.iload_n 0, 1) := by decide +kernel
theorem dX4_inLowestTerms_1 : decode cX4_inLowestTerms 1 = .ok (.istore_n 3, 1) := by decide +kernel
theorem dX4_inLowestTerms_2 : decode cX4_inLowestTerms 2 = .ok (.iload_n 1, 1) := by decide +kernel
theorem dX4_inLowestTerms_3 : decode cX4_inLowestTerms 3 = .ok (.istore 4, 2) := by decide +kernel
theorem dX4_inLowestTerms_5 : decode cX4_inLowestTerms 5 = .ok (.iconst 0, 1) := by decide +kernel
theorem dX4_inLowestTerms_6 : decode cX4_inLowestTerms 6 = .ok (.istore 5, 2) := by decide +kernel
theorem dX4_inLowestTerms_8 : decode cX4_inLowestTerms 8 = .ok (.iload 5, 2) := by decide +kernel
theorem dX4_inLowestTerms_10 : decode cX4_inLowestTerms 10 = .ok (.bipush 32, 2) := by decide +kernel
theorem dX4_inLowestTerms_12 : decode cX4_inLowestTerms 12 = .ok (.if_icmp .ge 32, 3) := by decide +kernel
theorem dX4_inLowestTerms_15 : decode cX4_inLowestTerms 15 = .ok (.iload_n 3, 1) := by decide +kernel
theorem dX4_inLowestTerms_16 : decode cX4_inLowestTerms 16 = .ok (.iconst 2, 1) := by decide +kernel
theorem dX4_inLowestTerms_17 : decode cX4_inLowestTerms 17 = .ok (.irem, 1) := by decide +kernel
theorem dX4_inLowestTerms_18 : decode cX4_inLowestTerms 18 = .ok (.ifCond .ne 26, 3) := by decide +kernel
theorem dX4_inLowestTerms_21 : decode cX4_inLowestTerms 21 = .ok (.iload 4, 2) := by decide +kernel
theorem dX4_inLowestTerms_23 : decode cX4_inLowestTerms 23 = .ok (.iconst 2, 1) := by decide +kernel
theorem dX4_inLowestTerms_24 : decode cX4_inLowestTerms 24 = .ok (.irem, 1) := by decide +kernel
theorem dX4_inLowestTerms_25 : decode cX4_inLowestTerms 25 = .ok (.ifCond .ne 19, 3) := by decide +kernel
theorem dX4_inLowestTerms_28 : decode cX4_inLowestTerms 28 = .ok (.iload_n 3, 1) := by decide +kernel
theorem dX4_inLowestTerms_29 : decode cX4_inLowestTerms 29 = .ok (.iconst 2, 1) := by decide +kernel
theorem dX4_inLowestTerms_30 : decode cX4_inLowestTerms 30 = .ok (.idiv, 1) := by decide +kernel
theorem dX4_inLowestTerms_31 : decode cX4_inLowestTerms 31 = .ok (.istore_n 3, 1) := by decide +kernel
theorem dX4_inLowestTerms_32 : decode cX4_inLowestTerms 32 = .ok (.iload 4, 2) := by decide +kernel
theorem dX4_inLowestTerms_34 : decode cX4_inLowestTerms 34 = .ok (.iconst 2, 1) := by decide +kernel
theorem dX4_inLowestTerms_35 : decode cX4_inLowestTerms 35 = .ok (.idiv, 1) := by decide +kernel
theorem dX4_inLowestTerms_36 : decode cX4_inLowestTerms 36 = .ok (.istore 4, 2) := by decide +kernel
theorem dX4_inLowestTerms_38 : decode cX4_inLowestTerms 38 = .ok (.iinc 5 1, 3) := by decide +kernel
theorem dX4_inLowestTerms_41 : decode cX4_inLowestTerms 41 = .ok (.goto (-33), 3) := by decide +kernel
theorem dX4_inLowestTerms_44 : decode cX4_inLowestTerms 44 = .ok (.iload_n 2, 1) := by decide +kernel
theorem dX4_inLowestTerms_45 : decode cX4_inLowestTerms 45 = .ok (.ifCond .ne 7, 3) := by decide +kernel
theorem dX4_inLowestTerms_48 : decode cX4_inLowestTerms 48 = .ok (.iload_n 3, 1) := by decide +kernel
theorem dX4_inLowestTerms_49 : decode cX4_inLowestTerms 49 = .ok (.goto 5, 3) := by decide +kernel
theorem dX4_inLowestTerms_52 : decode cX4_inLowestTerms 52 = .ok (.iload 4, 2) := by decide +kernel
theorem dX4_inLowestTerms_54 : decode cX4_inLowestTerms 54 = .ok (.ireturn, 1) := by decide +kernel
theorem dX4_sheetAt_0 : decode cX4_sheetAt 0 = .ok (.iload_n 1, 1) := by decide +kernel
theorem dX4_sheetAt_1 : decode cX4_sheetAt 1 = .ok (.ifCond .lt 21, 3) := by decide +kernel
theorem dX4_sheetAt_4 : decode cX4_sheetAt 4 = .ok (.iload_n 1, 1) := by decide +kernel
theorem dX4_sheetAt_5 : decode cX4_sheetAt 5 = .ok (.aload_n 0, 1) := by decide +kernel
theorem dX4_sheetAt_6 : decode cX4_sheetAt 6 = .ok (.getfield 32, 3) := by decide +kernel
theorem dX4_sheetAt_9 : decode cX4_sheetAt 9 = .ok (.arraylength, 1) := by decide +kernel
theorem dX4_sheetAt_10 : decode cX4_sheetAt 10 = .ok (.if_icmp .ge 12, 3) := by decide +kernel
theorem dX4_sheetAt_13 : decode cX4_sheetAt 13 = .ok (.aload_n 0, 1) := by decide +kernel
theorem dX4_sheetAt_14 : decode cX4_sheetAt 14 = .ok (.getfield 32, 3) := by decide +kernel
theorem dX4_sheetAt_17 : decode cX4_sheetAt 17 = .ok (.iload_n 1, 1) := by decide +kernel
theorem dX4_sheetAt_18 : decode cX4_sheetAt 18 = .ok (.aaload, 1) := by decide +kernel
theorem dX4_sheetAt_19 : decode cX4_sheetAt 19 = .ok (.goto 4, 3) := by decide +kernel
theorem dX4_sheetAt_22 : decode cX4_sheetAt 22 = .ok (.aconst_null, 1) := by decide +kernel
theorem dX4_sheetAt_23 : decode cX4_sheetAt 23 = .ok (.areturn, 1) := by decide +kernel
theorem dX4_refusalOfItem_0 : decode cX4_refusalOfItem 0 = .ok (.aload_n 1, 1) := by decide +kernel
theorem dX4_refusalOfItem_1 : decode cX4_refusalOfItem 1 = .ok (.ifnull 10, 3) := by decide +kernel
theorem dX4_refusalOfItem_4 : decode cX4_refusalOfItem 4 = .ok (.iload_n 2, 1) := by decide +kernel
theorem dX4_refusalOfItem_5 : decode cX4_refusalOfItem 5 = .ok (.invokestatic 208, 3) := by decide +kernel
theorem dX4_refusalOfItem_8 : decode cX4_refusalOfItem 8 = .ok (.ifCond .ne 6, 3) := by decide +kernel
theorem dX4_refusalOfItem_11 : decode cX4_refusalOfItem 11 = .ok (.bipush (-2), 2) := by decide +kernel
theorem dX4_refusalOfItem_13 : decode cX4_refusalOfItem 13 = .ok (.ireturn, 1) := by decide +kernel
theorem dX4_refusalOfItem_14 : decode cX4_refusalOfItem 14 = .ok (.aload_n 1, 1) := by decide +kernel
theorem dX4_refusalOfItem_15 : decode cX4_refusalOfItem 15 = .ok (.invokevirtual 163, 3) := by decide +kernel
theorem dX4_refusalOfItem_18 : decode cX4_refusalOfItem 18 = .ok (.ifCond .eq 9, 3) := by decide +kernel
theorem dX4_refusalOfItem_21 : decode cX4_refusalOfItem 21 = .ok (.aload_n 0, 1) := by decide +kernel
theorem dX4_refusalOfItem_22 : decode cX4_refusalOfItem 22 = .ok (.iconst 1, 1) := by decide +kernel
theorem dX4_refusalOfItem_23 : decode cX4_refusalOfItem 23 = .ok (.invokevirtual 166, 3) := by decide +kernel
theorem dX4_refusalOfItem_26 : decode cX4_refusalOfItem 26 = .ok (.ireturn, 1) := by decide +kernel
theorem dX4_refusalOfItem_27 : decode cX4_refusalOfItem 27 = .ok (.aload_n 1, 1) := by decide +kernel
theorem dX4_refusalOfItem_28 : decode cX4_refusalOfItem 28 = .ok (.getfield 223, 3) := by decide +kernel
theorem dX4_refusalOfItem_31 : decode cX4_refusalOfItem 31 = .ok (.iload_n 2, 1) := by decide +kernel
theorem dX4_refusalOfItem_32 : decode cX4_refusalOfItem 32 = .ok (.if_icmp .eq 9, 3) := by decide +kernel
theorem dX4_refusalOfItem_35 : decode cX4_refusalOfItem 35 = .ok (.aload_n 0, 1) := by decide +kernel
theorem dX4_refusalOfItem_36 : decode cX4_refusalOfItem 36 = .ok (.iconst 3, 1) := by decide +kernel
theorem dX4_refusalOfItem_37 : decode cX4_refusalOfItem 37 = .ok (.invokevirtual 166, 3) := by decide +kernel
theorem dX4_refusalOfItem_40 : decode cX4_refusalOfItem 40 = .ok (.ireturn, 1) := by decide +kernel
theorem dX4_refusalOfItem_41 : decode cX4_refusalOfItem 41 = .ok (.aload_n 1, 1) := by decide +kernel
theorem dX4_refusalOfItem_42 : decode cX4_refusalOfItem 42 = .ok (.iload_n 3, 1) := by decide +kernel
theorem dX4_refusalOfItem_43 : decode cX4_refusalOfItem 43 = .ok (.iconst 1, 1) := by decide +kernel
theorem dX4_refusalOfItem_44 : decode cX4_refusalOfItem 44 = .ok (.invokevirtual 226, 3) := by decide +kernel
theorem dX4_refusalOfItem_47 : decode cX4_refusalOfItem 47 = .ok (.ifCond .eq 7, 3) := by decide +kernel
theorem dX4_refusalOfItem_50 : decode cX4_refusalOfItem 50 = .ok (.iconst 0, 1) := by decide +kernel
theorem dX4_refusalOfItem_51 : decode cX4_refusalOfItem 51 = .ok (.goto 8, 3) := by decide +kernel
theorem dX4_refusalOfItem_54 : decode cX4_refusalOfItem 54 = .ok (.aload_n 0, 1) := by decide +kernel
theorem dX4_refusalOfItem_55 : decode cX4_refusalOfItem 55 = .ok (.iconst 2, 1) := by decide +kernel
theorem dX4_refusalOfItem_56 : decode cX4_refusalOfItem 56 = .ok (.invokevirtual 166, 3) := by decide +kernel
theorem dX4_refusalOfItem_59 : decode cX4_refusalOfItem 59 = .ok (.ireturn, 1) := by decide +kernel
theorem dX4_found_0 : decode cX4_found 0 = .ok (.aload_n 0, 1) := by decide +kernel
theorem dX4_found_1 : decode cX4_found 1 = .ok (.iload_n 1, 1) := by decide +kernel
theorem dX4_found_2 : decode cX4_found 2 = .ok (.putfield 48, 3) := by decide +kernel
theorem dX4_found_5 : decode cX4_found 5 = .ok (.bipush (-10), 2) := by decide +kernel
theorem dX4_found_7 : decode cX4_found 7 = .ok (.iload_n 1, 1) := by decide +kernel
theorem dX4_found_8 : decode cX4_found 8 = .ok (.isub, 1) := by decide +kernel
theorem dX4_found_9 : decode cX4_found 9 = .ok (.ireturn, 1) := by decide +kernel
theorem dX4_itemOf_0 : decode cX4_itemOf 0 = .ok (.iload_n 1, 1) := by decide +kernel
theorem dX4_itemOf_1 : decode cX4_itemOf 1 = .ok (.ifCond .lt 15, 3) := by decide +kernel
theorem dX4_itemOf_4 : decode cX4_itemOf 4 = .ok (.iload_n 1, 1) := by decide +kernel
theorem dX4_itemOf_5 : decode cX4_itemOf 5 = .ok (.aload_n 0, 1) := by decide +kernel
theorem dX4_itemOf_6 : decode cX4_itemOf 6 = .ok (.arraylength, 1) := by decide +kernel
theorem dX4_itemOf_7 : decode cX4_itemOf 7 = .ok (.if_icmp .ge 9, 3) := by decide +kernel
theorem dX4_itemOf_10 : decode cX4_itemOf 10 = .ok (.aload_n 0, 1) := by decide +kernel
theorem dX4_itemOf_11 : decode cX4_itemOf 11 = .ok (.iload_n 1, 1) := by decide +kernel
theorem dX4_itemOf_12 : decode cX4_itemOf 12 = .ok (.iaload, 1) := by decide +kernel
theorem dX4_itemOf_13 : decode cX4_itemOf 13 = .ok (.goto 4, 3) := by decide +kernel
theorem dX4_itemOf_16 : decode cX4_itemOf 16 = .ok (.iconst (-1), 1) := by decide +kernel
theorem dX4_itemOf_17 : decode cX4_itemOf 17 = .ok (.ireturn, 1) := by decide +kernel
theorem dX4_putInto_0 : decode cX4_putInto 0 = .ok (.iload_n 1, 1) := by decide +kernel
theorem dX4_putInto_1 : decode cX4_putInto 1 = .ok (.ifCond .lt 13, 3) := by decide +kernel
theorem dX4_putInto_4 : decode cX4_putInto 4 = .ok (.iload_n 1, 1) := by decide +kernel
theorem dX4_putInto_5 : decode cX4_putInto 5 = .ok (.aload_n 0, 1) := by decide +kernel
theorem dX4_putInto_6 : decode cX4_putInto 6 = .ok (.arraylength, 1) := by decide +kernel
theorem dX4_putInto_7 : decode cX4_putInto 7 = .ok (.if_icmp .ge 7, 3) := by decide +kernel
theorem dX4_putInto_10 : decode cX4_putInto 10 = .ok (.aload_n 0, 1) := by decide +kernel
theorem dX4_putInto_11 : decode cX4_putInto 11 = .ok (.iload_n 1, 1) := by decide +kernel
theorem dX4_putInto_12 : decode cX4_putInto 12 = .ok (.iload_n 2, 1) := by decide +kernel
theorem dX4_putInto_13 : decode cX4_putInto 13 = .ok (.iastore, 1) := by decide +kernel
theorem dX4_putInto_14 : decode cX4_putInto 14 = .ok (.return_, 1) := by decide +kernel
theorem dX4_shifted_0 : decode cX4_shifted 0 = .ok (.iload_n 0, 1) := by decide +kernel
theorem dX4_shifted_1 : decode cX4_shifted 1 = .ok (.iconst 4, 1) := by decide +kernel
theorem dX4_shifted_2 : decode cX4_shifted 2 = .ok (.if_icmp .ne 17, 3) := by decide +kernel
theorem dX4_shifted_5 : decode cX4_shifted 5 = .ok (.iload 4, 2) := by decide +kernel
theorem dX4_shifted_7 : decode cX4_shifted 7 = .ok (.ifCond .eq 10, 3) := by decide +kernel
theorem dX4_shifted_10 : decode cX4_shifted 10 = .ok (.bipush 9, 2) := by decide +kernel
theorem dX4_shifted_12 : decode cX4_shifted 12 = .ok (.iload_n 1, 1) := by decide +kernel
theorem dX4_shifted_13 : decode cX4_shifted 13 = .ok (.isub, 1) := by decide +kernel
theorem dX4_shifted_14 : decode cX4_shifted 14 = .ok (.goto 4, 3) := by decide +kernel
theorem dX4_shifted_17 : decode cX4_shifted 17 = .ok (.iload_n 1, 1) := by decide +kernel
theorem dX4_shifted_18 : decode cX4_shifted 18 = .ok (.ireturn, 1) := by decide +kernel
theorem dX4_shifted_19 : decode cX4_shifted 19 = .ok (.iload_n 2, 1) := by decide +kernel
theorem dX4_shifted_20 : decode cX4_shifted 20 = .ok (.iconst 1, 1) := by decide +kernel
theorem dX4_shifted_21 : decode cX4_shifted 21 = .ok (.if_icmp .ge 5, 3) := by decide +kernel
theorem dX4_shifted_24 : decode cX4_shifted 24 = .ok (.iload_n 1, 1) := by decide +kernel
theorem dX4_shifted_25 : decode cX4_shifted 25 = .ok (.ireturn, 1) := by decide +kernel
theorem dX4_shifted_26 : decode cX4_shifted 26 = .ok (.iload_n 3, 1) := by decide +kernel
theorem dX4_shifted_27 : decode cX4_shifted 27 = .ok (.iload_n 2, 1) := by decide +kernel
theorem dX4_shifted_28 : decode cX4_shifted 28 = .ok (.idiv, 1) := by decide +kernel
theorem dX4_shifted_29 : decode cX4_shifted 29 = .ok (.istore 5, 2) := by decide +kernel
theorem dX4_shifted_31 : decode cX4_shifted 31 = .ok (.iload_n 0, 1) := by decide +kernel
theorem dX4_shifted_32 : decode cX4_shifted 32 = .ok (.tableswitch 83 0 3 #[32, 40, 52, 67], 32) := by decide +kernel
theorem dX4_shifted_64 : decode cX4_shifted 64 = .ok (.iload_n 1, 1) := by decide +kernel
theorem dX4_shifted_65 : decode cX4_shifted 65 = .ok (.iload 5, 2) := by decide +kernel
theorem dX4_shifted_67 : decode cX4_shifted 67 = .ok (.iadd, 1) := by decide +kernel
theorem dX4_shifted_68 : decode cX4_shifted 68 = .ok (.bipush 10, 2) := by decide +kernel
theorem dX4_shifted_70 : decode cX4_shifted 70 = .ok (.irem, 1) := by decide +kernel
theorem dX4_shifted_71 : decode cX4_shifted 71 = .ok (.ireturn, 1) := by decide +kernel
theorem dX4_shifted_72 : decode cX4_shifted 72 = .ok (.iload_n 3, 1) := by decide +kernel
theorem dX4_shifted_73 : decode cX4_shifted 73 = .ok (.iload_n 2, 1) := by decide +kernel
theorem dX4_shifted_74 : decode cX4_shifted 74 = .ok (.irem, 1) := by decide +kernel
theorem dX4_shifted_75 : decode cX4_shifted 75 = .ok (.ifCond .ne 7, 3) := by decide +kernel
theorem dX4_shifted_78 : decode cX4_shifted 78 = .ok (.iload_n 1, 1) := by decide +kernel
theorem dX4_shifted_79 : decode cX4_shifted 79 = .ok (.goto 4, 3) := by decide +kernel
theorem dX4_shifted_82 : decode cX4_shifted 82 = .ok (.iconst 0, 1) := by decide +kernel
theorem dX4_shifted_83 : decode cX4_shifted 83 = .ok (.ireturn, 1) := by decide +kernel
theorem dX4_shifted_84 : decode cX4_shifted 84 = .ok (.iload 5, 2) := by decide +kernel
theorem dX4_shifted_86 : decode cX4_shifted 86 = .ok (.iload_n 1, 1) := by decide +kernel
theorem dX4_shifted_87 : decode cX4_shifted 87 = .ok (.if_icmp .ge 10, 3) := by decide +kernel
theorem dX4_shifted_90 : decode cX4_shifted 90 = .ok (.iload_n 1, 1) := by decide +kernel
theorem dX4_shifted_91 : decode cX4_shifted 91 = .ok (.iload 5, 2) := by decide +kernel
theorem dX4_shifted_93 : decode cX4_shifted 93 = .ok (.isub, 1) := by decide +kernel
theorem dX4_shifted_94 : decode cX4_shifted 94 = .ok (.goto 4, 3) := by decide +kernel
theorem dX4_shifted_97 : decode cX4_shifted 97 = .ok (.iconst 0, 1) := by decide +kernel
theorem dX4_shifted_98 : decode cX4_shifted 98 = .ok (.ireturn, 1) := by decide +kernel
theorem dX4_shifted_99 : decode cX4_shifted 99 = .ok (.iload 5, 2) := by decide +kernel
theorem dX4_shifted_101 : decode cX4_shifted 101 = .ok (.iconst 2, 1) := by decide +kernel
theorem dX4_shifted_102 : decode cX4_shifted 102 = .ok (.irem, 1) := by decide +kernel
theorem dX4_shifted_103 : decode cX4_shifted 103 = .ok (.ifCond .ne 7, 3) := by decide +kernel
theorem dX4_shifted_106 : decode cX4_shifted 106 = .ok (.iload_n 1, 1) := by decide +kernel
theorem dX4_shifted_107 : decode cX4_shifted 107 = .ok (.goto 7, 3) := by decide +kernel
theorem dX4_shifted_110 : decode cX4_shifted 110 = .ok (.bipush 9, 2) := by decide +kernel
theorem dX4_shifted_112 : decode cX4_shifted 112 = .ok (.iload_n 1, 1) := by decide +kernel
theorem dX4_shifted_113 : decode cX4_shifted 113 = .ok (.isub, 1) := by decide +kernel
theorem dX4_shifted_114 : decode cX4_shifted 114 = .ok (.ireturn, 1) := by decide +kernel
theorem dX4_shifted_115 : decode cX4_shifted 115 = .ok (.iload_n 1, 1) := by decide +kernel
theorem dX4_shifted_116 : decode cX4_shifted 116 = .ok (.ireturn, 1) := by decide +kernel
theorem dX5_init_0 : decode cX5_init 0 = .ok (.aload_n 0, 1) := by decide +kernel
theorem dX5_init_1 : decode cX5_init 1 = .ok (.invokespecial 1, 3) := by decide +kernel
theorem dX5_init_4 : decode cX5_init 4 = .ok (.aload_n 0, 1) := by decide +kernel
theorem dX5_init_5 : decode cX5_init 5 = .ok (.iconst 4, 1) := by decide +kernel
theorem dX5_init_6 : decode cX5_init 6 = .ok (.newarray .int, 2) := by decide +kernel
theorem dX5_init_8 : decode cX5_init 8 = .ok (.putfield 7, 3) := by decide +kernel
theorem dX5_init_11 : decode cX5_init 11 = .ok (.aload_n 0, 1) := by decide +kernel
theorem dX5_init_12 : decode cX5_init 12 = .ok (.iconst 4, 1) := by decide +kernel
theorem dX5_init_13 : decode cX5_init 13 = .ok (.newarray .int, 2) := by decide +kernel
theorem dX5_init_15 : decode cX5_init 15 = .ok (.putfield 13, 3) := by decide +kernel
theorem dX5_init_18 : decode cX5_init 18 = .ok (.aload_n 0, 1) := by decide +kernel
theorem dX5_init_19 : decode cX5_init 19 = .ok (.sipush 240, 3) := by decide +kernel
theorem dX5_init_22 : decode cX5_init 22 = .ok (.newarray .int, 2) := by decide +kernel
theorem dX5_init_24 : decode cX5_init 24 = .ok (.putfield 16, 3) := by decide +kernel
theorem dX5_init_27 : decode cX5_init 27 = .ok (.aload_n 0, 1) := by decide +kernel
theorem dX5_init_28 : decode cX5_init 28 = .ok (.bipush 60, 2) := by decide +kernel
theorem dX5_init_30 : decode cX5_init 30 = .ok (.newarray .int, 2) := by decide +kernel
theorem dX5_init_32 : decode cX5_init 32 = .ok (.putfield 19, 3) := by decide +kernel
theorem dX5_init_35 : decode cX5_init 35 = .ok (.aload_n 0, 1) := by decide +kernel
theorem dX5_init_36 : decode cX5_init 36 = .ok (.bipush 95, 2) := by decide +kernel
theorem dX5_init_38 : decode cX5_init 38 = .ok (.newarray .int, 2) := by decide +kernel
theorem dX5_init_40 : decode cX5_init 40 = .ok (.putfield 22, 3) := by decide +kernel
theorem dX5_init_43 : decode cX5_init 43 = .ok (.aload_n 0, 1) := by decide +kernel
theorem dX5_init_44 : decode cX5_init 44 = .ok (.bipush 80, 2) := by decide +kernel
theorem dX5_init_46 : decode cX5_init 46 = .ok (.newarray .int, 2) := by decide +kernel
theorem dX5_init_48 : decode cX5_init 48 = .ok (.putfield 25, 3) := by decide +kernel
theorem dX5_init_51 : decode cX5_init 51 = .ok (.aload_n 0, 1) := by decide +kernel
theorem dX5_init_52 : decode cX5_init 52 = .ok (.bipush 8, 2) := by decide +kernel
theorem dX5_init_54 : decode cX5_init 54 = .ok (.newarray .int, 2) := by decide +kernel
theorem dX5_init_56 : decode cX5_init 56 = .ok (.putfield 28, 3) := by decide +kernel
theorem dX5_init_59 : decode cX5_init 59 = .ok (.aload_n 0, 1) := by decide +kernel
theorem dX5_init_60 : decode cX5_init 60 = .ok (.bipush 6, 2) := by decide +kernel
theorem dX5_init_62 : decode cX5_init 62 = .ok (.newarray .int, 2) := by decide +kernel
theorem dX5_init_64 : decode cX5_init 64 = .ok (.putfield 31, 3) := by decide +kernel
theorem dX5_init_67 : decode cX5_init 67 = .ok (.aload_n 0, 1) := by decide +kernel
theorem dX5_init_68 : decode cX5_init 68 = .ok (.iconst 5, 1) := by decide +kernel
theorem dX5_init_69 : decode cX5_init 69 = .ok (.newarray .int, 2) := by decide +kernel
theorem dX5_init_71 : decode cX5_init 71 = .ok (.putfield 34, 3) := by decide +kernel
theorem dX5_init_74 : decode cX5_init 74 = .ok (.aload_n 0, 1) := by decide +kernel
theorem dX5_init_75 : decode cX5_init 75 = .ok (.bipush 36, 2) := by decide +kernel
theorem dX5_init_77 : decode cX5_init 77 = .ok (.newarray .int, 2) := by decide +kernel
theorem dX5_init_79 : decode cX5_init 79 = .ok (.putfield 37, 3) := by decide +kernel
theorem dX5_init_82 : decode cX5_init 82 = .ok (.aload_n 0, 1) := by decide +kernel
theorem dX5_init_83 : decode cX5_init 83 = .ok (.bipush 36, 2) := by decide +kernel
theorem dX5_init_85 : decode cX5_init 85 = .ok (.newarray .boolean, 2) := by decide +kernel
theorem dX5_init_87 : decode cX5_init 87 = .ok (.putfield 40, 3) := by decide +kernel
theorem dX5_init_90 : decode cX5_init 90 = .ok (.aload_n 0, 1) := by decide +kernel
theorem dX5_init_91 : decode cX5_init 91 = .ok (.bipush 10, 2) := by decide +kernel
theorem dX5_init_93 : decode cX5_init 93 = .ok (.newarray .int, 2) := by decide +kernel
theorem dX5_init_95 : decode cX5_init 95 = .ok (.putfield 44, 3) := by decide +kernel
theorem dX5_init_98 : decode cX5_init 98 = .ok (.aload_n 0, 1) := by decide +kernel
theorem dX5_init_99 : decode cX5_init 99 = .ok (.bipush 6, 2) := by decide +kernel
theorem dX5_init_101 : decode cX5_init 101 = .ok (.newarray .int, 2) := by decide +kernel
theorem dX5_init_103 : decode cX5_init 103 = .ok (.putfield 47, 3) := by decide +kernel
theorem dX5_init_106 : decode cX5_init 106 = .ok (.iconst 0, 1) := by decide +kernel
theorem dX5_init_107 : decode cX5_init 107 = .ok (.istore_n 1, 1) := by decide +kernel
theorem dX5_init_108 : decode cX5_init 108 = .ok (.iload_n 1, 1) := by decide +kernel
theorem dX5_init_109 : decode cX5_init 109 = .ok (.iconst 4, 1) := by decide +kernel
theorem dX5_init_110 : decode cX5_init 110 = .ok (.if_icmp .ge 16, 3) := by decide +kernel
theorem dX5_init_113 : decode cX5_init 113 = .ok (.aload_n 0, 1) := by decide +kernel
theorem dX5_init_114 : decode cX5_init 114 = .ok (.getfield 7, 3) := by decide +kernel
theorem dX5_init_117 : decode cX5_init 117 = .ok (.iload_n 1, 1) := by decide +kernel
theorem dX5_init_118 : decode cX5_init 118 = .ok (.iconst (-1), 1) := by decide +kernel
theorem dX5_init_119 : decode cX5_init 119 = .ok (.iastore, 1) := by decide +kernel
theorem dX5_init_120 : decode cX5_init 120 = .ok (.iinc 1 1, 3) := by decide +kernel
theorem dX5_init_123 : decode cX5_init 123 = .ok (.goto (-15), 3) := by decide +kernel
theorem dX5_init_126 : decode cX5_init 126 = .ok (.aload_n 0, 1) := by decide +kernel
theorem dX5_init_127 : decode cX5_init 127 = .ok (.iconst 4, 1) := by decide +kernel
theorem dX5_init_128 : decode cX5_init 128 = .ok (.putfield 50, 3) := by decide +kernel
theorem dX5_init_131 : decode cX5_init 131 = .ok (.return_, 1) := by decide +kernel
theorem dX5_in_0 : decode cX5_in 0 = .ok (.lload_n 0, 1) := by decide +kernel
theorem dX5_in_1 : decode cX5_in 1 = .ok (.lload_n 2, 1) := by decide +kernel
theorem dX5_in_2 : decode cX5_in 2 = .ok (.lcmp, 1) := by decide +kernel
theorem dX5_in_3 : decode cX5_in 3 = .ok (.ifCond .lt 14, 3) := by decide +kernel
theorem dX5_in_6 : decode cX5_in 6 = .ok (.lload_n 0, 1) := by decide +kernel
theorem dX5_in_7 : decode cX5_in 7 = .ok (.lload 4, 2) := by decide +kernel
theorem dX5_in_9 : decode cX5_in 9 = .ok (.lcmp, 1) := by decide +kernel
theorem dX5_in_10 : decode cX5_in 10 = .ok (.ifCond .gt 7, 3) := by decide +kernel
theorem dX5_in_13 : decode cX5_in 13 = .ok (.iconst 1, 1) := by decide +kernel
theorem dX5_in_14 : decode cX5_in 14 = .ok (.goto 4, 3) := by decide +kernel
theorem dX5_in_17 : decode cX5_in 17 = .ok (.iconst 0, 1) := by decide +kernel
theorem dX5_in_18 : decode cX5_in 18 = .ok (.ireturn, 1) := by decide +kernel
theorem dX5_isTwo_0 : decode cX5_isTwo 0 = .ok (.iload_n 0, 1) := by decide +kernel
theorem dX5_isTwo_1 : decode cX5_isTwo 1 = .ok (.i2l, 1) := by decide +kernel
theorem dX5_isTwo_2 : decode cX5_isTwo 2 = .ok (.lconst 0, 1) := by decide +kernel
theorem dX5_isTwo_3 : decode cX5_isTwo 3 = .ok (.lconst 1, 1) := by decide +kernel
theorem dX5_isTwo_4 : decode cX5_isTwo 4 = .ok (.invokestatic 54, 3) := by decide +kernel
theorem dX5_isTwo_7 : decode cX5_isTwo 7 = .ok (.ireturn, 1) := by decide +kernel
theorem dX5_isIn_0 : decode cX5_isIn 0 = .ok (.iload_n 0, 1) := by decide +kernel
theorem dX5_isIn_1 : decode cX5_isIn 1 = .ok (.iload_n 1, 1) := by decide +kernel
theorem dX5_isIn_2 : decode cX5_isIn 2 = .ok (.ishr, 1) := by decide +kernel
theorem dX5_isIn_3 : decode cX5_isIn 3 = .ok (.iconst 1, 1) := by decide +kernel
theorem dX5_isIn_4 : decode cX5_isIn 4 = .ok (.iand, 1) := by decide +kernel
theorem dX5_isIn_5 : decode cX5_isIn 5 = .ok (.iconst 1, 1) := by decide +kernel
theorem dX5_isIn_6 : decode cX5_isIn 6 = .ok (.if_icmp .ne 7, 3) := by decide +kernel
theorem dX5_isIn_9 : decode cX5_isIn 9 = .ok (.iconst 1, 1) := by decide +kernel
theorem dX5_isIn_10 : decode cX5_isIn 10 = .ok (.goto 4, 3) := by decide +kernel
theorem dX5_isIn_13 : decode cX5_isIn 13 = .ok (.iconst 0, 1) := by decide +kernel
theorem dX5_isIn_14 : decode cX5_isIn 14 = .ok (.ireturn, 1) := by decide +kernel
theorem dX5_lesser_0 : decode cX5_lesser 0 = .ok (.iload_n 0, 1) := by decide +kernel
theorem dX5_lesser_1 : decode cX5_lesser 1 = .ok (.iload_n 1, 1) := by decide +kernel
theorem dX5_lesser_2 : decode cX5_lesser 2 = .ok (.if_icmp .ge 7, 3) := by decide +kernel
theorem dX5_lesser_5 : decode cX5_lesser 5 = .ok (.iload_n 0, 1) := by decide +kernel
theorem dX5_lesser_6 : decode cX5_lesser 6 = .ok (.goto 4, 3) := by decide +kernel
theorem dX5_lesser_9 : decode cX5_lesser 9 = .ok (.iload_n 1, 1) := by decide +kernel
theorem dX5_lesser_10 : decode cX5_lesser 10 = .ok (.ireturn, 1) := by decide +kernel
theorem dX5_within_0 : decode cX5_within 0 = .ok (.iload_n 0, 1) := by decide +kernel
theorem dX5_within_1 : decode cX5_within 1 = .ok (.ifCond .ge 7, 3) := by decide +kernel
theorem dX5_within_4 : decode cX5_within 4 = .ok (.iconst 0, 1) := by decide +kernel
theorem dX5_within_5 : decode cX5_within 5 = .ok (.goto 9, 3) := by decide +kernel
theorem dX5_within_8 : decode cX5_within 8 = .ok (.iload_n 0, 1) := by decide +kernel
theorem dX5_within_9 : decode cX5_within 9 = .ok (.bipush 9, 2) := by decide +kernel
theorem dX5_within_11 : decode cX5_within 11 = .ok (.invokestatic 58, 3) := by decide +kernel
theorem dX5_within_14 : decode cX5_within 14 = .ok (.ireturn, 1) := by decide +kernel
theorem dX5_common_0 : decode cX5_common 0 = .ok (.iload_n 0, 1) := by decide +kernel
theorem dX5_common_1 : decode cX5_common 1 = .ok (.istore_n 2, 1) := by decide +kernel
theorem dX5_common_2 : decode cX5_common 2 = .ok (.iload_n 1, 1) := by decide +kernel
theorem dX5_common_3 : decode cX5_common 3 = .ok (.istore_n 3, 1) := by decide +kernel
theorem dX5_common_4 : decode cX5_common 4 = .ok (.iload_n 3, 1) := by decide +kernel
theorem dX5_common_5 : decode cX5_common 5 = .ok (.ifCond .eq 16, 3) := by decide +kernel
theorem dX5_common_8 : decode cX5_common 8 = .ok (.iload_n 2, 1) := by decide +kernel
theorem dX5_common_9 : decode cX5_common 9 = .ok (.iload_n 3, 1) := by decide +kernel
theorem dX5_common_10 : decode cX5_common 10 = .ok (.irem, 1) := by decide +kernel
theorem dX5_common_11 : decode cX5_common 11 = .ok (.istore 4, 2) := by decide +kernel
theorem dX5_common_13 : decode cX5_common 13 = .ok (.iload_n 3, 1) := by decide +kernel
theorem dX5_common_14 : decode cX5_common 14 = .ok (.istore_n 2, 1) := by decide +kernel
theorem dX5_common_15 : decode cX5_common 15 = .ok (.iload 4, 2) := by decide +kernel
theorem dX5_common_17 : decode cX5_common 17 = .ok (.istore_n 3, 1) := by decide +kernel
theorem dX5_common_18 : decode cX5_common 18 = .ok (.goto (-14), 3) := by decide +kernel
theorem dX5_common_21 : decode cX5_common 21 = .ok (.iload_n 2, 1) := by decide +kernel
theorem dX5_common_22 : decode cX5_common 22 = .ok (.ireturn, 1) := by decide +kernel
theorem dX5_met_0 : decode cX5_met 0 = .ok (.aload_n 0, 1) := by decide +kernel
theorem dX5_met_1 : decode cX5_met 1 = .ok (.iload_n 1, 1) := by decide +kernel
theorem dX5_met_2 : decode cX5_met 2 = .ok (.putfield 62, 3) := by decide +kernel
theorem dX5_met_5 : decode cX5_met 5 = .ok (.bipush (-10), 2) := by decide +kernel
theorem dX5_met_7 : decode cX5_met 7 = .ok (.iload_n 1, 1) := by decide +kernel
theorem dX5_met_8 : decode cX5_met 8 = .ok (.isub, 1) := by decide +kernel
theorem dX5_met_9 : decode cX5_met 9 = .ok (.ireturn, 1) := by decide +kernel
theorem dX5_isSheet_0 : decode cX5_isSheet 0 = .ok (.iload_n 0, 1) := by decide +kernel
theorem dX5_isSheet_1 : decode cX5_isSheet 1 = .ok (.i2l, 1) := by decide +kernel
theorem dX5_isSheet_2 : decode cX5_isSheet 2 = .ok (.lconst 0, 1) := by decide +kernel
theorem dX5_isSheet_3 : decode cX5_isSheet 3 = .ok (.ldc2_w 65, 3) := by decide +kernel
theorem dX5_isSheet_6 : decode cX5_isSheet 6 = .ok (.invokestatic 54, 3) := by decide +kernel
theorem dX5_isSheet_9 : decode cX5_isSheet 9 = .ok (.ireturn, 1) := by decide +kernel
theorem dX5_sheet_0 : decode cX5_sheet 0 = .ok (.iload_n 1, 1) := by decide +kernel
theorem dX5_sheet_1 : decode cX5_sheet 1 = .ok (.invokestatic 67, 3) := by decide +kernel
theorem dX5_sheet_4 : decode cX5_sheet 4 = .ok (.ifCond .eq 21, 3) := by decide +kernel
theorem dX5_sheet_7 : decode cX5_sheet 7 = .ok (.iload_n 2, 1) := by decide +kernel
theorem dX5_sheet_8 : decode cX5_sheet 8 = .ok (.i2l, 1) := by decide +kernel
theorem dX5_sheet_9 : decode cX5_sheet 9 = .ok (.lconst 0, 1) := by decide +kernel
theorem dX5_sheet_10 : decode cX5_sheet 10 = .ok (.ldc2_w 71, 3) := by decide +kernel
theorem dX5_sheet_13 : decode cX5_sheet 13 = .ok (.invokestatic 54, 3) := by decide +kernel
theorem dX5_sheet_16 : decode cX5_sheet 16 = .ok (.ifCond .eq 9, 3) := by decide +kernel
theorem dX5_sheet_19 : decode cX5_sheet 19 = .ok (.iload_n 3, 1) := by decide +kernel
theorem dX5_sheet_20 : decode cX5_sheet 20 = .ok (.bipush 60, 2) := by decide +kernel
theorem dX5_sheet_22 : decode cX5_sheet 22 = .ok (.if_icmp .le 6, 3) := by decide +kernel
theorem dX5_sheet_25 : decode cX5_sheet 25 = .ok (.bipush (-2), 2) := by decide +kernel
theorem dX5_sheet_27 : decode cX5_sheet 27 = .ok (.ireturn, 1) := by decide +kernel
theorem dX5_sheet_28 : decode cX5_sheet 28 = .ok (.iload_n 3, 1) := by decide +kernel
theorem dX5_sheet_29 : decode cX5_sheet 29 = .ok (.ifCond .ge 9, 3) := by decide +kernel
theorem dX5_sheet_32 : decode cX5_sheet 32 = .ok (.aload_n 0, 1) := by decide +kernel
theorem dX5_sheet_33 : decode cX5_sheet 33 = .ok (.iconst 5, 1) := by decide +kernel
theorem dX5_sheet_34 : decode cX5_sheet 34 = .ok (.invokevirtual 73, 3) := by decide +kernel
theorem dX5_sheet_37 : decode cX5_sheet 37 = .ok (.ireturn, 1) := by decide +kernel
theorem dX5_sheet_38 : decode cX5_sheet 38 = .ok (.aload_n 0, 1) := by decide +kernel
theorem dX5_sheet_39 : decode cX5_sheet 39 = .ok (.getfield 7, 3) := by decide +kernel
theorem dX5_sheet_42 : decode cX5_sheet 42 = .ok (.iload_n 1, 1) := by decide +kernel
theorem dX5_sheet_43 : decode cX5_sheet 43 = .ok (.iload_n 2, 1) := by decide +kernel
theorem dX5_sheet_44 : decode cX5_sheet 44 = .ok (.iastore, 1) := by decide +kernel
theorem dX5_sheet_45 : decode cX5_sheet 45 = .ok (.aload_n 0, 1) := by decide +kernel
theorem dX5_sheet_46 : decode cX5_sheet 46 = .ok (.getfield 13, 3) := by decide +kernel
theorem dX5_sheet_49 : decode cX5_sheet 49 = .ok (.iload_n 1, 1) := by decide +kernel
theorem dX5_sheet_50 : decode cX5_sheet 50 = .ok (.iload_n 3, 1) := by decide +kernel
theorem dX5_sheet_51 : decode cX5_sheet 51 = .ok (.iastore, 1) := by decide +kernel
theorem dX5_sheet_52 : decode cX5_sheet 52 = .ok (.iconst 0, 1) := by decide +kernel
theorem dX5_sheet_53 : decode cX5_sheet 53 = .ok (.istore 4, 2) := by decide +kernel
theorem dX5_sheet_55 : decode cX5_sheet 55 = .ok (.iload 4, 2) := by decide +kernel
theorem dX5_sheet_57 : decode cX5_sheet 57 = .ok (.iload_n 3, 1) := by decide +kernel
theorem dX5_sheet_58 : decode cX5_sheet 58 = .ok (.if_icmp .ge 22, 3) := by decide +kernel
theorem dX5_sheet_61 : decode cX5_sheet 61 = .ok (.aload_n 0, 1) := by decide +kernel
theorem dX5_sheet_62 : decode cX5_sheet 62 = .ok (.getfield 16, 3) := by decide +kernel
theorem dX5_sheet_65 : decode cX5_sheet 65 = .ok (.bipush 60, 2) := by decide +kernel
theorem dX5_sheet_67 : decode cX5_sheet 67 = .ok (.iload_n 1, 1) := by decide +kernel
theorem dX5_sheet_68 : decode cX5_sheet 68 = .ok (.imul, 1) := by decide +kernel
theorem dX5_sheet_69 : decode cX5_sheet 69 = .ok (.iload 4, 2) := by decide +kernel
theorem dX5_sheet_71 : decode cX5_sheet 71 = .ok (.iadd, 1) := by decide +kernel
theorem dX5_sheet_72 : decode cX5_sheet 72 = .ok (.iconst 0, 1) := by decide +kernel
theorem dX5_sheet_73 : decode cX5_sheet 73 = .ok (.iastore, 1) := by decide +kernel
theorem dX5_sheet_74 : decode cX5_sheet 74 = .ok (.iinc 4 1, 3) := by decide +kernel
theorem dX5_sheet_77 : decode cX5_sheet 77 = .ok (.goto (-22), 3) := by decide +kernel
theorem dX5_sheet_80 : decode cX5_sheet 80 = .ok (.iload_n 3, 1) := by decide +kernel
theorem dX5_sheet_81 : decode cX5_sheet 81 = .ok (.ireturn, 1) := by decide +kernel
theorem dX5_lose_0 : decode cX5_lose 0 = .ok (.iload_n 1, 1) := by decide +kernel
theorem dX5_lose_1 : decode cX5_lose 1 = .ok (.invokestatic 67, 3) := by decide +kernel
theorem dX5_lose_4 : decode cX5_lose 4 = .ok (.ifCond .ne 6, 3) := by decide +kernel
theorem dX5_lose_7 : decode cX5_lose 7 = .ok (.bipush (-2), 2) := by decide +kernel
theorem dX5_lose_9 : decode cX5_lose 9 = .ok (.ireturn, 1) := by decide +kernel
theorem dX5_lose_10 : decode cX5_lose 10 = .ok (.aload_n 0, 1) := by decide +kernel
theorem dX5_lose_11 : decode cX5_lose 11 = .ok (.getfield 7, 3) := by decide +kernel
theorem dX5_lose_14 : decode cX5_lose 14 = .ok (.iload_n 1, 1) := by decide +kernel
theorem dX5_lose_15 : decode cX5_lose 15 = .ok (.iaload, 1) := by decide +kernel
theorem dX5_lose_16 : decode cX5_lose 16 = .ok (.ifCond .ge 9, 3) := by decide +kernel
theorem dX5_lose_19 : decode cX5_lose 19 = .ok (.aload_n 0, 1) := by decide +kernel
theorem dX5_lose_20 : decode cX5_lose 20 = .ok (.iconst 1, 1) := by decide +kernel
theorem dX5_lose_21 : decode cX5_lose 21 = .ok (.invokevirtual 73, 3) := by decide +kernel
theorem dX5_lose_24 : decode cX5_lose 24 = .ok (.ireturn, 1) := by decide +kernel
theorem dX5_lose_25 : decode cX5_lose 25 = .ok (.aload_n 0, 1) := by decide +kernel
theorem dX5_lose_26 : decode cX5_lose 26 = .ok (.getfield 7, 3) := by decide +kernel
theorem dX5_lose_29 : decode cX5_lose 29 = .ok (.iload_n 1, 1) := by decide +kernel
theorem dX5_lose_30 : decode cX5_lose 30 = .ok (.iconst (-1), 1) := by decide +kernel
theorem dX5_lose_31 : decode cX5_lose 31 = .ok (.iastore, 1) := by decide +kernel
theorem dX5_lose_32 : decode cX5_lose 32 = .ok (.aload_n 0, 1) := by decide +kernel
theorem dX5_lose_33 : decode cX5_lose 33 = .ok (.getfield 13, 3) := by decide +kernel
theorem dX5_lose_36 : decode cX5_lose 36 = .ok (.iload_n 1, 1) := by decide +kernel
theorem dX5_lose_37 : decode cX5_lose 37 = .ok (.iaload, 1) := by decide +kernel
theorem dX5_lose_38 : decode cX5_lose 38 = .ok (.ireturn, 1) := by decide +kernel
theorem dX5_lacks_0 : decode cX5_lacks 0 = .ok (.aload_n 0, 1) := by decide +kernel
theorem dX5_lacks_1 : decode cX5_lacks 1 = .ok (.getfield 7, 3) := by decide +kernel
theorem dX5_lacks_4 : decode cX5_lacks 4 = .ok (.iload_n 1, 1) := by decide +kernel
theorem dX5_lacks_5 : decode cX5_lacks 5 = .ok (.iaload, 1) := by decide +kernel
theorem dX5_lacks_6 : decode cX5_lacks 6 = .ok (.ifCond .ge 9, 3) := by decide +kernel
theorem dX5_lacks_9 : decode cX5_lacks 9 = .ok (.aload_n 0, 1) := by decide +kernel
theorem dX5_lacks_10 : decode cX5_lacks 10 = .ok (.iconst 1, 1) := by decide +kernel
theorem dX5_lacks_11 : decode cX5_lacks 11 = .ok (.invokevirtual 73, 3) := by decide +kernel
theorem dX5_lacks_14 : decode cX5_lacks 14 = .ok (.ireturn, 1) := by decide +kernel
theorem dX5_lacks_15 : decode cX5_lacks 15 = .ok (.aload_n 0, 1) := by decide +kernel
theorem dX5_lacks_16 : decode cX5_lacks 16 = .ok (.getfield 7, 3) := by decide +kernel
theorem dX5_lacks_19 : decode cX5_lacks 19 = .ok (.iload_n 1, 1) := by decide +kernel
theorem dX5_lacks_20 : decode cX5_lacks 20 = .ok (.iaload, 1) := by decide +kernel
theorem dX5_lacks_21 : decode cX5_lacks 21 = .ok (.iload_n 2, 1) := by decide +kernel
theorem dX5_lacks_22 : decode cX5_lacks 22 = .ok (.if_icmp .eq 9, 3) := by decide +kernel
theorem dX5_lacks_25 : decode cX5_lacks 25 = .ok (.aload_n 0, 1) := by decide +kernel
theorem dX5_lacks_26 : decode cX5_lacks 26 = .ok (.iconst 3, 1) := by decide +kernel
theorem dX5_lacks_27 : decode cX5_lacks 27 = .ok (.invokevirtual 73, 3) := by decide +kernel
theorem dX5_lacks_30 : decode cX5_lacks 30 = .ok (.ireturn, 1) := by decide +kernel
theorem dX5_lacks_31 : decode cX5_lacks 31 = .ok (.iload_n 3, 1) := by decide +kernel
theorem dX5_lacks_32 : decode cX5_lacks 32 = .ok (.i2l, 1) := by decide +kernel
theorem dX5_lacks_33 : decode cX5_lacks 33 = .ok (.lconst 0, 1) := by decide +kernel
theorem dX5_lacks_34 : decode cX5_lacks 34 = .ok (.aload_n 0, 1) := by decide +kernel
theorem dX5_lacks_35 : decode cX5_lacks 35 = .ok (.getfield 13, 3) := by decide +kernel
theorem dX5_lacks_38 : decode cX5_lacks 38 = .ok (.iload_n 1, 1) := by decide +kernel
theorem dX5_lacks_39 : decode cX5_lacks 39 = .ok (.iaload, 1) := by decide +kernel
theorem dX5_lacks_40 : decode cX5_lacks 40 = .ok (.iconst 1, 1) := by decide +kernel
theorem dX5_lacks_41 : decode cX5_lacks 41 = .ok (.isub, 1) := by decide +kernel
theorem dX5_lacks_42 : decode cX5_lacks 42 = .ok (.i2l, 1) := by decide +kernel
theorem dX5_lacks_43 : decode cX5_lacks 43 = .ok (.invokestatic 54, 3) := by decide +kernel
theorem dX5_lacks_46 : decode cX5_lacks 46 = .ok (.ifCond .eq 7, 3) := by decide +kernel
theorem dX5_lacks_49 : decode cX5_lacks 49 = .ok (.iconst 0, 1) := by decide +kernel
theorem dX5_lacks_50 : decode cX5_lacks 50 = .ok (.goto 8, 3) := by decide +kernel
theorem dX5_lacks_53 : decode cX5_lacks 53 = .ok (.aload_n 0, 1) := by decide +kernel
theorem dX5_lacks_54 : decode cX5_lacks 54 = .ok (.iconst 2, 1) := by decide +kernel
theorem dX5_lacks_55 : decode cX5_lacks 55 = .ok (.invokevirtual 73, 3) := by decide +kernel
theorem dX5_lacks_58 : decode cX5_lacks 58 = .ok (.ireturn, 1) := by decide +kernel
theorem dX5_cut_0 : decode cX5_cut 0 = .ok (.iload_n 0, 1) := by decide +kernel
theorem dX5_cut_1 : decode cX5_cut 1 = .ok (.ifCond .ne 8, 3) := by decide +kernel
theorem dX5_cut_4 : decode cX5_cut 4 = .ok (.iload_n 1, 1) := by decide +kernel
theorem dX5_cut_5 : decode cX5_cut 5 = .ok (.i2b, 1) := by decide +kernel
theorem dX5_cut_6 : decode cX5_cut 6 = .ok (.goto 14, 3) := by decide +kernel
theorem dX5_cut_9 : decode cX5_cut 9 = .ok (.iload_n 0, 1) := by decide +kernel
theorem dX5_cut_10 : decode cX5_cut 10 = .ok (.iconst 1, 1) := by decide +kernel
theorem dX5_cut_11 : decode cX5_cut 11 = .ok (.if_icmp .ne 8, 3) := by decide +kernel
theorem dX5_cut_14 : decode cX5_cut 14 = .ok (.iload_n 1, 1) := by decide +kernel
theorem dX5_cut_15 : decode cX5_cut 15 = .ok (.i2s, 1) := by decide +kernel
theorem dX5_cut_16 : decode cX5_cut 16 = .ok (.goto 4, 3) := by decide +kernel
theorem dX5_cut_19 : decode cX5_cut 19 = .ok (.iload_n 1, 1) := by decide +kernel
theorem dX5_cut_20 : decode cX5_cut 20 = .ok (.ireturn, 1) := by decide +kernel
theorem dX5_lay_0 : decode cX5_lay 0 = .ok (.iload_n 1, 1) := by decide +kernel
theorem dX5_lay_1 : decode cX5_lay 1 = .ok (.invokestatic 67, 3) := by decide +kernel
theorem dX5_lay_4 : decode cX5_lay 4 = .ok (.ifCond .eq 15, 3) := by decide +kernel
theorem dX5_lay_7 : decode cX5_lay 7 = .ok (.iload_n 2, 1) := by decide +kernel
theorem dX5_lay_8 : decode cX5_lay 8 = .ok (.i2l, 1) := by decide +kernel
theorem dX5_lay_9 : decode cX5_lay 9 = .ok (.lconst 0, 1) := by decide +kernel
theorem dX5_lay_10 : decode cX5_lay 10 = .ok (.ldc2_w 71, 3) := by decide +kernel
theorem dX5_lay_13 : decode cX5_lay 13 = .ok (.invokestatic 54, 3) := by decide +kernel
theorem dX5_lay_16 : decode cX5_lay 16 = .ok (.ifCond .ne 6, 3) := by decide +kernel
theorem dX5_lay_19 : decode cX5_lay 19 = .ok (.bipush (-2), 2) := by decide +kernel
theorem dX5_lay_21 : decode cX5_lay 21 = .ok (.ireturn, 1) := by decide +kernel
theorem dX5_lay_22 : decode cX5_lay 22 = .ok (.aload_n 0, 1) := by decide +kernel
theorem dX5_lay_23 : decode cX5_lay 23 = .ok (.iload_n 1, 1) := by decide +kernel
theorem dX5_lay_24 : decode cX5_lay 24 = .ok (.iload_n 2, 1) := by decide +kernel
theorem dX5_lay_25 : decode cX5_lay 25 = .ok (.iload_n 3, 1) := by decide +kernel
theorem dX5_lay_26 : decode cX5_lay 26 = .ok (.invokevirtual 77, 3) := by decide +kernel
theorem dX5_lay_29 : decode cX5_lay 29 = .ok (.istore 5, 2) := by decide +kernel
theorem dX5_lay_31 : decode cX5_lay 31 = .ok (.iload 5, 2) := by decide +kernel
theorem dX5_lay_33 : decode cX5_lay 33 = .ok (.ifCond .eq 6, 3) := by decide +kernel
theorem dX5_lay_36 : decode cX5_lay 36 = .ok (.iload 5, 2) := by decide +kernel
theorem dX5_lay_38 : decode cX5_lay 38 = .ok (.ireturn, 1) := by decide +kernel
theorem dX5_lay_39 : decode cX5_lay 39 = .ok (.aload_n 0, 1) := by decide +kernel
theorem dX5_lay_40 : decode cX5_lay 40 = .ok (.getfield 16, 3) := by decide +kernel
theorem dX5_lay_43 : decode cX5_lay 43 = .ok (.bipush 60, 2) := by decide +kernel
theorem dX5_lay_45 : decode cX5_lay 45 = .ok (.iload_n 1, 1) := by decide +kernel
theorem dX5_lay_46 : decode cX5_lay 46 = .ok (.imul, 1) := by decide +kernel
theorem dX5_lay_47 : decode cX5_lay 47 = .ok (.iload_n 3, 1) := by decide +kernel
theorem dX5_lay_48 : decode cX5_lay 48 = .ok (.iadd, 1) := by decide +kernel
theorem dX5_lay_49 : decode cX5_lay 49 = .ok (.iload_n 2, 1) := by decide +kernel
theorem dX5_lay_50 : decode cX5_lay 50 = .ok (.iload 4, 2) := by decide +kernel
theorem dX5_lay_52 : decode cX5_lay 52 = .ok (.invokestatic 81, 3) := by decide +kernel
theorem dX5_lay_55 : decode cX5_lay 55 = .ok (.iastore, 1) := by decide +kernel
theorem dX5_lay_56 : decode cX5_lay 56 = .ok (.iconst 1, 1) := by decide +kernel
theorem dX5_lay_57 : decode cX5_lay 57 = .ok (.ireturn, 1) := by decide +kernel
theorem dX5_get_0 : decode cX5_get 0 = .ok (.iload_n 1, 1) := by decide +kernel
theorem dX5_get_1 : decode cX5_get 1 = .ok (.invokestatic 67, 3) := by decide +kernel
theorem dX5_get_4 : decode cX5_get 4 = .ok (.ifCond .eq 25, 3) := by decide +kernel
theorem dX5_get_7 : decode cX5_get 7 = .ok (.iload_n 2, 1) := by decide +kernel
theorem dX5_get_8 : decode cX5_get 8 = .ok (.i2l, 1) := by decide +kernel
theorem dX5_get_9 : decode cX5_get 9 = .ok (.lconst 0, 1) := by decide +kernel
theorem dX5_get_10 : decode cX5_get 10 = .ok (.ldc2_w 71, 3) := by decide +kernel
theorem dX5_get_13 : decode cX5_get 13 = .ok (.invokestatic 54, 3) := by decide +kernel
theorem dX5_get_16 : decode cX5_get 16 = .ok (.ifCond .eq 13, 3) := by decide +kernel
theorem dX5_get_19 : decode cX5_get 19 = .ok (.aload_n 0, 1) := by decide +kernel
theorem dX5_get_20 : decode cX5_get 20 = .ok (.iload_n 1, 1) := by decide +kernel
theorem dX5_get_21 : decode cX5_get 21 = .ok (.iload_n 2, 1) := by decide +kernel
theorem dX5_get_22 : decode cX5_get 22 = .ok (.iload_n 3, 1) := by decide +kernel
theorem dX5_get_23 : decode cX5_get 23 = .ok (.invokevirtual 77, 3) := by decide +kernel
theorem dX5_get_26 : decode cX5_get 26 = .ok (.ifCond .eq 6, 3) := by decide +kernel
theorem dX5_get_29 : decode cX5_get 29 = .ok (.ldc 84, 2) := by decide +kernel
theorem dX5_get_31 : decode cX5_get 31 = .ok (.ireturn, 1) := by decide +kernel
theorem dX5_get_32 : decode cX5_get 32 = .ok (.aload_n 0, 1) := by decide +kernel
theorem dX5_get_33 : decode cX5_get 33 = .ok (.getfield 16, 3) := by decide +kernel
theorem dX5_get_36 : decode cX5_get 36 = .ok (.bipush 60, 2) := by decide +kernel
theorem dX5_get_38 : decode cX5_get 38 = .ok (.iload_n 1, 1) := by decide +kernel
theorem dX5_get_39 : decode cX5_get 39 = .ok (.imul, 1) := by decide +kernel
theorem dX5_get_40 : decode cX5_get 40 = .ok (.iload_n 3, 1) := by decide +kernel
theorem dX5_get_41 : decode cX5_get 41 = .ok (.iadd, 1) := by decide +kernel
theorem dX5_get_42 : decode cX5_get 42 = .ok (.iaload, 1) := by decide +kernel
theorem dX5_get_43 : decode cX5_get 43 = .ok (.ireturn, 1) := by decide +kernel
theorem dX5_copy_0 : decode cX5_copy 0 = .ok (.iload_n 1, 1) := by decide +kernel
theorem dX5_copy_1 : decode cX5_copy 1 = .ok (.invokestatic 67, 3) := by decide +kernel
theorem dX5_copy_4 : decode cX5_copy 4 = .ok (.ifCond .eq 10, 3) := by decide +kernel
theorem dX5_copy_7 : decode cX5_copy 7 = .ok (.iload_n 3, 1) := by decide +kernel
theorem dX5_copy_8 : decode cX5_copy 8 = .ok (.invokestatic 67, 3) := by decide +kernel
theorem dX5_copy_11 : decode cX5_copy 11 = .ok (.ifCond .ne 6, 3) := by decide +kernel
theorem dX5_copy_14 : decode cX5_copy 14 = .ok (.bipush (-2), 2) := by decide +kernel
theorem dX5_copy_16 : decode cX5_copy 16 = .ok (.ireturn, 1) := by decide +kernel
theorem dX5_copy_17 : decode cX5_copy 17 = .ok (.aload_n 0, 1) := by decide +kernel
theorem dX5_copy_18 : decode cX5_copy 18 = .ok (.getfield 7, 3) := by decide +kernel
theorem dX5_copy_21 : decode cX5_copy 21 = .ok (.iload_n 1, 1) := by decide +kernel
theorem dX5_copy_22 : decode cX5_copy 22 = .ok (.iaload, 1) := by decide +kernel
theorem dX5_copy_23 : decode cX5_copy 23 = .ok (.ifCond .lt 12, 3) := by decide +kernel
theorem dX5_copy_26 : decode cX5_copy 26 = .ok (.aload_n 0, 1) := by decide +kernel
theorem dX5_copy_27 : decode cX5_copy 27 = .ok (.getfield 7, 3) := by decide +kernel
theorem dX5_copy_30 : decode cX5_copy 30 = .ok (.iload_n 3, 1) := by decide +kernel
theorem dX5_copy_31 : decode cX5_copy 31 = .ok (.iaload, 1) := by decide +kernel
theorem dX5_copy_32 : decode cX5_copy 32 = .ok (.ifCond .ge 9, 3) := by decide +kernel
theorem dX5_copy_35 : decode cX5_copy 35 = .ok (.aload_n 0, 1) := by decide +kernel
theorem dX5_copy_36 : decode cX5_copy 36 = .ok (.iconst 1, 1) := by decide +kernel
theorem dX5_copy_37 : decode cX5_copy 37 = .ok (.invokevirtual 73, 3) := by decide +kernel
theorem dX5_copy_40 : decode cX5_copy 40 = .ok (.ireturn, 1) := by decide +kernel
theorem dX5_copy_41 : decode cX5_copy 41 = .ok (.aload_n 0, 1) := by decide +kernel
theorem dX5_copy_42 : decode cX5_copy 42 = .ok (.getfield 7, 3) := by decide +kernel
theorem dX5_copy_45 : decode cX5_copy 45 = .ok (.iload_n 1, 1) := by decide +kernel
theorem dX5_copy_46 : decode cX5_copy 46 = .ok (.iaload, 1) := by decide +kernel
theorem dX5_copy_47 : decode cX5_copy 47 = .ok (.aload_n 0, 1) := by decide +kernel
theorem dX5_copy_48 : decode cX5_copy 48 = .ok (.getfield 7, 3) := by decide +kernel
theorem dX5_copy_51 : decode cX5_copy 51 = .ok (.iload_n 3, 1) := by decide +kernel
theorem dX5_copy_52 : decode cX5_copy 52 = .ok (.iaload, 1) := by decide +kernel
theorem dX5_copy_53 : decode cX5_copy 53 = .ok (.if_icmp .eq 9, 3) := by decide +kernel
theorem dX5_copy_56 : decode cX5_copy 56 = .ok (.aload_n 0, 1) := by decide +kernel
theorem dX5_copy_57 : decode cX5_copy 57 = .ok (.iconst 4, 1) := by decide +kernel
theorem dX5_copy_58 : decode cX5_copy 58 = .ok (.invokevirtual 73, 3) := by decide +kernel
theorem dX5_copy_61 : decode cX5_copy 61 = .ok (.ireturn, 1) := by decide +kernel
theorem dX5_copy_62 : decode cX5_copy 62 = .ok (.iload_n 2, 1) := by decide +kernel
theorem dX5_copy_63 : decode cX5_copy 63 = .ok (.ifCond .lt 48, 3) := by decide +kernel
theorem dX5_copy_66 : decode cX5_copy 66 = .ok (.iload 4, 2) := by decide +kernel
theorem dX5_copy_68 : decode cX5_copy 68 = .ok (.ifCond .lt 43, 3) := by decide +kernel
theorem dX5_copy_71 : decode cX5_copy 71 = .ok (.iload 5, 2) := by decide +kernel
theorem dX5_copy_73 : decode cX5_copy 73 = .ok (.ifCond .lt 38, 3) := by decide +kernel
theorem dX5_copy_76 : decode cX5_copy 76 = .ok (.iload_n 2, 1) := by decide +kernel
theorem dX5_copy_77 : decode cX5_copy 77 = .ok (.i2l, 1) := by decide +kernel
theorem dX5_copy_78 : decode cX5_copy 78 = .ok (.iload 5, 2) := by decide +kernel
theorem dX5_copy_80 : decode cX5_copy 80 = .ok (.i2l, 1) := by decide +kernel
theorem dX5_copy_81 : decode cX5_copy 81 = .ok (.ladd, 1) := by decide +kernel
theorem dX5_copy_82 : decode cX5_copy 82 = .ok (.aload_n 0, 1) := by decide +kernel
theorem dX5_copy_83 : decode cX5_copy 83 = .ok (.getfield 13, 3) := by decide +kernel
theorem dX5_copy_86 : decode cX5_copy 86 = .ok (.iload_n 1, 1) := by decide +kernel
theorem dX5_copy_87 : decode cX5_copy 87 = .ok (.iaload, 1) := by decide +kernel
theorem dX5_copy_88 : decode cX5_copy 88 = .ok (.i2l, 1) := by decide +kernel
theorem dX5_copy_89 : decode cX5_copy 89 = .ok (.lcmp, 1) := by decide +kernel
theorem dX5_copy_90 : decode cX5_copy 90 = .ok (.ifCond .gt 21, 3) := by decide +kernel
theorem dX5_copy_93 : decode cX5_copy 93 = .ok (.iload 4, 2) := by decide +kernel
theorem dX5_copy_95 : decode cX5_copy 95 = .ok (.i2l, 1) := by decide +kernel
theorem dX5_copy_96 : decode cX5_copy 96 = .ok (.iload 5, 2) := by decide +kernel
theorem dX5_copy_98 : decode cX5_copy 98 = .ok (.i2l, 1) := by decide +kernel
theorem dX5_copy_99 : decode cX5_copy 99 = .ok (.ladd, 1) := by decide +kernel
theorem dX5_copy_100 : decode cX5_copy 100 = .ok (.aload_n 0, 1) := by decide +kernel
theorem dX5_copy_101 : decode cX5_copy 101 = .ok (.getfield 13, 3) := by decide +kernel
theorem dX5_copy_104 : decode cX5_copy 104 = .ok (.iload_n 3, 1) := by decide +kernel
theorem dX5_copy_105 : decode cX5_copy 105 = .ok (.iaload, 1) := by decide +kernel
theorem dX5_copy_106 : decode cX5_copy 106 = .ok (.i2l, 1) := by decide +kernel
theorem dX5_copy_107 : decode cX5_copy 107 = .ok (.lcmp, 1) := by decide +kernel
theorem dX5_copy_108 : decode cX5_copy 108 = .ok (.ifCond .le 9, 3) := by decide +kernel
theorem dX5_copy_111 : decode cX5_copy 111 = .ok (.aload_n 0, 1) := by decide +kernel
theorem dX5_copy_112 : decode cX5_copy 112 = .ok (.iconst 2, 1) := by decide +kernel
theorem dX5_copy_113 : decode cX5_copy 113 = .ok (.invokevirtual 73, 3) := by decide +kernel
theorem dX5_copy_116 : decode cX5_copy 116 = .ok (.ireturn, 1) := by decide +kernel
theorem dX5_copy_117 : decode cX5_copy 117 = .ok (.iconst 0, 1) := by decide +kernel
theorem dX5_copy_118 : decode cX5_copy 118 = .ok (.istore 6, 2) := by decide +kernel
theorem dX5_copy_120 : decode cX5_copy 120 = .ok (.iload 6, 2) := by decide +kernel
theorem dX5_copy_122 : decode cX5_copy 122 = .ok (.iload 5, 2) := by decide +kernel
theorem dX5_copy_124 : decode cX5_copy 124 = .ok (.if_icmp .ge 30, 3) := by decide +kernel
theorem dX5_copy_127 : decode cX5_copy 127 = .ok (.aload_n 0, 1) := by decide +kernel
theorem dX5_copy_128 : decode cX5_copy 128 = .ok (.getfield 19, 3) := by decide +kernel
theorem dX5_copy_131 : decode cX5_copy 131 = .ok (.iload 6, 2) := by decide +kernel
theorem dX5_copy_133 : decode cX5_copy 133 = .ok (.aload_n 0, 1) := by decide +kernel
theorem dX5_copy_134 : decode cX5_copy 134 = .ok (.getfield 16, 3) := by decide +kernel
theorem dX5_copy_137 : decode cX5_copy 137 = .ok (.bipush 60, 2) := by decide +kernel
theorem dX5_copy_139 : decode cX5_copy 139 = .ok (.iload_n 1, 1) := by decide +kernel
theorem dX5_copy_140 : decode cX5_copy 140 = .ok (.imul, 1) := by decide +kernel
theorem dX5_copy_141 : decode cX5_copy 141 = .ok (.iload_n 2, 1) := by decide +kernel
theorem dX5_copy_142 : decode cX5_copy 142 = .ok (.iadd, 1) := by decide +kernel
theorem dX5_copy_143 : decode cX5_copy 143 = .ok (.iload 6, 2) := by decide +kernel
theorem dX5_copy_145 : decode cX5_copy 145 = .ok (.iadd, 1) := by decide +kernel
theorem dX5_copy_146 : decode cX5_copy 146 = .ok (.iaload, 1) := by decide +kernel
theorem dX5_copy_147 : decode cX5_copy 147 = .ok (.iastore, 1) := by decide +kernel
theorem dX5_copy_148 : decode cX5_copy 148 = .ok (.iinc 6 1, 3) := by decide +kernel
theorem dX5_copy_151 : decode cX5_copy 151 = .ok (.goto (-31), 3) := by decide +kernel
theorem dX5_copy_154 : decode cX5_copy 154 = .ok (.iconst 0, 1) := by decide +kernel
theorem dX5_copy_155 : decode cX5_copy 155 = .ok (.istore 6, 2) := by decide +kernel
theorem dX5_copy_157 : decode cX5_copy 157 = .ok (.iload 6, 2) := by decide +kernel
theorem dX5_copy_159 : decode cX5_copy 159 = .ok (.iload 5, 2) := by decide +kernel
theorem dX5_copy_161 : decode cX5_copy 161 = .ok (.if_icmp .ge 31, 3) := by decide +kernel
theorem dX5_copy_164 : decode cX5_copy 164 = .ok (.aload_n 0, 1) := by decide +kernel
theorem dX5_copy_165 : decode cX5_copy 165 = .ok (.getfield 16, 3) := by decide +kernel
theorem dX5_copy_168 : decode cX5_copy 168 = .ok (.bipush 60, 2) := by decide +kernel
theorem dX5_copy_170 : decode cX5_copy 170 = .ok (.iload_n 3, 1) := by decide +kernel
theorem dX5_copy_171 : decode cX5_copy 171 = .ok (.imul, 1) := by decide +kernel
theorem dX5_copy_172 : decode cX5_copy 172 = .ok (.iload 4, 2) := by decide +kernel
theorem dX5_copy_174 : decode cX5_copy 174 = .ok (.iadd, 1) := by decide +kernel
theorem dX5_copy_175 : decode cX5_copy 175 = .ok (.iload 6, 2) := by decide +kernel
theorem dX5_copy_177 : decode cX5_copy 177 = .ok (.iadd, 1) := by decide +kernel
theorem dX5_copy_178 : decode cX5_copy 178 = .ok (.aload_n 0, 1) := by decide +kernel
theorem dX5_copy_179 : decode cX5_copy 179 = .ok (.getfield 19, 3) := by decide +kernel
theorem dX5_copy_182 : decode cX5_copy 182 = .ok (.iload 6, 2) := by decide +kernel
theorem dX5_copy_184 : decode cX5_copy 184 = .ok (.iaload, 1) := by decide +kernel
theorem dX5_copy_185 : decode cX5_copy 185 = .ok (.iastore, 1) := by decide +kernel
theorem dX5_copy_186 : decode cX5_copy 186 = .ok (.iinc 6 1, 3) := by decide +kernel
theorem dX5_copy_189 : decode cX5_copy 189 = .ok (.goto (-32), 3) := by decide +kernel
theorem dX5_copy_192 : decode cX5_copy 192 = .ok (.iconst 1, 1) := by decide +kernel
theorem dX5_copy_193 : decode cX5_copy 193 = .ok (.ireturn, 1) := by decide +kernel
theorem dX5_type_0 : decode cX5_type 0 = .ok (.iload_n 1, 1) := by decide +kernel
theorem dX5_type_1 : decode cX5_type 1 = .ok (.i2l, 1) := by decide +kernel
theorem dX5_type_2 : decode cX5_type 2 = .ok (.lconst 0, 1) := by decide +kernel
theorem dX5_type_3 : decode cX5_type 3 = .ok (.ldc2_w 85, 3) := by decide +kernel
theorem dX5_type_6 : decode cX5_type 6 = .ok (.invokestatic 54, 3) := by decide +kernel
theorem dX5_type_9 : decode cX5_type 9 = .ok (.ifCond .ne 6, 3) := by decide +kernel
theorem dX5_type_12 : decode cX5_type 12 = .ok (.bipush (-2), 2) := by decide +kernel
theorem dX5_type_14 : decode cX5_type 14 = .ok (.ireturn, 1) := by decide +kernel
theorem dX5_type_15 : decode cX5_type 15 = .ok (.aload_n 0, 1) := by decide +kernel
theorem dX5_type_16 : decode cX5_type 16 = .ok (.getfield 87, 3) := by decide +kernel
theorem dX5_type_19 : decode cX5_type 19 = .ok (.bipush 95, 2) := by decide +kernel
theorem dX5_type_21 : decode cX5_type 21 = .ok (.if_icmp .ne 6, 3) := by decide +kernel
theorem dX5_type_24 : decode cX5_type 24 = .ok (.bipush (-4), 2) := by decide +kernel
theorem dX5_type_26 : decode cX5_type 26 = .ok (.ireturn, 1) := by decide +kernel
theorem dX5_type_27 : decode cX5_type 27 = .ok (.aload_n 0, 1) := by decide +kernel
theorem dX5_type_28 : decode cX5_type 28 = .ok (.getfield 22, 3) := by decide +kernel
theorem dX5_type_31 : decode cX5_type 31 = .ok (.aload_n 0, 1) := by decide +kernel
theorem dX5_type_32 : decode cX5_type 32 = .ok (.getfield 87, 3) := by decide +kernel
theorem dX5_type_35 : decode cX5_type 35 = .ok (.iload_n 1, 1) := by decide +kernel
theorem dX5_type_36 : decode cX5_type 36 = .ok (.iastore, 1) := by decide +kernel
theorem dX5_type_37 : decode cX5_type 37 = .ok (.aload_n 0, 1) := by decide +kernel
theorem dX5_type_38 : decode cX5_type 38 = .ok (.dup, 1) := by decide +kernel
theorem dX5_type_39 : decode cX5_type 39 = .ok (.getfield 87, 3) := by decide +kernel
theorem dX5_type_42 : decode cX5_type 42 = .ok (.iconst 1, 1) := by decide +kernel
theorem dX5_type_43 : decode cX5_type 43 = .ok (.iadd, 1) := by decide +kernel
theorem dX5_type_44 : decode cX5_type 44 = .ok (.putfield 87, 3) := by decide +kernel
theorem dX5_type_47 : decode cX5_type 47 = .ok (.aload_n 0, 1) := by decide +kernel
theorem dX5_type_48 : decode cX5_type 48 = .ok (.getfield 87, 3) := by decide +kernel
theorem dX5_type_51 : decode cX5_type 51 = .ok (.ireturn, 1) := by decide +kernel
theorem dX5_wipe_0 : decode cX5_wipe 0 = .ok (.aload_n 0, 1) := by decide +kernel
theorem dX5_wipe_1 : decode cX5_wipe 1 = .ok (.getfield 87, 3) := by decide +kernel
theorem dX5_wipe_4 : decode cX5_wipe 4 = .ok (.istore_n 1, 1) := by decide +kernel
theorem dX5_wipe_5 : decode cX5_wipe 5 = .ok (.aload_n 0, 1) := by decide +kernel
theorem dX5_wipe_6 : decode cX5_wipe 6 = .ok (.iconst 0, 1) := by decide +kernel
theorem dX5_wipe_7 : decode cX5_wipe 7 = .ok (.putfield 87, 3) := by decide +kernel
theorem dX5_wipe_10 : decode cX5_wipe 10 = .ok (.iload_n 1, 1) := by decide +kernel
theorem dX5_wipe_11 : decode cX5_wipe 11 = .ok (.ireturn, 1) := by decide +kernel
theorem dX5_shiftOf_0 : decode cX5_shiftOf 0 = .ok (.iload_n 0, 1) := by decide +kernel
theorem dX5_shiftOf_1 : decode cX5_shiftOf 1 = .ok (.bipush 119, 2) := by decide +kernel
theorem dX5_shiftOf_3 : decode cX5_shiftOf 3 = .ok (.if_icmp .ne 7, 3) := by decide +kernel
theorem dX5_shiftOf_6 : decode cX5_shiftOf 6 = .ok (.iconst 0, 1) := by decide +kernel
theorem dX5_shiftOf_7 : decode cX5_shiftOf 7 = .ok (.goto 44, 3) := by decide +kernel
theorem dX5_shiftOf_10 : decode cX5_shiftOf 10 = .ok (.iload_n 0, 1) := by decide +kernel
theorem dX5_shiftOf_11 : decode cX5_shiftOf 11 = .ok (.bipush 114, 2) := by decide +kernel
theorem dX5_shiftOf_13 : decode cX5_shiftOf 13 = .ok (.if_icmp .ne 7, 3) := by decide +kernel
theorem dX5_shiftOf_16 : decode cX5_shiftOf 16 = .ok (.iconst 1, 1) := by decide +kernel
theorem dX5_shiftOf_17 : decode cX5_shiftOf 17 = .ok (.goto 34, 3) := by decide +kernel
theorem dX5_shiftOf_20 : decode cX5_shiftOf 20 = .ok (.iload_n 0, 1) := by decide +kernel
theorem dX5_shiftOf_21 : decode cX5_shiftOf 21 = .ok (.bipush 115, 2) := by decide +kernel
theorem dX5_shiftOf_23 : decode cX5_shiftOf 23 = .ok (.if_icmp .ne 7, 3) := by decide +kernel
theorem dX5_shiftOf_26 : decode cX5_shiftOf 26 = .ok (.iconst 2, 1) := by decide +kernel
theorem dX5_shiftOf_27 : decode cX5_shiftOf 27 = .ok (.goto 24, 3) := by decide +kernel
theorem dX5_shiftOf_30 : decode cX5_shiftOf 30 = .ok (.iload_n 0, 1) := by decide +kernel
theorem dX5_shiftOf_31 : decode cX5_shiftOf 31 = .ok (.bipush 112, 2) := by decide +kernel
theorem dX5_shiftOf_33 : decode cX5_shiftOf 33 = .ok (.if_icmp .ne 7, 3) := by decide +kernel
theorem dX5_shiftOf_36 : decode cX5_shiftOf 36 = .ok (.iconst 3, 1) := by decide +kernel
theorem dX5_shiftOf_37 : decode cX5_shiftOf 37 = .ok (.goto 14, 3) := by decide +kernel
theorem dX5_shiftOf_40 : decode cX5_shiftOf 40 = .ok (.iload_n 0, 1) := by decide +kernel
theorem dX5_shiftOf_41 : decode cX5_shiftOf 41 = .ok (.bipush 106, 2) := by decide +kernel
theorem dX5_shiftOf_43 : decode cX5_shiftOf 43 = .ok (.if_icmp .ne 7, 3) := by decide +kernel
theorem dX5_shiftOf_46 : decode cX5_shiftOf 46 = .ok (.iconst 4, 1) := by decide +kernel
theorem dX5_shiftOf_47 : decode cX5_shiftOf 47 = .ok (.goto 4, 3) := by decide +kernel
theorem dX5_shiftOf_50 : decode cX5_shiftOf 50 = .ok (.iconst (-1), 1) := by decide +kernel
theorem dX5_shiftOf_51 : decode cX5_shiftOf 51 = .ok (.ireturn, 1) := by decide +kernel
theorem dX5_tellsOf_0 : decode cX5_tellsOf 0 = .ok (.iload_n 1, 1) := by decide +kernel
theorem dX5_tellsOf_1 : decode cX5_tellsOf 1 = .ok (.iconst 2, 1) := by decide +kernel
theorem dX5_tellsOf_2 : decode cX5_tellsOf 2 = .ok (.if_icmp .ge 48, 3) := by decide +kernel
theorem dX5_tellsOf_5 : decode cX5_tellsOf 5 = .ok (.iload_n 2, 1) := by decide +kernel
theorem dX5_tellsOf_6 : decode cX5_tellsOf 6 = .ok (.i2l, 1) := by decide +kernel
theorem dX5_tellsOf_7 : decode cX5_tellsOf 7 = .ok (.ldc2_w 90, 3) := by decide +kernel
theorem dX5_tellsOf_10 : decode cX5_tellsOf 10 = .ok (.ldc2_w 92, 3) := by decide +kernel
theorem dX5_tellsOf_13 : decode cX5_tellsOf 13 = .ok (.invokestatic 54, 3) := by decide +kernel
theorem dX5_tellsOf_16 : decode cX5_tellsOf 16 = .ok (.ifCond .eq 32, 3) := by decide +kernel
theorem dX5_tellsOf_19 : decode cX5_tellsOf 19 = .ok (.iload_n 1, 1) := by decide +kernel
theorem dX5_tellsOf_20 : decode cX5_tellsOf 20 = .ok (.ifCond .eq 21, 3) := by decide +kernel
theorem dX5_tellsOf_23 : decode cX5_tellsOf 23 = .ok (.iload_n 2, 1) := by decide +kernel
theorem dX5_tellsOf_24 : decode cX5_tellsOf 24 = .ok (.bipush 97, 2) := by decide +kernel
theorem dX5_tellsOf_26 : decode cX5_tellsOf 26 = .ok (.isub, 1) := by decide +kernel
theorem dX5_tellsOf_27 : decode cX5_tellsOf 27 = .ok (.aload_n 0, 1) := by decide +kernel
theorem dX5_tellsOf_28 : decode cX5_tellsOf 28 = .ok (.getfield 25, 3) := by decide +kernel
theorem dX5_tellsOf_31 : decode cX5_tellsOf 31 = .ok (.iconst 5, 1) := by decide +kernel
theorem dX5_tellsOf_32 : decode cX5_tellsOf 32 = .ok (.aload_n 0, 1) := by decide +kernel
theorem dX5_tellsOf_33 : decode cX5_tellsOf 33 = .ok (.getfield 94, 3) := by decide +kernel
theorem dX5_tellsOf_36 : decode cX5_tellsOf 36 = .ok (.imul, 1) := by decide +kernel
theorem dX5_tellsOf_37 : decode cX5_tellsOf 37 = .ok (.iaload, 1) := by decide +kernel
theorem dX5_tellsOf_38 : decode cX5_tellsOf 38 = .ok (.if_icmp .le 10, 3) := by decide +kernel
theorem dX5_tellsOf_41 : decode cX5_tellsOf 41 = .ok (.iload_n 2, 1) := by decide +kernel
theorem dX5_tellsOf_42 : decode cX5_tellsOf 42 = .ok (.bipush 97, 2) := by decide +kernel
theorem dX5_tellsOf_44 : decode cX5_tellsOf 44 = .ok (.isub, 1) := by decide +kernel
theorem dX5_tellsOf_45 : decode cX5_tellsOf 45 = .ok (.goto 4, 3) := by decide +kernel
theorem dX5_tellsOf_48 : decode cX5_tellsOf 48 = .ok (.iconst (-1), 1) := by decide +kernel
theorem dX5_tellsOf_49 : decode cX5_tellsOf 49 = .ok (.ireturn, 1) := by decide +kernel
theorem dX5_tellsOf_50 : decode cX5_tellsOf 50 = .ok (.iload_n 1, 1) := by decide +kernel
theorem dX5_tellsOf_51 : decode cX5_tellsOf 51 = .ok (.iconst 3, 1) := by decide +kernel
theorem dX5_tellsOf_52 : decode cX5_tellsOf 52 = .ok (.if_icmp .ne 10, 3) := by decide +kernel
theorem dX5_tellsOf_55 : decode cX5_tellsOf 55 = .ok (.iload_n 2, 1) := by decide +kernel
theorem dX5_tellsOf_56 : decode cX5_tellsOf 56 = .ok (.invokestatic 97, 3) := by decide +kernel
theorem dX5_tellsOf_59 : decode cX5_tellsOf 59 = .ok (.goto 36, 3) := by decide +kernel
theorem dX5_tellsOf_62 : decode cX5_tellsOf 62 = .ok (.iload_n 2, 1) := by decide +kernel
theorem dX5_tellsOf_63 : decode cX5_tellsOf 63 = .ok (.i2l, 1) := by decide +kernel
theorem dX5_tellsOf_64 : decode cX5_tellsOf 64 = .ok (.iload_n 1, 1) := by decide +kernel
theorem dX5_tellsOf_65 : decode cX5_tellsOf 65 = .ok (.iconst 2, 1) := by decide +kernel
theorem dX5_tellsOf_66 : decode cX5_tellsOf 66 = .ok (.if_icmp .ne 9, 3) := by decide +kernel
theorem dX5_tellsOf_69 : decode cX5_tellsOf 69 = .ok (.ldc2_w 100, 3) := by decide +kernel
theorem dX5_tellsOf_72 : decode cX5_tellsOf 72 = .ok (.goto 6, 3) := by decide +kernel
theorem dX5_tellsOf_75 : decode cX5_tellsOf 75 = .ok (.ldc2_w 102, 3) := by decide +kernel
theorem dX5_tellsOf_78 : decode cX5_tellsOf 78 = .ok (.ldc2_w 104, 3) := by decide +kernel
theorem dX5_tellsOf_81 : decode cX5_tellsOf 81 = .ok (.invokestatic 54, 3) := by decide +kernel
theorem dX5_tellsOf_84 : decode cX5_tellsOf 84 = .ok (.ifCond .eq 10, 3) := by decide +kernel
theorem dX5_tellsOf_87 : decode cX5_tellsOf 87 = .ok (.iload_n 2, 1) := by decide +kernel
theorem dX5_tellsOf_88 : decode cX5_tellsOf 88 = .ok (.bipush 48, 2) := by decide +kernel
theorem dX5_tellsOf_90 : decode cX5_tellsOf 90 = .ok (.isub, 1) := by decide +kernel
theorem dX5_tellsOf_91 : decode cX5_tellsOf 91 = .ok (.goto 4, 3) := by decide +kernel
theorem dX5_tellsOf_94 : decode cX5_tellsOf 94 = .ok (.iconst (-1), 1) := by decide +kernel
theorem dX5_tellsOf_95 : decode cX5_tellsOf 95 = .ok (.ireturn, 1) := by decide +kernel
theorem dX5_readsChannel_0 : decode cX5_readsChannel 0 = .ok (.aload_n 0, 1) := by decide +kernel
theorem dX5_readsChannel_1 : decode cX5_readsChannel 1 = .ok (.getfield 94, 3) := by decide +kernel
theorem dX5_readsChannel_4 : decode cX5_readsChannel 4 = .ok (.bipush 16, 2) := by decide +kernel
theorem dX5_readsChannel_6 : decode cX5_readsChannel 6 = .ok (.if_icmp .ne 5, 3) := by decide +kernel
theorem dX5_readsChannel_9 : decode cX5_readsChannel 9 = .ok (.iconst 0, 1) := by decide +kernel
theorem dX5_readsChannel_10 : decode cX5_readsChannel 10 = .ok (.ireturn, 1) := by decide +kernel
theorem dX5_readsChannel_11 : decode cX5_readsChannel 11 = .ok (.iconst 0, 1) := by decide +kernel
theorem dX5_readsChannel_12 : decode cX5_readsChannel 12 = .ok (.istore_n 1, 1) := by decide +kernel
theorem dX5_readsChannel_13 : decode cX5_readsChannel 13 = .ok (.iload_n 1, 1) := by decide +kernel
theorem dX5_readsChannel_14 : decode cX5_readsChannel 14 = .ok (.iconst 5, 1) := by decide +kernel
theorem dX5_readsChannel_15 : decode cX5_readsChannel 15 = .ok (.if_icmp .ge 70, 3) := by decide +kernel
theorem dX5_readsChannel_18 : decode cX5_readsChannel 18 = .ok (.aload_n 0, 1) := by decide +kernel
theorem dX5_readsChannel_19 : decode cX5_readsChannel 19 = .ok (.getfield 106, 3) := by decide +kernel
theorem dX5_readsChannel_22 : decode cX5_readsChannel 22 = .ok (.aload_n 0, 1) := by decide +kernel
theorem dX5_readsChannel_23 : decode cX5_readsChannel 23 = .ok (.getfield 87, 3) := by decide +kernel
theorem dX5_readsChannel_26 : decode cX5_readsChannel 26 = .ok (.if_icmp .ge 20, 3) := by decide +kernel
theorem dX5_readsChannel_29 : decode cX5_readsChannel 29 = .ok (.aload_n 0, 1) := by decide +kernel
theorem dX5_readsChannel_30 : decode cX5_readsChannel 30 = .ok (.iload_n 1, 1) := by decide +kernel
theorem dX5_readsChannel_31 : decode cX5_readsChannel 31 = .ok (.aload_n 0, 1) := by decide +kernel
theorem dX5_readsChannel_32 : decode cX5_readsChannel 32 = .ok (.getfield 22, 3) := by decide +kernel
theorem dX5_readsChannel_35 : decode cX5_readsChannel 35 = .ok (.aload_n 0, 1) := by decide +kernel
theorem dX5_readsChannel_36 : decode cX5_readsChannel 36 = .ok (.getfield 106, 3) := by decide +kernel
theorem dX5_readsChannel_39 : decode cX5_readsChannel 39 = .ok (.iaload, 1) := by decide +kernel
theorem dX5_readsChannel_40 : decode cX5_readsChannel 40 = .ok (.invokevirtual 109, 3) := by decide +kernel
theorem dX5_readsChannel_43 : decode cX5_readsChannel 43 = .ok (.goto 4, 3) := by decide +kernel
theorem dX5_readsChannel_46 : decode cX5_readsChannel 46 = .ok (.iconst (-1), 1) := by decide +kernel
theorem dX5_readsChannel_47 : decode cX5_readsChannel 47 = .ok (.istore_n 2, 1) := by decide +kernel
theorem dX5_readsChannel_48 : decode cX5_readsChannel 48 = .ok (.iload_n 2, 1) := by decide +kernel
theorem dX5_readsChannel_49 : decode cX5_readsChannel 49 = .ok (.iconst (-1), 1) := by decide +kernel
theorem dX5_readsChannel_50 : decode cX5_readsChannel 50 = .ok (.if_icmp .ne 5, 3) := by decide +kernel
theorem dX5_readsChannel_53 : decode cX5_readsChannel 53 = .ok (.iconst 0, 1) := by decide +kernel
theorem dX5_readsChannel_54 : decode cX5_readsChannel 54 = .ok (.ireturn, 1) := by decide +kernel
theorem dX5_readsChannel_55 : decode cX5_readsChannel 55 = .ok (.aload_n 0, 1) := by decide +kernel
theorem dX5_readsChannel_56 : decode cX5_readsChannel 56 = .ok (.getfield 25, 3) := by decide +kernel
theorem dX5_readsChannel_59 : decode cX5_readsChannel 59 = .ok (.iconst 5, 1) := by decide +kernel
theorem dX5_readsChannel_60 : decode cX5_readsChannel 60 = .ok (.aload_n 0, 1) := by decide +kernel
theorem dX5_readsChannel_61 : decode cX5_readsChannel 61 = .ok (.getfield 94, 3) := by decide +kernel
theorem dX5_readsChannel_64 : decode cX5_readsChannel 64 = .ok (.imul, 1) := by decide +kernel
theorem dX5_readsChannel_65 : decode cX5_readsChannel 65 = .ok (.iload_n 1, 1) := by decide +kernel
theorem dX5_readsChannel_66 : decode cX5_readsChannel 66 = .ok (.iadd, 1) := by decide +kernel
theorem dX5_readsChannel_67 : decode cX5_readsChannel 67 = .ok (.iload_n 2, 1) := by decide +kernel
theorem dX5_readsChannel_68 : decode cX5_readsChannel 68 = .ok (.iastore, 1) := by decide +kernel
theorem dX5_readsChannel_69 : decode cX5_readsChannel 69 = .ok (.aload_n 0, 1) := by decide +kernel
theorem dX5_readsChannel_70 : decode cX5_readsChannel 70 = .ok (.dup, 1) := by decide +kernel
theorem dX5_readsChannel_71 : decode cX5_readsChannel 71 = .ok (.getfield 106, 3) := by decide +kernel
theorem dX5_readsChannel_74 : decode cX5_readsChannel 74 = .ok (.iconst 1, 1) := by decide +kernel
theorem dX5_readsChannel_75 : decode cX5_readsChannel 75 = .ok (.iadd, 1) := by decide +kernel
theorem dX5_readsChannel_76 : decode cX5_readsChannel 76 = .ok (.putfield 106, 3) := by decide +kernel
theorem dX5_readsChannel_79 : decode cX5_readsChannel 79 = .ok (.iinc 1 1, 3) := by decide +kernel
theorem dX5_readsChannel_82 : decode cX5_readsChannel 82 = .ok (.goto (-69), 3) := by decide +kernel
theorem dX5_readsChannel_85 : decode cX5_readsChannel 85 = .ok (.aload_n 0, 1) := by decide +kernel
theorem dX5_readsChannel_86 : decode cX5_readsChannel 86 = .ok (.dup, 1) := by decide +kernel
theorem dX5_readsChannel_87 : decode cX5_readsChannel 87 = .ok (.getfield 94, 3) := by decide +kernel
theorem dX5_readsChannel_90 : decode cX5_readsChannel 90 = .ok (.iconst 1, 1) := by decide +kernel
theorem dX5_readsChannel_91 : decode cX5_readsChannel 91 = .ok (.iadd, 1) := by decide +kernel
theorem dX5_readsChannel_92 : decode cX5_readsChannel 92 = .ok (.putfield 94, 3) := by decide +kernel
theorem dX5_readsChannel_95 : decode cX5_readsChannel 95 = .ok (.iconst 1, 1) := by decide +kernel
theorem dX5_readsChannel_96 : decode cX5_readsChannel 96 = .ok (.ireturn, 1) := by decide +kernel
theorem dX5_reads_0 : decode cX5_reads 0 = .ok (.aload_n 0, 1) := by decide +kernel
theorem dX5_reads_1 : decode cX5_reads 1 = .ok (.iconst 0, 1) := by decide +kernel
theorem dX5_reads_2 : decode cX5_reads 2 = .ok (.putfield 106, 3) := by decide +kernel
theorem dX5_reads_5 : decode cX5_reads 5 = .ok (.aload_n 0, 1) := by decide +kernel
theorem dX5_reads_6 : decode cX5_reads 6 = .ok (.iconst 0, 1) := by decide +kernel
theorem dX5_reads_7 : decode cX5_reads 7 = .ok (.putfield 94, 3) := by decide +kernel
theorem dX5_reads_10 : decode cX5_reads 10 = .ok (.aload_n 0, 1) := by decide +kernel
theorem dX5_reads_11 : decode cX5_reads 11 = .ok (.getfield 87, 3) := by decide +kernel
theorem dX5_reads_14 : decode cX5_reads 14 = .ok (.ifCond .le 7, 3) := by decide +kernel
theorem dX5_reads_17 : decode cX5_reads 17 = .ok (.iconst 1, 1) := by decide +kernel
theorem dX5_reads_18 : decode cX5_reads 18 = .ok (.goto 4, 3) := by decide +kernel
theorem dX5_reads_21 : decode cX5_reads 21 = .ok (.iconst 0, 1) := by decide +kernel
theorem dX5_reads_22 : decode cX5_reads 22 = .ok (.istore_n 1, 1) := by decide +kernel
theorem dX5_reads_23 : decode cX5_reads 23 = .ok (.iload_n 1, 1) := by decide +kernel
theorem dX5_reads_24 : decode cX5_reads 24 = .ok (.ifCond .eq 82, 3) := by decide +kernel
theorem dX5_reads_27 : decode cX5_reads 27 = .ok (.aload_n 0, 1) := by decide +kernel
theorem dX5_reads_28 : decode cX5_reads 28 = .ok (.invokevirtual 112, 3) := by decide +kernel
theorem dX5_reads_31 : decode cX5_reads 31 = .ok (.istore_n 2, 1) := by decide +kernel
theorem dX5_reads_32 : decode cX5_reads 32 = .ok (.iload_n 2, 1) := by decide +kernel
theorem dX5_reads_33 : decode cX5_reads 33 = .ok (.ifCond .eq 18, 3) := by decide +kernel
theorem dX5_reads_36 : decode cX5_reads 36 = .ok (.aload_n 0, 1) := by decide +kernel
theorem dX5_reads_37 : decode cX5_reads 37 = .ok (.getfield 106, 3) := by decide +kernel
theorem dX5_reads_40 : decode cX5_reads 40 = .ok (.aload_n 0, 1) := by decide +kernel
theorem dX5_reads_41 : decode cX5_reads 41 = .ok (.getfield 87, 3) := by decide +kernel
theorem dX5_reads_44 : decode cX5_reads 44 = .ok (.if_icmp .ge 7, 3) := by decide +kernel
theorem dX5_reads_47 : decode cX5_reads 47 = .ok (.iconst 1, 1) := by decide +kernel
theorem dX5_reads_48 : decode cX5_reads 48 = .ok (.goto 4, 3) := by decide +kernel
theorem dX5_reads_51 : decode cX5_reads 51 = .ok (.iconst 0, 1) := by decide +kernel
theorem dX5_reads_52 : decode cX5_reads 52 = .ok (.istore_n 1, 1) := by decide +kernel
theorem dX5_reads_53 : decode cX5_reads 53 = .ok (.iload_n 2, 1) := by decide +kernel
theorem dX5_reads_54 : decode cX5_reads 54 = .ok (.ifCond .eq 21, 3) := by decide +kernel
theorem dX5_reads_57 : decode cX5_reads 57 = .ok (.iload_n 1, 1) := by decide +kernel
theorem dX5_reads_58 : decode cX5_reads 58 = .ok (.ifCond .eq 27, 3) := by decide +kernel
theorem dX5_reads_61 : decode cX5_reads 61 = .ok (.aload_n 0, 1) := by decide +kernel
theorem dX5_reads_62 : decode cX5_reads 62 = .ok (.getfield 22, 3) := by decide +kernel
theorem dX5_reads_65 : decode cX5_reads 65 = .ok (.aload_n 0, 1) := by decide +kernel
theorem dX5_reads_66 : decode cX5_reads 66 = .ok (.getfield 106, 3) := by decide +kernel
theorem dX5_reads_69 : decode cX5_reads 69 = .ok (.iaload, 1) := by decide +kernel
theorem dX5_reads_70 : decode cX5_reads 70 = .ok (.bipush 59, 2) := by decide +kernel
theorem dX5_reads_72 : decode cX5_reads 72 = .ok (.if_icmp .eq 13, 3) := by decide +kernel
theorem dX5_reads_75 : decode cX5_reads 75 = .ok (.aload_n 0, 1) := by decide +kernel
theorem dX5_reads_76 : decode cX5_reads 76 = .ok (.iconst 0, 1) := by decide +kernel
theorem dX5_reads_77 : decode cX5_reads 77 = .ok (.putfield 94, 3) := by decide +kernel
theorem dX5_reads_80 : decode cX5_reads 80 = .ok (.aload_n 0, 1) := by decide +kernel
theorem dX5_reads_81 : decode cX5_reads 81 = .ok (.getfield 106, 3) := by decide +kernel
theorem dX5_reads_84 : decode cX5_reads 84 = .ok (.ireturn, 1) := by decide +kernel
theorem dX5_reads_85 : decode cX5_reads 85 = .ok (.aload_n 0, 1) := by decide +kernel
theorem dX5_reads_86 : decode cX5_reads 86 = .ok (.dup, 1) := by decide +kernel
theorem dX5_reads_87 : decode cX5_reads 87 = .ok (.getfield 106, 3) := by decide +kernel
theorem dX5_reads_90 : decode cX5_reads 90 = .ok (.iload_n 1, 1) := by decide +kernel
theorem dX5_reads_91 : decode cX5_reads 91 = .ok (.ifCond .eq 7, 3) := by decide +kernel
theorem dX5_reads_94 : decode cX5_reads 94 = .ok (.iconst 1, 1) := by decide +kernel
theorem dX5_reads_95 : decode cX5_reads 95 = .ok (.goto 4, 3) := by decide +kernel
theorem dX5_reads_98 : decode cX5_reads 98 = .ok (.iconst 0, 1) := by decide +kernel
theorem dX5_reads_99 : decode cX5_reads 99 = .ok (.iadd, 1) := by decide +kernel
theorem dX5_reads_100 : decode cX5_reads 100 = .ok (.putfield 106, 3) := by decide +kernel
theorem dX5_reads_103 : decode cX5_reads 103 = .ok (.goto (-80), 3) := by decide +kernel
theorem dX5_reads_106 : decode cX5_reads 106 = .ok (.iconst (-1), 1) := by decide +kernel
theorem dX5_reads_107 : decode cX5_reads 107 = .ok (.ireturn, 1) := by decide +kernel
theorem dX5_fault_0 : decode cX5_fault 0 = .ok (.aload_n 0, 1) := by decide +kernel
theorem dX5_fault_1 : decode cX5_fault 1 = .ok (.invokevirtual 116, 3) := by decide +kernel
theorem dX5_fault_4 : decode cX5_fault 4 = .ok (.ireturn, 1) := by decide +kernel
theorem dX5_undo_0 : decode cX5_undo 0 = .ok (.aload_n 0, 1) := by decide +kernel
theorem dX5_undo_1 : decode cX5_undo 1 = .ok (.invokevirtual 116, 3) := by decide +kernel
theorem dX5_undo_4 : decode cX5_undo 4 = .ok (.pop, 1) := by decide +kernel
theorem dX5_undo_5 : decode cX5_undo 5 = .ok (.aload_n 0, 1) := by decide +kernel
theorem dX5_undo_6 : decode cX5_undo 6 = .ok (.getfield 94, 3) := by decide +kernel
theorem dX5_undo_9 : decode cX5_undo 9 = .ok (.ifCond .ne 6, 3) := by decide +kernel
theorem dX5_undo_12 : decode cX5_undo 12 = .ok (.bipush (-3), 2) := by decide +kernel
theorem dX5_undo_14 : decode cX5_undo 14 = .ok (.ireturn, 1) := by decide +kernel
theorem dX5_undo_15 : decode cX5_undo 15 = .ok (.aload_n 0, 1) := by decide +kernel
theorem dX5_undo_16 : decode cX5_undo 16 = .ok (.dup, 1) := by decide +kernel
theorem dX5_undo_17 : decode cX5_undo 17 = .ok (.getfield 87, 3) := by decide +kernel
theorem dX5_undo_20 : decode cX5_undo 20 = .ok (.aload_n 0, 1) := by decide +kernel
theorem dX5_undo_21 : decode cX5_undo 21 = .ok (.getfield 94, 3) := by decide +kernel
theorem dX5_undo_24 : decode cX5_undo 24 = .ok (.iconst 1, 1) := by decide +kernel
theorem dX5_undo_25 : decode cX5_undo 25 = .ok (.if_icmp .ne 7, 3) := by decide +kernel
theorem dX5_undo_28 : decode cX5_undo 28 = .ok (.iconst 5, 1) := by decide +kernel
theorem dX5_undo_29 : decode cX5_undo 29 = .ok (.goto 5, 3) := by decide +kernel
theorem dX5_undo_32 : decode cX5_undo 32 = .ok (.bipush 6, 2) := by decide +kernel
theorem dX5_undo_34 : decode cX5_undo 34 = .ok (.isub, 1) := by decide +kernel
theorem dX5_undo_35 : decode cX5_undo 35 = .ok (.putfield 87, 3) := by decide +kernel
theorem dX5_undo_38 : decode cX5_undo 38 = .ok (.aload_n 0, 1) := by decide +kernel
theorem dX5_undo_39 : decode cX5_undo 39 = .ok (.getfield 94, 3) := by decide +kernel
theorem dX5_undo_42 : decode cX5_undo 42 = .ok (.iconst 1, 1) := by decide +kernel
theorem dX5_undo_43 : decode cX5_undo 43 = .ok (.isub, 1) := by decide +kernel
theorem dX5_undo_44 : decode cX5_undo 44 = .ok (.ireturn, 1) := by decide +kernel
theorem dX5_isChannel_0 : decode cX5_isChannel 0 = .ok (.iload_n 1, 1) := by decide +kernel
theorem dX5_isChannel_1 : decode cX5_isChannel 1 = .ok (.i2l, 1) := by decide +kernel
theorem dX5_isChannel_2 : decode cX5_isChannel 2 = .ok (.lconst 0, 1) := by decide +kernel
theorem dX5_isChannel_3 : decode cX5_isChannel 3 = .ok (.aload_n 0, 1) := by decide +kernel
theorem dX5_isChannel_4 : decode cX5_isChannel 4 = .ok (.getfield 94, 3) := by decide +kernel
theorem dX5_isChannel_7 : decode cX5_isChannel 7 = .ok (.iconst 1, 1) := by decide +kernel
theorem dX5_isChannel_8 : decode cX5_isChannel 8 = .ok (.isub, 1) := by decide +kernel
theorem dX5_isChannel_9 : decode cX5_isChannel 9 = .ok (.i2l, 1) := by decide +kernel
theorem dX5_isChannel_10 : decode cX5_isChannel 10 = .ok (.invokestatic 54, 3) := by decide +kernel
theorem dX5_isChannel_13 : decode cX5_isChannel 13 = .ok (.ireturn, 1) := by decide +kernel
theorem dX5_isNight_0 : decode cX5_isNight 0 = .ok (.iload_n 0, 1) := by decide +kernel
theorem dX5_isNight_1 : decode cX5_isNight 1 = .ok (.i2l, 1) := by decide +kernel
theorem dX5_isNight_2 : decode cX5_isNight 2 = .ok (.lconst 0, 1) := by decide +kernel
theorem dX5_isNight_3 : decode cX5_isNight 3 = .ok (.ldc2_w 120, 3) := by decide +kernel
theorem dX5_isNight_6 : decode cX5_isNight 6 = .ok (.invokestatic 54, 3) := by decide +kernel
theorem dX5_isNight_9 : decode cX5_isNight 9 = .ok (.ireturn, 1) := by decide +kernel
theorem dX5_isDraught_0 : decode cX5_isDraught 0 = .ok (.iload_n 0, 1) := by decide +kernel
theorem dX5_isDraught_1 : decode cX5_isDraught 1 = .ok (.i2l, 1) := by decide +kernel
theorem dX5_isDraught_2 : decode cX5_isDraught 2 = .ok (.lconst 1, 1) := by decide +kernel
theorem dX5_isDraught_3 : decode cX5_isDraught 3 = .ok (.ldc2_w 122, 3) := by decide +kernel
theorem dX5_isDraught_6 : decode cX5_isDraught 6 = .ok (.invokestatic 54, 3) := by decide +kernel
theorem dX5_isDraught_9 : decode cX5_isDraught 9 = .ok (.ireturn, 1) := by decide +kernel
theorem dX5_channel_0 : decode cX5_channel 0 = .ok (.aload_n 0, 1) := by decide +kernel
theorem dX5_channel_1 : decode cX5_channel 1 = .ok (.invokevirtual 116, 3) := by decide +kernel
theorem dX5_channel_4 : decode cX5_channel 4 = .ok (.pop, 1) := by decide +kernel
theorem dX5_channel_5 : decode cX5_channel 5 = .ok (.aload_n 0, 1) := by decide +kernel
theorem dX5_channel_6 : decode cX5_channel 6 = .ok (.iload_n 1, 1) := by decide +kernel
theorem dX5_channel_7 : decode cX5_channel 7 = .ok (.invokevirtual 124, 3) := by decide +kernel
theorem dX5_channel_10 : decode cX5_channel 10 = .ok (.ifCond .eq 28, 3) := by decide +kernel
theorem dX5_channel_13 : decode cX5_channel 13 = .ok (.iload_n 2, 1) := by decide +kernel
theorem dX5_channel_14 : decode cX5_channel 14 = .ok (.i2l, 1) := by decide +kernel
theorem dX5_channel_15 : decode cX5_channel 15 = .ok (.lconst 0, 1) := by decide +kernel
theorem dX5_channel_16 : decode cX5_channel 16 = .ok (.ldc2_w 127, 3) := by decide +kernel
theorem dX5_channel_19 : decode cX5_channel 19 = .ok (.invokestatic 54, 3) := by decide +kernel
theorem dX5_channel_22 : decode cX5_channel 22 = .ok (.ifCond .eq 16, 3) := by decide +kernel
theorem dX5_channel_25 : decode cX5_channel 25 = .ok (.aload_n 0, 1) := by decide +kernel
theorem dX5_channel_26 : decode cX5_channel 26 = .ok (.getfield 25, 3) := by decide +kernel
theorem dX5_channel_29 : decode cX5_channel 29 = .ok (.iconst 5, 1) := by decide +kernel
theorem dX5_channel_30 : decode cX5_channel 30 = .ok (.iload_n 1, 1) := by decide +kernel
theorem dX5_channel_31 : decode cX5_channel 31 = .ok (.imul, 1) := by decide +kernel
theorem dX5_channel_32 : decode cX5_channel 32 = .ok (.iload_n 2, 1) := by decide +kernel
theorem dX5_channel_33 : decode cX5_channel 33 = .ok (.iadd, 1) := by decide +kernel
theorem dX5_channel_34 : decode cX5_channel 34 = .ok (.iaload, 1) := by decide +kernel
theorem dX5_channel_35 : decode cX5_channel 35 = .ok (.goto 5, 3) := by decide +kernel
theorem dX5_channel_38 : decode cX5_channel 38 = .ok (.bipush (-2), 2) := by decide +kernel
theorem dX5_channel_40 : decode cX5_channel 40 = .ok (.ireturn, 1) := by decide +kernel
theorem dX5_storm_0 : decode cX5_storm 0 = .ok (.iload_n 1, 1) := by decide +kernel
theorem dX5_storm_1 : decode cX5_storm 1 = .ok (.invokestatic 129, 3) := by decide +kernel
theorem dX5_storm_4 : decode cX5_storm 4 = .ok (.ifCond .ne 6, 3) := by decide +kernel
theorem dX5_storm_7 : decode cX5_storm 7 = .ok (.bipush (-2), 2) := by decide +kernel
theorem dX5_storm_9 : decode cX5_storm 9 = .ok (.ireturn, 1) := by decide +kernel
theorem dX5_storm_10 : decode cX5_storm 10 = .ok (.aload_n 0, 1) := by decide +kernel
theorem dX5_storm_11 : decode cX5_storm 11 = .ok (.getfield 132, 3) := by decide +kernel
theorem dX5_storm_14 : decode cX5_storm 14 = .ok (.bipush 8, 2) := by decide +kernel
theorem dX5_storm_16 : decode cX5_storm 16 = .ok (.if_icmp .ne 6, 3) := by decide +kernel
theorem dX5_storm_19 : decode cX5_storm 19 = .ok (.bipush (-4), 2) := by decide +kernel
theorem dX5_storm_21 : decode cX5_storm 21 = .ok (.ireturn, 1) := by decide +kernel
theorem dX5_storm_22 : decode cX5_storm 22 = .ok (.aload_n 0, 1) := by decide +kernel
theorem dX5_storm_23 : decode cX5_storm 23 = .ok (.getfield 28, 3) := by decide +kernel
theorem dX5_storm_26 : decode cX5_storm 26 = .ok (.aload_n 0, 1) := by decide +kernel
theorem dX5_storm_27 : decode cX5_storm 27 = .ok (.getfield 132, 3) := by decide +kernel
theorem dX5_storm_30 : decode cX5_storm 30 = .ok (.iload_n 1, 1) := by decide +kernel
theorem dX5_storm_31 : decode cX5_storm 31 = .ok (.iastore, 1) := by decide +kernel
theorem dX5_storm_32 : decode cX5_storm 32 = .ok (.aload_n 0, 1) := by decide +kernel
theorem dX5_storm_33 : decode cX5_storm 33 = .ok (.dup, 1) := by decide +kernel
theorem dX5_storm_34 : decode cX5_storm 34 = .ok (.getfield 132, 3) := by decide +kernel
theorem dX5_storm_37 : decode cX5_storm 37 = .ok (.iconst 1, 1) := by decide +kernel
theorem dX5_storm_38 : decode cX5_storm 38 = .ok (.iadd, 1) := by decide +kernel
theorem dX5_storm_39 : decode cX5_storm 39 = .ok (.putfield 132, 3) := by decide +kernel
theorem dX5_storm_42 : decode cX5_storm 42 = .ok (.aload_n 0, 1) := by decide +kernel
theorem dX5_storm_43 : decode cX5_storm 43 = .ok (.getfield 132, 3) := by decide +kernel
theorem dX5_storm_46 : decode cX5_storm 46 = .ok (.ireturn, 1) := by decide +kernel
theorem dX5_calm_0 : decode cX5_calm 0 = .ok (.aload_n 0, 1) := by decide +kernel
theorem dX5_calm_1 : decode cX5_calm 1 = .ok (.getfield 132, 3) := by decide +kernel
theorem dX5_calm_4 : decode cX5_calm 4 = .ok (.ifCond .ne 6, 3) := by decide +kernel
theorem dX5_calm_7 : decode cX5_calm 7 = .ok (.bipush (-3), 2) := by decide +kernel
theorem dX5_calm_9 : decode cX5_calm 9 = .ok (.ireturn, 1) := by decide +kernel
theorem dX5_calm_10 : decode cX5_calm 10 = .ok (.aload_n 0, 1) := by decide +kernel
theorem dX5_calm_11 : decode cX5_calm 11 = .ok (.dup, 1) := by decide +kernel
theorem dX5_calm_12 : decode cX5_calm 12 = .ok (.getfield 132, 3) := by decide +kernel
theorem dX5_calm_15 : decode cX5_calm 15 = .ok (.iconst 1, 1) := by decide +kernel
theorem dX5_calm_16 : decode cX5_calm 16 = .ok (.isub, 1) := by decide +kernel
theorem dX5_calm_17 : decode cX5_calm 17 = .ok (.putfield 132, 3) := by decide +kernel
theorem dX5_calm_20 : decode cX5_calm 20 = .ok (.aload_n 0, 1) := by decide +kernel
theorem dX5_calm_21 : decode cX5_calm 21 = .ok (.getfield 132, 3) := by decide +kernel
theorem dX5_calm_24 : decode cX5_calm 24 = .ok (.ireturn, 1) := by decide +kernel
theorem dX5_odds_0 : decode cX5_odds 0 = .ok (.iload_n 1, 1) := by decide +kernel
theorem dX5_odds_1 : decode cX5_odds 1 = .ok (.i2l, 1) := by decide +kernel
theorem dX5_odds_2 : decode cX5_odds 2 = .ok (.lconst 0, 1) := by decide +kernel
theorem dX5_odds_3 : decode cX5_odds 3 = .ok (.ldc2_w 135, 3) := by decide +kernel
theorem dX5_odds_6 : decode cX5_odds 6 = .ok (.invokestatic 54, 3) := by decide +kernel
theorem dX5_odds_9 : decode cX5_odds 9 = .ok (.ifCond .ne 6, 3) := by decide +kernel
theorem dX5_odds_12 : decode cX5_odds 12 = .ok (.bipush (-2), 2) := by decide +kernel
theorem dX5_odds_14 : decode cX5_odds 14 = .ok (.ireturn, 1) := by decide +kernel
theorem dX5_odds_15 : decode cX5_odds 15 = .ok (.aload_n 0, 1) := by decide +kernel
theorem dX5_odds_16 : decode cX5_odds 16 = .ok (.getfield 50, 3) := by decide +kernel
theorem dX5_odds_19 : decode cX5_odds 19 = .ok (.istore_n 2, 1) := by decide +kernel
theorem dX5_odds_20 : decode cX5_odds 20 = .ok (.aload_n 0, 1) := by decide +kernel
theorem dX5_odds_21 : decode cX5_odds 21 = .ok (.iload_n 1, 1) := by decide +kernel
theorem dX5_odds_22 : decode cX5_odds 22 = .ok (.putfield 50, 3) := by decide +kernel
theorem dX5_odds_25 : decode cX5_odds 25 = .ok (.iload_n 2, 1) := by decide +kernel
theorem dX5_odds_26 : decode cX5_odds 26 = .ok (.ireturn, 1) := by decide +kernel
theorem dX5_isStorm_0 : decode cX5_isStorm 0 = .ok (.iconst 0, 1) := by decide +kernel
theorem dX5_isStorm_1 : decode cX5_isStorm 1 = .ok (.istore_n 2, 1) := by decide +kernel
theorem dX5_isStorm_2 : decode cX5_isStorm 2 = .ok (.iconst 0, 1) := by decide +kernel
theorem dX5_isStorm_3 : decode cX5_isStorm 3 = .ok (.istore_n 3, 1) := by decide +kernel
theorem dX5_isStorm_4 : decode cX5_isStorm 4 = .ok (.iload_n 3, 1) := by decide +kernel
theorem dX5_isStorm_5 : decode cX5_isStorm 5 = .ok (.aload_n 0, 1) := by decide +kernel
theorem dX5_isStorm_6 : decode cX5_isStorm 6 = .ok (.getfield 132, 3) := by decide +kernel
theorem dX5_isStorm_9 : decode cX5_isStorm 9 = .ok (.if_icmp .ge 29, 3) := by decide +kernel
theorem dX5_isStorm_12 : decode cX5_isStorm 12 = .ok (.iload_n 2, 1) := by decide +kernel
theorem dX5_isStorm_13 : decode cX5_isStorm 13 = .ok (.ifCond .ne 13, 3) := by decide +kernel
theorem dX5_isStorm_16 : decode cX5_isStorm 16 = .ok (.aload_n 0, 1) := by decide +kernel
theorem dX5_isStorm_17 : decode cX5_isStorm 17 = .ok (.getfield 28, 3) := by decide +kernel
theorem dX5_isStorm_20 : decode cX5_isStorm 20 = .ok (.iload_n 3, 1) := by decide +kernel
theorem dX5_isStorm_21 : decode cX5_isStorm 21 = .ok (.iaload, 1) := by decide +kernel
theorem dX5_isStorm_22 : decode cX5_isStorm 22 = .ok (.iload_n 1, 1) := by decide +kernel
theorem dX5_isStorm_23 : decode cX5_isStorm 23 = .ok (.if_icmp .ne 7, 3) := by decide +kernel
theorem dX5_isStorm_26 : decode cX5_isStorm 26 = .ok (.iconst 1, 1) := by decide +kernel
theorem dX5_isStorm_27 : decode cX5_isStorm 27 = .ok (.goto 4, 3) := by decide +kernel
theorem dX5_isStorm_30 : decode cX5_isStorm 30 = .ok (.iconst 0, 1) := by decide +kernel
theorem dX5_isStorm_31 : decode cX5_isStorm 31 = .ok (.istore_n 2, 1) := by decide +kernel
theorem dX5_isStorm_32 : decode cX5_isStorm 32 = .ok (.iinc 3 1, 3) := by decide +kernel
theorem dX5_isStorm_35 : decode cX5_isStorm 35 = .ok (.goto (-31), 3) := by decide +kernel
theorem dX5_isStorm_38 : decode cX5_isStorm 38 = .ok (.iload_n 2, 1) := by decide +kernel
theorem dX5_isStorm_39 : decode cX5_isStorm 39 = .ok (.ireturn, 1) := by decide +kernel
theorem dX5_deepBy_0 : decode cX5_deepBy 0 = .ok (.iload_n 3, 1) := by decide +kernel
theorem dX5_deepBy_1 : decode cX5_deepBy 1 = .ok (.iload_n 1, 1) := by decide +kernel
theorem dX5_deepBy_2 : decode cX5_deepBy 2 = .ok (.idiv, 1) := by decide +kernel
theorem dX5_deepBy_3 : decode cX5_deepBy 3 = .ok (.istore 4, 2) := by decide +kernel
theorem dX5_deepBy_5 : decode cX5_deepBy 5 = .ok (.iload_n 0, 1) := by decide +kernel
theorem dX5_deepBy_6 : decode cX5_deepBy 6 = .ok (.ifCond .ne 13, 3) := by decide +kernel
theorem dX5_deepBy_9 : decode cX5_deepBy 9 = .ok (.iload_n 2, 1) := by decide +kernel
theorem dX5_deepBy_10 : decode cX5_deepBy 10 = .ok (.iload 4, 2) := by decide +kernel
theorem dX5_deepBy_12 : decode cX5_deepBy 12 = .ok (.iadd, 1) := by decide +kernel
theorem dX5_deepBy_13 : decode cX5_deepBy 13 = .ok (.bipush 10, 2) := by decide +kernel
theorem dX5_deepBy_15 : decode cX5_deepBy 15 = .ok (.irem, 1) := by decide +kernel
theorem dX5_deepBy_16 : decode cX5_deepBy 16 = .ok (.goto 53, 3) := by decide +kernel
theorem dX5_deepBy_19 : decode cX5_deepBy 19 = .ok (.iload_n 0, 1) := by decide +kernel
theorem dX5_deepBy_20 : decode cX5_deepBy 20 = .ok (.iconst 1, 1) := by decide +kernel
theorem dX5_deepBy_21 : decode cX5_deepBy 21 = .ok (.if_icmp .ne 17, 3) := by decide +kernel
theorem dX5_deepBy_24 : decode cX5_deepBy 24 = .ok (.iload_n 3, 1) := by decide +kernel
theorem dX5_deepBy_25 : decode cX5_deepBy 25 = .ok (.iload_n 1, 1) := by decide +kernel
theorem dX5_deepBy_26 : decode cX5_deepBy 26 = .ok (.irem, 1) := by decide +kernel
theorem dX5_deepBy_27 : decode cX5_deepBy 27 = .ok (.ifCond .ne 7, 3) := by decide +kernel
theorem dX5_deepBy_30 : decode cX5_deepBy 30 = .ok (.iload_n 2, 1) := by decide +kernel
theorem dX5_deepBy_31 : decode cX5_deepBy 31 = .ok (.goto 38, 3) := by decide +kernel
theorem dX5_deepBy_34 : decode cX5_deepBy 34 = .ok (.iconst 0, 1) := by decide +kernel
theorem dX5_deepBy_35 : decode cX5_deepBy 35 = .ok (.goto 34, 3) := by decide +kernel
theorem dX5_deepBy_38 : decode cX5_deepBy 38 = .ok (.iload_n 0, 1) := by decide +kernel
theorem dX5_deepBy_39 : decode cX5_deepBy 39 = .ok (.iconst 2, 1) := by decide +kernel
theorem dX5_deepBy_40 : decode cX5_deepBy 40 = .ok (.if_icmp .ne 13, 3) := by decide +kernel
theorem dX5_deepBy_43 : decode cX5_deepBy 43 = .ok (.iload_n 2, 1) := by decide +kernel
theorem dX5_deepBy_44 : decode cX5_deepBy 44 = .ok (.iload 4, 2) := by decide +kernel
theorem dX5_deepBy_46 : decode cX5_deepBy 46 = .ok (.isub, 1) := by decide +kernel
theorem dX5_deepBy_47 : decode cX5_deepBy 47 = .ok (.invokestatic 137, 3) := by decide +kernel
theorem dX5_deepBy_50 : decode cX5_deepBy 50 = .ok (.goto 19, 3) := by decide +kernel
theorem dX5_deepBy_53 : decode cX5_deepBy 53 = .ok (.iload 4, 2) := by decide +kernel
theorem dX5_deepBy_55 : decode cX5_deepBy 55 = .ok (.iconst 2, 1) := by decide +kernel
theorem dX5_deepBy_56 : decode cX5_deepBy 56 = .ok (.irem, 1) := by decide +kernel
theorem dX5_deepBy_57 : decode cX5_deepBy 57 = .ok (.iconst 1, 1) := by decide +kernel
theorem dX5_deepBy_58 : decode cX5_deepBy 58 = .ok (.if_icmp .ne 10, 3) := by decide +kernel
theorem dX5_deepBy_61 : decode cX5_deepBy 61 = .ok (.bipush 9, 2) := by decide +kernel
theorem dX5_deepBy_63 : decode cX5_deepBy 63 = .ok (.iload_n 2, 1) := by decide +kernel
theorem dX5_deepBy_64 : decode cX5_deepBy 64 = .ok (.isub, 1) := by decide +kernel
theorem dX5_deepBy_65 : decode cX5_deepBy 65 = .ok (.goto 4, 3) := by decide +kernel
theorem dX5_deepBy_68 : decode cX5_deepBy 68 = .ok (.iload_n 2, 1) := by decide +kernel
theorem dX5_deepBy_69 : decode cX5_deepBy 69 = .ok (.ireturn, 1) := by decide +kernel
theorem dX5_deepIn_0 : decode cX5_deepIn 0 = .ok (.aload_n 0, 1) := by decide +kernel
theorem dX5_deepIn_1 : decode cX5_deepIn 1 = .ok (.getfield 25, 3) := by decide +kernel
theorem dX5_deepIn_4 : decode cX5_deepIn 4 = .ok (.iconst 5, 1) := by decide +kernel
theorem dX5_deepIn_5 : decode cX5_deepIn 5 = .ok (.iload_n 1, 1) := by decide +kernel
theorem dX5_deepIn_6 : decode cX5_deepIn 6 = .ok (.imul, 1) := by decide +kernel
theorem dX5_deepIn_7 : decode cX5_deepIn 7 = .ok (.iconst 2, 1) := by decide +kernel
theorem dX5_deepIn_8 : decode cX5_deepIn 8 = .ok (.iadd, 1) := by decide +kernel
theorem dX5_deepIn_9 : decode cX5_deepIn 9 = .ok (.iaload, 1) := by decide +kernel
theorem dX5_deepIn_10 : decode cX5_deepIn 10 = .ok (.istore 4, 2) := by decide +kernel
theorem dX5_deepIn_12 : decode cX5_deepIn 12 = .ok (.aload_n 0, 1) := by decide +kernel
theorem dX5_deepIn_13 : decode cX5_deepIn 13 = .ok (.getfield 25, 3) := by decide +kernel
theorem dX5_deepIn_16 : decode cX5_deepIn 16 = .ok (.iconst 5, 1) := by decide +kernel
theorem dX5_deepIn_17 : decode cX5_deepIn 17 = .ok (.iload_n 1, 1) := by decide +kernel
theorem dX5_deepIn_18 : decode cX5_deepIn 18 = .ok (.imul, 1) := by decide +kernel
theorem dX5_deepIn_19 : decode cX5_deepIn 19 = .ok (.iconst 3, 1) := by decide +kernel
theorem dX5_deepIn_20 : decode cX5_deepIn 20 = .ok (.iadd, 1) := by decide +kernel
theorem dX5_deepIn_21 : decode cX5_deepIn 21 = .ok (.iaload, 1) := by decide +kernel
theorem dX5_deepIn_22 : decode cX5_deepIn 22 = .ok (.istore 5, 2) := by decide +kernel
theorem dX5_deepIn_24 : decode cX5_deepIn 24 = .ok (.iload 5, 2) := by decide +kernel
theorem dX5_deepIn_26 : decode cX5_deepIn 26 = .ok (.iconst 4, 1) := by decide +kernel
theorem dX5_deepIn_27 : decode cX5_deepIn 27 = .ok (.if_icmp .ne 20, 3) := by decide +kernel
theorem dX5_deepIn_30 : decode cX5_deepIn 30 = .ok (.iload_n 3, 1) := by decide +kernel
theorem dX5_deepIn_31 : decode cX5_deepIn 31 = .ok (.ifCond .eq 11, 3) := by decide +kernel
theorem dX5_deepIn_34 : decode cX5_deepIn 34 = .ok (.bipush 9, 2) := by decide +kernel
theorem dX5_deepIn_36 : decode cX5_deepIn 36 = .ok (.iload 4, 2) := by decide +kernel
theorem dX5_deepIn_38 : decode cX5_deepIn 38 = .ok (.isub, 1) := by decide +kernel
theorem dX5_deepIn_39 : decode cX5_deepIn 39 = .ok (.goto 26, 3) := by decide +kernel
theorem dX5_deepIn_42 : decode cX5_deepIn 42 = .ok (.iload 4, 2) := by decide +kernel
theorem dX5_deepIn_44 : decode cX5_deepIn 44 = .ok (.goto 21, 3) := by decide +kernel
theorem dX5_deepIn_47 : decode cX5_deepIn 47 = .ok (.iload 5, 2) := by decide +kernel
theorem dX5_deepIn_49 : decode cX5_deepIn 49 = .ok (.aload_n 0, 1) := by decide +kernel
theorem dX5_deepIn_50 : decode cX5_deepIn 50 = .ok (.getfield 25, 3) := by decide +kernel
theorem dX5_deepIn_53 : decode cX5_deepIn 53 = .ok (.iconst 5, 1) := by decide +kernel
theorem dX5_deepIn_54 : decode cX5_deepIn 54 = .ok (.iload_n 1, 1) := by decide +kernel
theorem dX5_deepIn_55 : decode cX5_deepIn 55 = .ok (.imul, 1) := by decide +kernel
theorem dX5_deepIn_56 : decode cX5_deepIn 56 = .ok (.iconst 4, 1) := by decide +kernel
theorem dX5_deepIn_57 : decode cX5_deepIn 57 = .ok (.iadd, 1) := by decide +kernel
theorem dX5_deepIn_58 : decode cX5_deepIn 58 = .ok (.iaload, 1) := by decide +kernel
theorem dX5_deepIn_59 : decode cX5_deepIn 59 = .ok (.iload 4, 2) := by decide +kernel
theorem dX5_deepIn_61 : decode cX5_deepIn 61 = .ok (.iload_n 2, 1) := by decide +kernel
theorem dX5_deepIn_62 : decode cX5_deepIn 62 = .ok (.invokestatic 140, 3) := by decide +kernel
theorem dX5_deepIn_65 : decode cX5_deepIn 65 = .ok (.ireturn, 1) := by decide +kernel
theorem dX5_deepOf_0 : decode cX5_deepOf 0 = .ok (.aload_n 0, 1) := by decide +kernel
theorem dX5_deepOf_1 : decode cX5_deepOf 1 = .ok (.iload_n 1, 1) := by decide +kernel
theorem dX5_deepOf_2 : decode cX5_deepOf 2 = .ok (.iload_n 2, 1) := by decide +kernel
theorem dX5_deepOf_3 : decode cX5_deepOf 3 = .ok (.aload_n 0, 1) := by decide +kernel
theorem dX5_deepOf_4 : decode cX5_deepOf 4 = .ok (.iload_n 2, 1) := by decide +kernel
theorem dX5_deepOf_5 : decode cX5_deepOf 5 = .ok (.invokevirtual 144, 3) := by decide +kernel
theorem dX5_deepOf_8 : decode cX5_deepOf 8 = .ok (.invokevirtual 147, 3) := by decide +kernel
theorem dX5_deepOf_11 : decode cX5_deepOf 11 = .ok (.ireturn, 1) := by decide +kernel
theorem dX5_mapOf_0 : decode cX5_mapOf 0 = .ok (.aload_n 0, 1) := by decide +kernel
theorem dX5_mapOf_1 : decode cX5_mapOf 1 = .ok (.iload_n 1, 1) := by decide +kernel
theorem dX5_mapOf_2 : decode cX5_mapOf 2 = .ok (.iload_n 2, 1) := by decide +kernel
theorem dX5_mapOf_3 : decode cX5_mapOf 3 = .ok (.ifCond .ne 7, 3) := by decide +kernel
theorem dX5_mapOf_6 : decode cX5_mapOf 6 = .ok (.iconst 0, 1) := by decide +kernel
theorem dX5_mapOf_7 : decode cX5_mapOf 7 = .ok (.goto 6, 3) := by decide +kernel
theorem dX5_mapOf_10 : decode cX5_mapOf 10 = .ok (.iload_n 2, 1) := by decide +kernel
theorem dX5_mapOf_11 : decode cX5_mapOf 11 = .ok (.iconst 1, 1) := by decide +kernel
theorem dX5_mapOf_12 : decode cX5_mapOf 12 = .ok (.isub, 1) := by decide +kernel
theorem dX5_mapOf_13 : decode cX5_mapOf 13 = .ok (.invokevirtual 151, 3) := by decide +kernel
theorem dX5_mapOf_16 : decode cX5_mapOf 16 = .ok (.ireturn, 1) := by decide +kernel
theorem dX5_deep_0 : decode cX5_deep 0 = .ok (.aload_n 0, 1) := by decide +kernel
theorem dX5_deep_1 : decode cX5_deep 1 = .ok (.invokevirtual 116, 3) := by decide +kernel
theorem dX5_deep_4 : decode cX5_deep 4 = .ok (.pop, 1) := by decide +kernel
theorem dX5_deep_5 : decode cX5_deep 5 = .ok (.aload_n 0, 1) := by decide +kernel
theorem dX5_deep_6 : decode cX5_deep 6 = .ok (.iload_n 1, 1) := by decide +kernel
theorem dX5_deep_7 : decode cX5_deep 7 = .ok (.invokevirtual 124, 3) := by decide +kernel
theorem dX5_deep_10 : decode cX5_deep 10 = .ok (.ifCond .eq 19, 3) := by decide +kernel
theorem dX5_deep_13 : decode cX5_deep 13 = .ok (.iload_n 2, 1) := by decide +kernel
theorem dX5_deep_14 : decode cX5_deep 14 = .ok (.invokestatic 129, 3) := by decide +kernel
theorem dX5_deep_17 : decode cX5_deep 17 = .ok (.ifCond .eq 12, 3) := by decide +kernel
theorem dX5_deep_20 : decode cX5_deep 20 = .ok (.aload_n 0, 1) := by decide +kernel
theorem dX5_deep_21 : decode cX5_deep 21 = .ok (.iload_n 1, 1) := by decide +kernel
theorem dX5_deep_22 : decode cX5_deep 22 = .ok (.iload_n 2, 1) := by decide +kernel
theorem dX5_deep_23 : decode cX5_deep 23 = .ok (.invokevirtual 151, 3) := by decide +kernel
theorem dX5_deep_26 : decode cX5_deep 26 = .ok (.goto 5, 3) := by decide +kernel
theorem dX5_deep_29 : decode cX5_deep 29 = .ok (.bipush (-2), 2) := by decide +kernel
theorem dX5_deep_31 : decode cX5_deep 31 = .ok (.ireturn, 1) := by decide +kernel
theorem dX5_map_0 : decode cX5_map 0 = .ok (.aload_n 0, 1) := by decide +kernel
theorem dX5_map_1 : decode cX5_map 1 = .ok (.invokevirtual 116, 3) := by decide +kernel
theorem dX5_map_4 : decode cX5_map 4 = .ok (.pop, 1) := by decide +kernel
theorem dX5_map_5 : decode cX5_map 5 = .ok (.aload_n 0, 1) := by decide +kernel
theorem dX5_map_6 : decode cX5_map 6 = .ok (.iload_n 1, 1) := by decide +kernel
theorem dX5_map_7 : decode cX5_map 7 = .ok (.invokevirtual 124, 3) := by decide +kernel
theorem dX5_map_10 : decode cX5_map 10 = .ok (.ifCond .eq 19, 3) := by decide +kernel
theorem dX5_map_13 : decode cX5_map 13 = .ok (.iload_n 2, 1) := by decide +kernel
theorem dX5_map_14 : decode cX5_map 14 = .ok (.invokestatic 129, 3) := by decide +kernel
theorem dX5_map_17 : decode cX5_map 17 = .ok (.ifCond .eq 12, 3) := by decide +kernel
theorem dX5_map_20 : decode cX5_map 20 = .ok (.aload_n 0, 1) := by decide +kernel
theorem dX5_map_21 : decode cX5_map 21 = .ok (.iload_n 1, 1) := by decide +kernel
theorem dX5_map_22 : decode cX5_map 22 = .ok (.iload_n 2, 1) := by decide +kernel
theorem dX5_map_23 : decode cX5_map 23 = .ok (.invokevirtual 154, 3) := by decide +kernel
theorem dX5_map_26 : decode cX5_map 26 = .ok (.goto 5, 3) := by decide +kernel
theorem dX5_map_29 : decode cX5_map 29 = .ok (.bipush (-2), 2) := by decide +kernel
theorem dX5_map_31 : decode cX5_map 31 = .ok (.ireturn, 1) := by decide +kernel
theorem dX5_findWays_0 : decode cX5_findWays 0 = .ok (.aload_n 0, 1) := by decide +kernel
theorem dX5_findWays_1 : decode cX5_findWays 1 = .ok (.getfield 31, 3) := by decide +kernel
theorem dX5_findWays_4 : decode cX5_findWays 4 = .ok (.iconst 5, 1) := by decide +kernel
theorem dX5_findWays_5 : decode cX5_findWays 5 = .ok (.iconst 1, 1) := by decide +kernel
theorem dX5_findWays_6 : decode cX5_findWays 6 = .ok (.iastore, 1) := by decide +kernel
theorem dX5_findWays_7 : decode cX5_findWays 7 = .ok (.iconst 4, 1) := by decide +kernel
theorem dX5_findWays_8 : decode cX5_findWays 8 = .ok (.istore_n 2, 1) := by decide +kernel
theorem dX5_findWays_9 : decode cX5_findWays 9 = .ok (.iload_n 2, 1) := by decide +kernel
theorem dX5_findWays_10 : decode cX5_findWays 10 = .ok (.ifCond .lt 80, 3) := by decide +kernel
theorem dX5_findWays_13 : decode cX5_findWays 13 = .ok (.aload_n 0, 1) := by decide +kernel
theorem dX5_findWays_14 : decode cX5_findWays 14 = .ok (.getfield 31, 3) := by decide +kernel
theorem dX5_findWays_17 : decode cX5_findWays 17 = .ok (.iload_n 2, 1) := by decide +kernel
theorem dX5_findWays_18 : decode cX5_findWays 18 = .ok (.iconst 0, 1) := by decide +kernel
theorem dX5_findWays_19 : decode cX5_findWays 19 = .ok (.iastore, 1) := by decide +kernel
theorem dX5_findWays_20 : decode cX5_findWays 20 = .ok (.iconst 0, 1) := by decide +kernel
theorem dX5_findWays_21 : decode cX5_findWays 21 = .ok (.istore_n 3, 1) := by decide +kernel
theorem dX5_findWays_22 : decode cX5_findWays 22 = .ok (.iload_n 3, 1) := by decide +kernel
theorem dX5_findWays_23 : decode cX5_findWays 23 = .ok (.aload_n 0, 1) := by decide +kernel
theorem dX5_findWays_24 : decode cX5_findWays 24 = .ok (.getfield 94, 3) := by decide +kernel
theorem dX5_findWays_27 : decode cX5_findWays 27 = .ok (.if_icmp .ge 57, 3) := by decide +kernel
theorem dX5_findWays_30 : decode cX5_findWays 30 = .ok (.aload_n 0, 1) := by decide +kernel
theorem dX5_findWays_31 : decode cX5_findWays 31 = .ok (.getfield 31, 3) := by decide +kernel
theorem dX5_findWays_34 : decode cX5_findWays 34 = .ok (.iload_n 2, 1) := by decide +kernel
theorem dX5_findWays_35 : decode cX5_findWays 35 = .ok (.dup2, 1) := by decide +kernel
theorem dX5_findWays_36 : decode cX5_findWays 36 = .ok (.iaload, 1) := by decide +kernel
theorem dX5_findWays_37 : decode cX5_findWays 37 = .ok (.iload_n 1, 1) := by decide +kernel
theorem dX5_findWays_38 : decode cX5_findWays 38 = .ok (.iload_n 3, 1) := by decide +kernel
theorem dX5_findWays_39 : decode cX5_findWays 39 = .ok (.invokestatic 157, 3) := by decide +kernel
theorem dX5_findWays_42 : decode cX5_findWays 42 = .ok (.ifCond .eq 33, 3) := by decide +kernel
theorem dX5_findWays_45 : decode cX5_findWays 45 = .ok (.aload_n 0, 1) := by decide +kernel
theorem dX5_findWays_46 : decode cX5_findWays 46 = .ok (.getfield 25, 3) := by decide +kernel
theorem dX5_findWays_49 : decode cX5_findWays 49 = .ok (.iconst 5, 1) := by decide +kernel
theorem dX5_findWays_50 : decode cX5_findWays 50 = .ok (.iload_n 3, 1) := by decide +kernel
theorem dX5_findWays_51 : decode cX5_findWays 51 = .ok (.imul, 1) := by decide +kernel
theorem dX5_findWays_52 : decode cX5_findWays 52 = .ok (.iaload, 1) := by decide +kernel
theorem dX5_findWays_53 : decode cX5_findWays 53 = .ok (.iload_n 2, 1) := by decide +kernel
theorem dX5_findWays_54 : decode cX5_findWays 54 = .ok (.if_icmp .ne 21, 3) := by decide +kernel
theorem dX5_findWays_57 : decode cX5_findWays 57 = .ok (.aload_n 0, 1) := by decide +kernel
theorem dX5_findWays_58 : decode cX5_findWays 58 = .ok (.getfield 31, 3) := by decide +kernel
theorem dX5_findWays_61 : decode cX5_findWays 61 = .ok (.aload_n 0, 1) := by decide +kernel
theorem dX5_findWays_62 : decode cX5_findWays 62 = .ok (.getfield 25, 3) := by decide +kernel
theorem dX5_findWays_65 : decode cX5_findWays 65 = .ok (.iconst 5, 1) := by decide +kernel
theorem dX5_findWays_66 : decode cX5_findWays 66 = .ok (.iload_n 3, 1) := by decide +kernel
theorem dX5_findWays_67 : decode cX5_findWays 67 = .ok (.imul, 1) := by decide +kernel
theorem dX5_findWays_68 : decode cX5_findWays 68 = .ok (.iconst 1, 1) := by decide +kernel
theorem dX5_findWays_69 : decode cX5_findWays 69 = .ok (.iadd, 1) := by decide +kernel
theorem dX5_findWays_70 : decode cX5_findWays 70 = .ok (.iaload, 1) := by decide +kernel
theorem dX5_findWays_71 : decode cX5_findWays 71 = .ok (.iaload, 1) := by decide +kernel
theorem dX5_findWays_72 : decode cX5_findWays 72 = .ok (.goto 4, 3) := by decide +kernel
theorem dX5_findWays_75 : decode cX5_findWays 75 = .ok (.iconst 0, 1) := by decide +kernel
theorem dX5_findWays_76 : decode cX5_findWays 76 = .ok (.iadd, 1) := by decide +kernel
theorem dX5_findWays_77 : decode cX5_findWays 77 = .ok (.iastore, 1) := by decide +kernel
theorem dX5_findWays_78 : decode cX5_findWays 78 = .ok (.iinc 3 1, 3) := by decide +kernel
theorem dX5_findWays_81 : decode cX5_findWays 81 = .ok (.goto (-59), 3) := by decide +kernel
theorem dX5_findWays_84 : decode cX5_findWays 84 = .ok (.iinc 2 (-1), 3) := by decide +kernel
theorem dX5_findWays_87 : decode cX5_findWays 87 = .ok (.goto (-78), 3) := by decide +kernel
theorem dX5_findWays_90 : decode cX5_findWays 90 = .ok (.aload_n 0, 1) := by decide +kernel
theorem dX5_findWays_91 : decode cX5_findWays 91 = .ok (.iconst 0, 1) := by decide +kernel
theorem dX5_findWays_92 : decode cX5_findWays 92 = .ok (.putfield 161, 3) := by decide +kernel
theorem dX5_findWays_95 : decode cX5_findWays 95 = .ok (.aload_n 0, 1) := by decide +kernel
theorem dX5_findWays_96 : decode cX5_findWays 96 = .ok (.getfield 31, 3) := by decide +kernel
theorem dX5_findWays_99 : decode cX5_findWays 99 = .ok (.iconst 0, 1) := by decide +kernel
theorem dX5_findWays_100 : decode cX5_findWays 100 = .ok (.iaload, 1) := by decide +kernel
theorem dX5_findWays_101 : decode cX5_findWays 101 = .ok (.ifCond .le 7, 3) := by decide +kernel
theorem dX5_findWays_104 : decode cX5_findWays 104 = .ok (.iconst 0, 1) := by decide +kernel
theorem dX5_findWays_105 : decode cX5_findWays 105 = .ok (.goto 4, 3) := by decide +kernel
theorem dX5_findWays_108 : decode cX5_findWays 108 = .ok (.iconst 5, 1) := by decide +kernel
theorem dX5_findWays_109 : decode cX5_findWays 109 = .ok (.istore_n 2, 1) := by decide +kernel
theorem dX5_findWays_110 : decode cX5_findWays 110 = .ok (.iload_n 2, 1) := by decide +kernel
theorem dX5_findWays_111 : decode cX5_findWays 111 = .ok (.iconst 5, 1) := by decide +kernel
theorem dX5_findWays_112 : decode cX5_findWays 112 = .ok (.if_icmp .ge 106, 3) := by decide +kernel
theorem dX5_findWays_115 : decode cX5_findWays 115 = .ok (.iconst (-1), 1) := by decide +kernel
theorem dX5_findWays_116 : decode cX5_findWays 116 = .ok (.istore_n 3, 1) := by decide +kernel
theorem dX5_findWays_117 : decode cX5_findWays 117 = .ok (.aload_n 0, 1) := by decide +kernel
theorem dX5_findWays_118 : decode cX5_findWays 118 = .ok (.getfield 94, 3) := by decide +kernel
theorem dX5_findWays_121 : decode cX5_findWays 121 = .ok (.iconst 1, 1) := by decide +kernel
theorem dX5_findWays_122 : decode cX5_findWays 122 = .ok (.isub, 1) := by decide +kernel
theorem dX5_findWays_123 : decode cX5_findWays 123 = .ok (.istore 4, 2) := by decide +kernel
theorem dX5_findWays_125 : decode cX5_findWays 125 = .ok (.iload 4, 2) := by decide +kernel
theorem dX5_findWays_127 : decode cX5_findWays 127 = .ok (.ifCond .lt 57, 3) := by decide +kernel
theorem dX5_findWays_130 : decode cX5_findWays 130 = .ok (.iload_n 1, 1) := by decide +kernel
theorem dX5_findWays_131 : decode cX5_findWays 131 = .ok (.iload 4, 2) := by decide +kernel
theorem dX5_findWays_133 : decode cX5_findWays 133 = .ok (.invokestatic 157, 3) := by decide +kernel
theorem dX5_findWays_136 : decode cX5_findWays 136 = .ok (.ifCond .eq 40, 3) := by decide +kernel
theorem dX5_findWays_139 : decode cX5_findWays 139 = .ok (.aload_n 0, 1) := by decide +kernel
theorem dX5_findWays_140 : decode cX5_findWays 140 = .ok (.getfield 25, 3) := by decide +kernel
theorem dX5_findWays_143 : decode cX5_findWays 143 = .ok (.iconst 5, 1) := by decide +kernel
theorem dX5_findWays_144 : decode cX5_findWays 144 = .ok (.iload 4, 2) := by decide +kernel
theorem dX5_findWays_146 : decode cX5_findWays 146 = .ok (.imul, 1) := by decide +kernel
theorem dX5_findWays_147 : decode cX5_findWays 147 = .ok (.iaload, 1) := by decide +kernel
theorem dX5_findWays_148 : decode cX5_findWays 148 = .ok (.iload_n 2, 1) := by decide +kernel
theorem dX5_findWays_149 : decode cX5_findWays 149 = .ok (.if_icmp .ne 27, 3) := by decide +kernel
theorem dX5_findWays_152 : decode cX5_findWays 152 = .ok (.aload_n 0, 1) := by decide +kernel
theorem dX5_findWays_153 : decode cX5_findWays 153 = .ok (.getfield 31, 3) := by decide +kernel
theorem dX5_findWays_156 : decode cX5_findWays 156 = .ok (.aload_n 0, 1) := by decide +kernel
theorem dX5_findWays_157 : decode cX5_findWays 157 = .ok (.getfield 25, 3) := by decide +kernel
theorem dX5_findWays_160 : decode cX5_findWays 160 = .ok (.iconst 5, 1) := by decide +kernel
theorem dX5_findWays_161 : decode cX5_findWays 161 = .ok (.iload 4, 2) := by decide +kernel
theorem dX5_findWays_163 : decode cX5_findWays 163 = .ok (.imul, 1) := by decide +kernel
theorem dX5_findWays_164 : decode cX5_findWays 164 = .ok (.iconst 1, 1) := by decide +kernel
theorem dX5_findWays_165 : decode cX5_findWays 165 = .ok (.iadd, 1) := by decide +kernel
theorem dX5_findWays_166 : decode cX5_findWays 166 = .ok (.iaload, 1) := by decide +kernel
theorem dX5_findWays_167 : decode cX5_findWays 167 = .ok (.iaload, 1) := by decide +kernel
theorem dX5_findWays_168 : decode cX5_findWays 168 = .ok (.ifCond .le 8, 3) := by decide +kernel
theorem dX5_findWays_171 : decode cX5_findWays 171 = .ok (.iload 4, 2) := by decide +kernel
theorem dX5_findWays_173 : decode cX5_findWays 173 = .ok (.goto 4, 3) := by decide +kernel
theorem dX5_findWays_176 : decode cX5_findWays 176 = .ok (.iload_n 3, 1) := by decide +kernel
theorem dX5_findWays_177 : decode cX5_findWays 177 = .ok (.istore_n 3, 1) := by decide +kernel
theorem dX5_findWays_178 : decode cX5_findWays 178 = .ok (.iinc 4 (-1), 3) := by decide +kernel
theorem dX5_findWays_181 : decode cX5_findWays 181 = .ok (.goto (-56), 3) := by decide +kernel
theorem dX5_findWays_184 : decode cX5_findWays 184 = .ok (.aload_n 0, 1) := by decide +kernel
theorem dX5_findWays_185 : decode cX5_findWays 185 = .ok (.getfield 34, 3) := by decide +kernel
theorem dX5_findWays_188 : decode cX5_findWays 188 = .ok (.aload_n 0, 1) := by decide +kernel
theorem dX5_findWays_189 : decode cX5_findWays 189 = .ok (.getfield 161, 3) := by decide +kernel
theorem dX5_findWays_192 : decode cX5_findWays 192 = .ok (.iload_n 3, 1) := by decide +kernel
theorem dX5_findWays_193 : decode cX5_findWays 193 = .ok (.iastore, 1) := by decide +kernel
theorem dX5_findWays_194 : decode cX5_findWays 194 = .ok (.aload_n 0, 1) := by decide +kernel
theorem dX5_findWays_195 : decode cX5_findWays 195 = .ok (.dup, 1) := by decide +kernel
theorem dX5_findWays_196 : decode cX5_findWays 196 = .ok (.getfield 161, 3) := by decide +kernel
theorem dX5_findWays_199 : decode cX5_findWays 199 = .ok (.iconst 1, 1) := by decide +kernel
theorem dX5_findWays_200 : decode cX5_findWays 200 = .ok (.iadd, 1) := by decide +kernel
theorem dX5_findWays_201 : decode cX5_findWays 201 = .ok (.putfield 161, 3) := by decide +kernel
theorem dX5_findWays_204 : decode cX5_findWays 204 = .ok (.aload_n 0, 1) := by decide +kernel
theorem dX5_findWays_205 : decode cX5_findWays 205 = .ok (.getfield 25, 3) := by decide +kernel
theorem dX5_findWays_208 : decode cX5_findWays 208 = .ok (.iconst 5, 1) := by decide +kernel
theorem dX5_findWays_209 : decode cX5_findWays 209 = .ok (.iload_n 3, 1) := by decide +kernel
theorem dX5_findWays_210 : decode cX5_findWays 210 = .ok (.imul, 1) := by decide +kernel
theorem dX5_findWays_211 : decode cX5_findWays 211 = .ok (.iconst 1, 1) := by decide +kernel
theorem dX5_findWays_212 : decode cX5_findWays 212 = .ok (.iadd, 1) := by decide +kernel
theorem dX5_findWays_213 : decode cX5_findWays 213 = .ok (.iaload, 1) := by decide +kernel
theorem dX5_findWays_214 : decode cX5_findWays 214 = .ok (.istore_n 2, 1) := by decide +kernel
theorem dX5_findWays_215 : decode cX5_findWays 215 = .ok (.goto (-105), 3) := by decide +kernel
theorem dX5_findWays_218 : decode cX5_findWays 218 = .ok (.aload_n 0, 1) := by decide +kernel
theorem dX5_findWays_219 : decode cX5_findWays 219 = .ok (.getfield 31, 3) := by decide +kernel
theorem dX5_findWays_222 : decode cX5_findWays 222 = .ok (.iconst 0, 1) := by decide +kernel
theorem dX5_findWays_223 : decode cX5_findWays 223 = .ok (.iaload, 1) := by decide +kernel
theorem dX5_findWays_224 : decode cX5_findWays 224 = .ok (.ireturn, 1) := by decide +kernel
theorem dX5_enoughIn_0 : decode cX5_enoughIn 0 = .ok (.iconst 0, 1) := by decide +kernel
theorem dX5_enoughIn_1 : decode cX5_enoughIn 1 = .ok (.istore 4, 2) := by decide +kernel
theorem dX5_enoughIn_3 : decode cX5_enoughIn 3 = .ok (.iconst 0, 1) := by decide +kernel
theorem dX5_enoughIn_4 : decode cX5_enoughIn 4 = .ok (.istore 5, 2) := by decide +kernel
theorem dX5_enoughIn_6 : decode cX5_enoughIn 6 = .ok (.iload 5, 2) := by decide +kernel
theorem dX5_enoughIn_8 : decode cX5_enoughIn 8 = .ok (.aload_n 0, 1) := by decide +kernel
theorem dX5_enoughIn_9 : decode cX5_enoughIn 9 = .ok (.getfield 94, 3) := by decide +kernel
theorem dX5_enoughIn_12 : decode cX5_enoughIn 12 = .ok (.if_icmp .ge 34, 3) := by decide +kernel
theorem dX5_enoughIn_15 : decode cX5_enoughIn 15 = .ok (.iload 4, 2) := by decide +kernel
theorem dX5_enoughIn_17 : decode cX5_enoughIn 17 = .ok (.aload_n 0, 1) := by decide +kernel
theorem dX5_enoughIn_18 : decode cX5_enoughIn 18 = .ok (.iload 5, 2) := by decide +kernel
theorem dX5_enoughIn_20 : decode cX5_enoughIn 20 = .ok (.iload_n 2, 1) := by decide +kernel
theorem dX5_enoughIn_21 : decode cX5_enoughIn 21 = .ok (.iload_n 3, 1) := by decide +kernel
theorem dX5_enoughIn_22 : decode cX5_enoughIn 22 = .ok (.invokevirtual 147, 3) := by decide +kernel
theorem dX5_enoughIn_25 : decode cX5_enoughIn 25 = .ok (.iload_n 1, 1) := by decide +kernel
theorem dX5_enoughIn_26 : decode cX5_enoughIn 26 = .ok (.if_icmp .lt 10, 3) := by decide +kernel
theorem dX5_enoughIn_29 : decode cX5_enoughIn 29 = .ok (.iconst 1, 1) := by decide +kernel
theorem dX5_enoughIn_30 : decode cX5_enoughIn 30 = .ok (.iload 5, 2) := by decide +kernel
theorem dX5_enoughIn_32 : decode cX5_enoughIn 32 = .ok (.ishl, 1) := by decide +kernel
theorem dX5_enoughIn_33 : decode cX5_enoughIn 33 = .ok (.goto 4, 3) := by decide +kernel
theorem dX5_enoughIn_36 : decode cX5_enoughIn 36 = .ok (.iconst 0, 1) := by decide +kernel
theorem dX5_enoughIn_37 : decode cX5_enoughIn 37 = .ok (.ior, 1) := by decide +kernel
theorem dX5_enoughIn_38 : decode cX5_enoughIn 38 = .ok (.istore 4, 2) := by decide +kernel
theorem dX5_enoughIn_40 : decode cX5_enoughIn 40 = .ok (.iinc 5 1, 3) := by decide +kernel
theorem dX5_enoughIn_43 : decode cX5_enoughIn 43 = .ok (.goto (-37), 3) := by decide +kernel
theorem dX5_enoughIn_46 : decode cX5_enoughIn 46 = .ok (.iload 4, 2) := by decide +kernel
theorem dX5_enoughIn_48 : decode cX5_enoughIn 48 = .ok (.ireturn, 1) := by decide +kernel
theorem dX5_enough_0 : decode cX5_enough 0 = .ok (.aload_n 0, 1) := by decide +kernel
theorem dX5_enough_1 : decode cX5_enough 1 = .ok (.iload_n 1, 1) := by decide +kernel
theorem dX5_enough_2 : decode cX5_enough 2 = .ok (.iload_n 2, 1) := by decide +kernel
theorem dX5_enough_3 : decode cX5_enough 3 = .ok (.aload_n 0, 1) := by decide +kernel
theorem dX5_enough_4 : decode cX5_enough 4 = .ok (.iload_n 2, 1) := by decide +kernel
theorem dX5_enough_5 : decode cX5_enough 5 = .ok (.invokevirtual 144, 3) := by decide +kernel
theorem dX5_enough_8 : decode cX5_enough 8 = .ok (.invokevirtual 164, 3) := by decide +kernel
theorem dX5_enough_11 : decode cX5_enough 11 = .ok (.ireturn, 1) := by decide +kernel
theorem dX5_mapped_0 : decode cX5_mapped 0 = .ok (.aload_n 0, 1) := by decide +kernel
theorem dX5_mapped_1 : decode cX5_mapped 1 = .ok (.iload_n 1, 1) := by decide +kernel
theorem dX5_mapped_2 : decode cX5_mapped 2 = .ok (.iload_n 2, 1) := by decide +kernel
theorem dX5_mapped_3 : decode cX5_mapped 3 = .ok (.ifCond .ne 7, 3) := by decide +kernel
theorem dX5_mapped_6 : decode cX5_mapped 6 = .ok (.iconst 0, 1) := by decide +kernel
theorem dX5_mapped_7 : decode cX5_mapped 7 = .ok (.goto 6, 3) := by decide +kernel
theorem dX5_mapped_10 : decode cX5_mapped 10 = .ok (.iload_n 2, 1) := by decide +kernel
theorem dX5_mapped_11 : decode cX5_mapped 11 = .ok (.iconst 1, 1) := by decide +kernel
theorem dX5_mapped_12 : decode cX5_mapped 12 = .ok (.isub, 1) := by decide +kernel
theorem dX5_mapped_13 : decode cX5_mapped 13 = .ok (.invokevirtual 167, 3) := by decide +kernel
theorem dX5_mapped_16 : decode cX5_mapped 16 = .ok (.ireturn, 1) := by decide +kernel
theorem dX5_changed_0 : decode cX5_changed 0 = .ok (.iconst 0, 1) := by decide +kernel
theorem dX5_changed_1 : decode cX5_changed 1 = .ok (.istore_n 3, 1) := by decide +kernel
theorem dX5_changed_2 : decode cX5_changed 2 = .ok (.iconst 0, 1) := by decide +kernel
theorem dX5_changed_3 : decode cX5_changed 3 = .ok (.istore 4, 2) := by decide +kernel
theorem dX5_changed_5 : decode cX5_changed 5 = .ok (.iload 4, 2) := by decide +kernel
theorem dX5_changed_7 : decode cX5_changed 7 = .ok (.aload_n 0, 1) := by decide +kernel
theorem dX5_changed_8 : decode cX5_changed 8 = .ok (.getfield 94, 3) := by decide +kernel
theorem dX5_changed_11 : decode cX5_changed 11 = .ok (.if_icmp .ge 63, 3) := by decide +kernel
theorem dX5_changed_14 : decode cX5_changed 14 = .ok (.aload_n 0, 1) := by decide +kernel
theorem dX5_changed_15 : decode cX5_changed 15 = .ok (.iload 4, 2) := by decide +kernel
theorem dX5_changed_17 : decode cX5_changed 17 = .ok (.iload_n 2, 1) := by decide +kernel
theorem dX5_changed_18 : decode cX5_changed 18 = .ok (.invokevirtual 154, 3) := by decide +kernel
theorem dX5_changed_21 : decode cX5_changed 21 = .ok (.istore 5, 2) := by decide +kernel
theorem dX5_changed_23 : decode cX5_changed 23 = .ok (.iload_n 2, 1) := by decide +kernel
theorem dX5_changed_24 : decode cX5_changed 24 = .ok (.ifCond .ne 8, 3) := by decide +kernel
theorem dX5_changed_27 : decode cX5_changed 27 = .ok (.iload 5, 2) := by decide +kernel
theorem dX5_changed_29 : decode cX5_changed 29 = .ok (.goto 12, 3) := by decide +kernel
theorem dX5_changed_32 : decode cX5_changed 32 = .ok (.aload_n 0, 1) := by decide +kernel
theorem dX5_changed_33 : decode cX5_changed 33 = .ok (.iload 4, 2) := by decide +kernel
theorem dX5_changed_35 : decode cX5_changed 35 = .ok (.iload_n 2, 1) := by decide +kernel
theorem dX5_changed_36 : decode cX5_changed 36 = .ok (.iconst 1, 1) := by decide +kernel
theorem dX5_changed_37 : decode cX5_changed 37 = .ok (.isub, 1) := by decide +kernel
theorem dX5_changed_38 : decode cX5_changed 38 = .ok (.invokevirtual 154, 3) := by decide +kernel
theorem dX5_changed_41 : decode cX5_changed 41 = .ok (.istore 6, 2) := by decide +kernel
theorem dX5_changed_43 : decode cX5_changed 43 = .ok (.iload_n 3, 1) := by decide +kernel
theorem dX5_changed_44 : decode cX5_changed 44 = .ok (.iconst 2, 1) := by decide +kernel
theorem dX5_changed_45 : decode cX5_changed 45 = .ok (.iload 5, 2) := by decide +kernel
theorem dX5_changed_47 : decode cX5_changed 47 = .ok (.imul, 1) := by decide +kernel
theorem dX5_changed_48 : decode cX5_changed 48 = .ok (.iload 6, 2) := by decide +kernel
theorem dX5_changed_50 : decode cX5_changed 50 = .ok (.isub, 1) := by decide +kernel
theorem dX5_changed_51 : decode cX5_changed 51 = .ok (.invokestatic 137, 3) := by decide +kernel
theorem dX5_changed_54 : decode cX5_changed 54 = .ok (.iload_n 1, 1) := by decide +kernel
theorem dX5_changed_55 : decode cX5_changed 55 = .ok (.if_icmp .lt 10, 3) := by decide +kernel
theorem dX5_changed_58 : decode cX5_changed 58 = .ok (.iconst 1, 1) := by decide +kernel
theorem dX5_changed_59 : decode cX5_changed 59 = .ok (.iload 4, 2) := by decide +kernel
theorem dX5_changed_61 : decode cX5_changed 61 = .ok (.ishl, 1) := by decide +kernel
theorem dX5_changed_62 : decode cX5_changed 62 = .ok (.goto 4, 3) := by decide +kernel
theorem dX5_changed_65 : decode cX5_changed 65 = .ok (.iconst 0, 1) := by decide +kernel
theorem dX5_changed_66 : decode cX5_changed 66 = .ok (.ior, 1) := by decide +kernel
theorem dX5_changed_67 : decode cX5_changed 67 = .ok (.istore_n 3, 1) := by decide +kernel
theorem dX5_changed_68 : decode cX5_changed 68 = .ok (.iinc 4 1, 3) := by decide +kernel
theorem dX5_changed_71 : decode cX5_changed 71 = .ok (.goto (-66), 3) := by decide +kernel
theorem dX5_changed_74 : decode cX5_changed 74 = .ok (.iload_n 3, 1) := by decide +kernel
theorem dX5_changed_75 : decode cX5_changed 75 = .ok (.ireturn, 1) := by decide +kernel
theorem dX5_aground_0 : decode cX5_aground 0 = .ok (.iconst 0, 1) := by decide +kernel
theorem dX5_aground_1 : decode cX5_aground 1 = .ok (.istore_n 2, 1) := by decide +kernel
theorem dX5_aground_2 : decode cX5_aground 2 = .ok (.iload_n 2, 1) := by decide +kernel
theorem dX5_aground_3 : decode cX5_aground 3 = .ok (.aload_n 0, 1) := by decide +kernel
theorem dX5_aground_4 : decode cX5_aground 4 = .ok (.getfield 161, 3) := by decide +kernel
theorem dX5_aground_7 : decode cX5_aground 7 = .ok (.if_icmp .ge 29, 3) := by decide +kernel
theorem dX5_aground_10 : decode cX5_aground 10 = .ok (.iload_n 1, 1) := by decide +kernel
theorem dX5_aground_11 : decode cX5_aground 11 = .ok (.aload_n 0, 1) := by decide +kernel
theorem dX5_aground_12 : decode cX5_aground 12 = .ok (.getfield 34, 3) := by decide +kernel
theorem dX5_aground_15 : decode cX5_aground 15 = .ok (.iload_n 2, 1) := by decide +kernel
theorem dX5_aground_16 : decode cX5_aground 16 = .ok (.iaload, 1) := by decide +kernel
theorem dX5_aground_17 : decode cX5_aground 17 = .ok (.invokestatic 157, 3) := by decide +kernel
theorem dX5_aground_20 : decode cX5_aground 20 = .ok (.ifCond .ne 10, 3) := by decide +kernel
theorem dX5_aground_23 : decode cX5_aground 23 = .ok (.aload_n 0, 1) := by decide +kernel
theorem dX5_aground_24 : decode cX5_aground 24 = .ok (.getfield 34, 3) := by decide +kernel
theorem dX5_aground_27 : decode cX5_aground 27 = .ok (.iload_n 2, 1) := by decide +kernel
theorem dX5_aground_28 : decode cX5_aground 28 = .ok (.iaload, 1) := by decide +kernel
theorem dX5_aground_29 : decode cX5_aground 29 = .ok (.ireturn, 1) := by decide +kernel
theorem dX5_aground_30 : decode cX5_aground 30 = .ok (.iinc 2 1, 3) := by decide +kernel
theorem dX5_aground_33 : decode cX5_aground 33 = .ok (.goto (-31), 3) := by decide +kernel
theorem dX5_aground_36 : decode cX5_aground 36 = .ok (.iconst (-1), 1) := by decide +kernel
theorem dX5_aground_37 : decode cX5_aground 37 = .ok (.ireturn, 1) := by decide +kernel
theorem dX5_goes_0 : decode cX5_goes 0 = .ok (.aload_n 0, 1) := by decide +kernel
theorem dX5_goes_1 : decode cX5_goes 1 = .ok (.iload_n 1, 1) := by decide +kernel
theorem dX5_goes_2 : decode cX5_goes 2 = .ok (.invokevirtual 170, 3) := by decide +kernel
theorem dX5_goes_5 : decode cX5_goes 5 = .ok (.ifCond .ne 8, 3) := by decide +kernel
theorem dX5_goes_8 : decode cX5_goes 8 = .ok (.bipush (-3), 2) := by decide +kernel
theorem dX5_goes_10 : decode cX5_goes 10 = .ok (.goto 8, 3) := by decide +kernel
theorem dX5_goes_13 : decode cX5_goes 13 = .ok (.aload_n 0, 1) := by decide +kernel
theorem dX5_goes_14 : decode cX5_goes 14 = .ok (.iload_n 2, 1) := by decide +kernel
theorem dX5_goes_15 : decode cX5_goes 15 = .ok (.invokevirtual 173, 3) := by decide +kernel
theorem dX5_goes_18 : decode cX5_goes 18 = .ok (.ireturn, 1) := by decide +kernel
theorem dX5_waysOf_0 : decode cX5_waysOf 0 = .ok (.aload_n 0, 1) := by decide +kernel
theorem dX5_waysOf_1 : decode cX5_waysOf 1 = .ok (.aload_n 0, 1) := by decide +kernel
theorem dX5_waysOf_2 : decode cX5_waysOf 2 = .ok (.iload_n 1, 1) := by decide +kernel
theorem dX5_waysOf_3 : decode cX5_waysOf 3 = .ok (.iload_n 2, 1) := by decide +kernel
theorem dX5_waysOf_4 : decode cX5_waysOf 4 = .ok (.invokevirtual 167, 3) := by decide +kernel
theorem dX5_waysOf_7 : decode cX5_waysOf 7 = .ok (.invokevirtual 170, 3) := by decide +kernel
theorem dX5_waysOf_10 : decode cX5_waysOf 10 = .ok (.istore 4, 2) := by decide +kernel
theorem dX5_waysOf_12 : decode cX5_waysOf 12 = .ok (.iload_n 3, 1) := by decide +kernel
theorem dX5_waysOf_13 : decode cX5_waysOf 13 = .ok (.iconst (-1), 1) := by decide +kernel
theorem dX5_waysOf_14 : decode cX5_waysOf 14 = .ok (.if_icmp .ne 8, 3) := by decide +kernel
theorem dX5_waysOf_17 : decode cX5_waysOf 17 = .ok (.iload 4, 2) := by decide +kernel
theorem dX5_waysOf_19 : decode cX5_waysOf 19 = .ok (.goto 21, 3) := by decide +kernel
theorem dX5_waysOf_22 : decode cX5_waysOf 22 = .ok (.iload_n 3, 1) := by decide +kernel
theorem dX5_waysOf_23 : decode cX5_waysOf 23 = .ok (.aload_n 0, 1) := by decide +kernel
theorem dX5_waysOf_24 : decode cX5_waysOf 24 = .ok (.getfield 161, 3) := by decide +kernel
theorem dX5_waysOf_27 : decode cX5_waysOf 27 = .ok (.if_icmp .ge 12, 3) := by decide +kernel
theorem dX5_waysOf_30 : decode cX5_waysOf 30 = .ok (.aload_n 0, 1) := by decide +kernel
theorem dX5_waysOf_31 : decode cX5_waysOf 31 = .ok (.getfield 34, 3) := by decide +kernel
theorem dX5_waysOf_34 : decode cX5_waysOf 34 = .ok (.iload_n 3, 1) := by decide +kernel
theorem dX5_waysOf_35 : decode cX5_waysOf 35 = .ok (.iaload, 1) := by decide +kernel
theorem dX5_waysOf_36 : decode cX5_waysOf 36 = .ok (.goto 4, 3) := by decide +kernel
theorem dX5_waysOf_39 : decode cX5_waysOf 39 = .ok (.iconst (-1), 1) := by decide +kernel
theorem dX5_waysOf_40 : decode cX5_waysOf 40 = .ok (.ireturn, 1) := by decide +kernel
theorem dX5_ways_0 : decode cX5_ways 0 = .ok (.aload_n 0, 1) := by decide +kernel
theorem dX5_ways_1 : decode cX5_ways 1 = .ok (.invokevirtual 116, 3) := by decide +kernel
theorem dX5_ways_4 : decode cX5_ways 4 = .ok (.pop, 1) := by decide +kernel
theorem dX5_ways_5 : decode cX5_ways 5 = .ok (.iload_n 1, 1) := by decide +kernel
theorem dX5_ways_6 : decode cX5_ways 6 = .ok (.invokestatic 176, 3) := by decide +kernel
theorem dX5_ways_9 : decode cX5_ways 9 = .ok (.ifCond .eq 34, 3) := by decide +kernel
theorem dX5_ways_12 : decode cX5_ways 12 = .ok (.iload_n 2, 1) := by decide +kernel
theorem dX5_ways_13 : decode cX5_ways 13 = .ok (.invokestatic 129, 3) := by decide +kernel
theorem dX5_ways_16 : decode cX5_ways 16 = .ok (.ifCond .eq 27, 3) := by decide +kernel
theorem dX5_ways_19 : decode cX5_ways 19 = .ok (.iload_n 3, 1) := by decide +kernel
theorem dX5_ways_20 : decode cX5_ways 20 = .ok (.i2l, 1) := by decide +kernel
theorem dX5_ways_21 : decode cX5_ways 21 = .ok (.ldc2_w 179, 3) := by decide +kernel
theorem dX5_ways_24 : decode cX5_ways 24 = .ok (.ldc2_w 127, 3) := by decide +kernel
theorem dX5_ways_27 : decode cX5_ways 27 = .ok (.invokestatic 54, 3) := by decide +kernel
theorem dX5_ways_30 : decode cX5_ways 30 = .ok (.ifCond .eq 13, 3) := by decide +kernel
theorem dX5_ways_33 : decode cX5_ways 33 = .ok (.aload_n 0, 1) := by decide +kernel
theorem dX5_ways_34 : decode cX5_ways 34 = .ok (.iload_n 1, 1) := by decide +kernel
theorem dX5_ways_35 : decode cX5_ways 35 = .ok (.iload_n 2, 1) := by decide +kernel
theorem dX5_ways_36 : decode cX5_ways 36 = .ok (.iload_n 3, 1) := by decide +kernel
theorem dX5_ways_37 : decode cX5_ways 37 = .ok (.invokevirtual 181, 3) := by decide +kernel
theorem dX5_ways_40 : decode cX5_ways 40 = .ok (.goto 5, 3) := by decide +kernel
theorem dX5_ways_43 : decode cX5_ways 43 = .ok (.bipush (-2), 2) := by decide +kernel
theorem dX5_ways_45 : decode cX5_ways 45 = .ok (.ireturn, 1) := by decide +kernel
theorem dX5_draftOf_0 : decode cX5_draftOf 0 = .ok (.bipush 9, 2) := by decide +kernel
theorem dX5_draftOf_2 : decode cX5_draftOf 2 = .ok (.istore_n 2, 1) := by decide +kernel
theorem dX5_draftOf_3 : decode cX5_draftOf 3 = .ok (.iload_n 2, 1) := by decide +kernel
theorem dX5_draftOf_4 : decode cX5_draftOf 4 = .ok (.ifCond .le 24, 3) := by decide +kernel
theorem dX5_draftOf_7 : decode cX5_draftOf 7 = .ok (.aload_n 0, 1) := by decide +kernel
theorem dX5_draftOf_8 : decode cX5_draftOf 8 = .ok (.aload_n 0, 1) := by decide +kernel
theorem dX5_draftOf_9 : decode cX5_draftOf 9 = .ok (.iload_n 2, 1) := by decide +kernel
theorem dX5_draftOf_10 : decode cX5_draftOf 10 = .ok (.iload_n 1, 1) := by decide +kernel
theorem dX5_draftOf_11 : decode cX5_draftOf 11 = .ok (.invokevirtual 167, 3) := by decide +kernel
theorem dX5_draftOf_14 : decode cX5_draftOf 14 = .ok (.invokevirtual 170, 3) := by decide +kernel
theorem dX5_draftOf_17 : decode cX5_draftOf 17 = .ok (.ifCond .le 5, 3) := by decide +kernel
theorem dX5_draftOf_20 : decode cX5_draftOf 20 = .ok (.iload_n 2, 1) := by decide +kernel
theorem dX5_draftOf_21 : decode cX5_draftOf 21 = .ok (.ireturn, 1) := by decide +kernel
theorem dX5_draftOf_22 : decode cX5_draftOf 22 = .ok (.iinc 2 (-1), 3) := by decide +kernel
theorem dX5_draftOf_25 : decode cX5_draftOf 25 = .ok (.goto (-22), 3) := by decide +kernel
theorem dX5_draftOf_28 : decode cX5_draftOf 28 = .ok (.iconst (-1), 1) := by decide +kernel
theorem dX5_draftOf_29 : decode cX5_draftOf 29 = .ok (.ireturn, 1) := by decide +kernel
theorem dX5_draft_0 : decode cX5_draft 0 = .ok (.aload_n 0, 1) := by decide +kernel
theorem dX5_draft_1 : decode cX5_draft 1 = .ok (.invokevirtual 116, 3) := by decide +kernel
theorem dX5_draft_4 : decode cX5_draft 4 = .ok (.pop, 1) := by decide +kernel
theorem dX5_draft_5 : decode cX5_draft 5 = .ok (.iload_n 1, 1) := by decide +kernel
theorem dX5_draft_6 : decode cX5_draft 6 = .ok (.invokestatic 129, 3) := by decide +kernel
theorem dX5_draft_9 : decode cX5_draft 9 = .ok (.ifCond .eq 11, 3) := by decide +kernel
theorem dX5_draft_12 : decode cX5_draft 12 = .ok (.aload_n 0, 1) := by decide +kernel
theorem dX5_draft_13 : decode cX5_draft 13 = .ok (.iload_n 1, 1) := by decide +kernel
theorem dX5_draft_14 : decode cX5_draft 14 = .ok (.invokevirtual 184, 3) := by decide +kernel
theorem dX5_draft_17 : decode cX5_draft 17 = .ok (.goto 5, 3) := by decide +kernel
theorem dX5_draft_20 : decode cX5_draft 20 = .ok (.bipush (-2), 2) := by decide +kernel
theorem dX5_draft_22 : decode cX5_draft 22 = .ok (.ireturn, 1) := by decide +kernel
theorem dX5_waitsOf_0 : decode cX5_waitsOf 0 = .ok (.iload_n 2, 1) := by decide +kernel
theorem dX5_waitsOf_1 : decode cX5_waitsOf 1 = .ok (.istore_n 3, 1) := by decide +kernel
theorem dX5_waitsOf_2 : decode cX5_waitsOf 2 = .ok (.iload_n 3, 1) := by decide +kernel
theorem dX5_waitsOf_3 : decode cX5_waitsOf 3 = .ok (.bipush 100, 2) := by decide +kernel
theorem dX5_waitsOf_5 : decode cX5_waitsOf 5 = .ok (.if_icmp .ge 24, 3) := by decide +kernel
theorem dX5_waitsOf_8 : decode cX5_waitsOf 8 = .ok (.aload_n 0, 1) := by decide +kernel
theorem dX5_waitsOf_9 : decode cX5_waitsOf 9 = .ok (.aload_n 0, 1) := by decide +kernel
theorem dX5_waitsOf_10 : decode cX5_waitsOf 10 = .ok (.iload_n 1, 1) := by decide +kernel
theorem dX5_waitsOf_11 : decode cX5_waitsOf 11 = .ok (.iload_n 3, 1) := by decide +kernel
theorem dX5_waitsOf_12 : decode cX5_waitsOf 12 = .ok (.invokevirtual 167, 3) := by decide +kernel
theorem dX5_waitsOf_15 : decode cX5_waitsOf 15 = .ok (.invokevirtual 170, 3) := by decide +kernel
theorem dX5_waitsOf_18 : decode cX5_waitsOf 18 = .ok (.ifCond .le 5, 3) := by decide +kernel
theorem dX5_waitsOf_21 : decode cX5_waitsOf 21 = .ok (.iload_n 3, 1) := by decide +kernel
theorem dX5_waitsOf_22 : decode cX5_waitsOf 22 = .ok (.ireturn, 1) := by decide +kernel
theorem dX5_waitsOf_23 : decode cX5_waitsOf 23 = .ok (.iinc 3 1, 3) := by decide +kernel
theorem dX5_waitsOf_26 : decode cX5_waitsOf 26 = .ok (.goto (-24), 3) := by decide +kernel
theorem dX5_waitsOf_29 : decode cX5_waitsOf 29 = .ok (.iconst (-1), 1) := by decide +kernel
theorem dX5_waitsOf_30 : decode cX5_waitsOf 30 = .ok (.ireturn, 1) := by decide +kernel
theorem dX5_waits_0 : decode cX5_waits 0 = .ok (.aload_n 0, 1) := by decide +kernel
theorem dX5_waits_1 : decode cX5_waits 1 = .ok (.invokevirtual 116, 3) := by decide +kernel
theorem dX5_waits_4 : decode cX5_waits 4 = .ok (.pop, 1) := by decide +kernel
theorem dX5_waits_5 : decode cX5_waits 5 = .ok (.iload_n 1, 1) := by decide +kernel
theorem dX5_waits_6 : decode cX5_waits 6 = .ok (.invokestatic 176, 3) := by decide +kernel
theorem dX5_waits_9 : decode cX5_waits 9 = .ok (.ifCond .eq 19, 3) := by decide +kernel
theorem dX5_waits_12 : decode cX5_waits 12 = .ok (.iload_n 2, 1) := by decide +kernel
theorem dX5_waits_13 : decode cX5_waits 13 = .ok (.invokestatic 129, 3) := by decide +kernel
theorem dX5_waits_16 : decode cX5_waits 16 = .ok (.ifCond .eq 12, 3) := by decide +kernel
theorem dX5_waits_19 : decode cX5_waits 19 = .ok (.aload_n 0, 1) := by decide +kernel
theorem dX5_waits_20 : decode cX5_waits 20 = .ok (.iload_n 1, 1) := by decide +kernel
theorem dX5_waits_21 : decode cX5_waits 21 = .ok (.iload_n 2, 1) := by decide +kernel
theorem dX5_waits_22 : decode cX5_waits 22 = .ok (.invokevirtual 187, 3) := by decide +kernel
theorem dX5_waits_25 : decode cX5_waits 25 = .ok (.goto 5, 3) := by decide +kernel
theorem dX5_waits_28 : decode cX5_waits 28 = .ok (.bipush (-2), 2) := by decide +kernel
theorem dX5_waits_30 : decode cX5_waits 30 = .ok (.ireturn, 1) := by decide +kernel
theorem dX5_byMapOf_0 : decode cX5_byMapOf 0 = .ok (.aload_n 0, 1) := by decide +kernel
theorem dX5_byMapOf_1 : decode cX5_byMapOf 1 = .ok (.aload_n 0, 1) := by decide +kernel
theorem dX5_byMapOf_2 : decode cX5_byMapOf 2 = .ok (.iload_n 1, 1) := by decide +kernel
theorem dX5_byMapOf_3 : decode cX5_byMapOf 3 = .ok (.iload_n 2, 1) := by decide +kernel
theorem dX5_byMapOf_4 : decode cX5_byMapOf 4 = .ok (.invokevirtual 190, 3) := by decide +kernel
theorem dX5_byMapOf_7 : decode cX5_byMapOf 7 = .ok (.aload_n 0, 1) := by decide +kernel
theorem dX5_byMapOf_8 : decode cX5_byMapOf 8 = .ok (.iload_n 1, 1) := by decide +kernel
theorem dX5_byMapOf_9 : decode cX5_byMapOf 9 = .ok (.iload_n 2, 1) := by decide +kernel
theorem dX5_byMapOf_10 : decode cX5_byMapOf 10 = .ok (.invokevirtual 167, 3) := by decide +kernel
theorem dX5_byMapOf_13 : decode cX5_byMapOf 13 = .ok (.invokevirtual 193, 3) := by decide +kernel
theorem dX5_byMapOf_16 : decode cX5_byMapOf 16 = .ok (.ireturn, 1) := by decide +kernel
theorem dX5_byMap_0 : decode cX5_byMap 0 = .ok (.aload_n 0, 1) := by decide +kernel
theorem dX5_byMap_1 : decode cX5_byMap 1 = .ok (.invokevirtual 116, 3) := by decide +kernel
theorem dX5_byMap_4 : decode cX5_byMap 4 = .ok (.pop, 1) := by decide +kernel
theorem dX5_byMap_5 : decode cX5_byMap 5 = .ok (.iload_n 1, 1) := by decide +kernel
theorem dX5_byMap_6 : decode cX5_byMap 6 = .ok (.invokestatic 176, 3) := by decide +kernel
theorem dX5_byMap_9 : decode cX5_byMap 9 = .ok (.ifCond .eq 19, 3) := by decide +kernel
theorem dX5_byMap_12 : decode cX5_byMap 12 = .ok (.iload_n 2, 1) := by decide +kernel
theorem dX5_byMap_13 : decode cX5_byMap 13 = .ok (.invokestatic 129, 3) := by decide +kernel
theorem dX5_byMap_16 : decode cX5_byMap 16 = .ok (.ifCond .eq 12, 3) := by decide +kernel
theorem dX5_byMap_19 : decode cX5_byMap 19 = .ok (.aload_n 0, 1) := by decide +kernel
theorem dX5_byMap_20 : decode cX5_byMap 20 = .ok (.iload_n 1, 1) := by decide +kernel
theorem dX5_byMap_21 : decode cX5_byMap 21 = .ok (.iload_n 2, 1) := by decide +kernel
theorem dX5_byMap_22 : decode cX5_byMap 22 = .ok (.invokevirtual 196, 3) := by decide +kernel
theorem dX5_byMap_25 : decode cX5_byMap 25 = .ok (.goto 5, 3) := by decide +kernel
theorem dX5_byMap_28 : decode cX5_byMap 28 = .ok (.bipush (-2), 2) := by decide +kernel
theorem dX5_byMap_30 : decode cX5_byMap 30 = .ok (.ireturn, 1) := by decide +kernel
theorem dX5_byChangeOf_0 : decode cX5_byChangeOf 0 = .ok (.aload_n 0, 1) := by decide +kernel
theorem dX5_byChangeOf_1 : decode cX5_byChangeOf 1 = .ok (.aload_n 0, 1) := by decide +kernel
theorem dX5_byChangeOf_2 : decode cX5_byChangeOf 2 = .ok (.iload_n 1, 1) := by decide +kernel
theorem dX5_byChangeOf_3 : decode cX5_byChangeOf 3 = .ok (.iload_n 2, 1) := by decide +kernel
theorem dX5_byChangeOf_4 : decode cX5_byChangeOf 4 = .ok (.invokevirtual 199, 3) := by decide +kernel
theorem dX5_byChangeOf_7 : decode cX5_byChangeOf 7 = .ok (.aload_n 0, 1) := by decide +kernel
theorem dX5_byChangeOf_8 : decode cX5_byChangeOf 8 = .ok (.iload_n 1, 1) := by decide +kernel
theorem dX5_byChangeOf_9 : decode cX5_byChangeOf 9 = .ok (.iload_n 2, 1) := by decide +kernel
theorem dX5_byChangeOf_10 : decode cX5_byChangeOf 10 = .ok (.invokevirtual 167, 3) := by decide +kernel
theorem dX5_byChangeOf_13 : decode cX5_byChangeOf 13 = .ok (.invokevirtual 193, 3) := by decide +kernel
theorem dX5_byChangeOf_16 : decode cX5_byChangeOf 16 = .ok (.ireturn, 1) := by decide +kernel
theorem dX5_byChange_0 : decode cX5_byChange 0 = .ok (.aload_n 0, 1) := by decide +kernel
theorem dX5_byChange_1 : decode cX5_byChange 1 = .ok (.invokevirtual 116, 3) := by decide +kernel
theorem dX5_byChange_4 : decode cX5_byChange 4 = .ok (.pop, 1) := by decide +kernel
theorem dX5_byChange_5 : decode cX5_byChange 5 = .ok (.iload_n 1, 1) := by decide +kernel
theorem dX5_byChange_6 : decode cX5_byChange 6 = .ok (.invokestatic 176, 3) := by decide +kernel
theorem dX5_byChange_9 : decode cX5_byChange 9 = .ok (.ifCond .eq 19, 3) := by decide +kernel
theorem dX5_byChange_12 : decode cX5_byChange 12 = .ok (.iload_n 2, 1) := by decide +kernel
theorem dX5_byChange_13 : decode cX5_byChange 13 = .ok (.invokestatic 129, 3) := by decide +kernel
theorem dX5_byChange_16 : decode cX5_byChange 16 = .ok (.ifCond .eq 12, 3) := by decide +kernel
theorem dX5_byChange_19 : decode cX5_byChange 19 = .ok (.aload_n 0, 1) := by decide +kernel
theorem dX5_byChange_20 : decode cX5_byChange 20 = .ok (.iload_n 1, 1) := by decide +kernel
theorem dX5_byChange_21 : decode cX5_byChange 21 = .ok (.iload_n 2, 1) := by decide +kernel
theorem dX5_byChange_22 : decode cX5_byChange 22 = .ok (.invokevirtual 202, 3) := by decide +kernel
theorem dX5_byChange_25 : decode cX5_byChange 25 = .ok (.goto 5, 3) := by decide +kernel
theorem dX5_byChange_28 : decode cX5_byChange 28 = .ok (.bipush (-2), 2) := by decide +kernel
theorem dX5_byChange_30 : decode cX5_byChange 30 = .ok (.ireturn, 1) := by decide +kernel
theorem dX5_savedOf_0 : decode cX5_savedOf 0 = .ok (.iconst 0, 1) := by decide +kernel
theorem dX5_savedOf_1 : decode cX5_savedOf 1 = .ok (.istore_n 3, 1) := by decide +kernel
theorem dX5_savedOf_2 : decode cX5_savedOf 2 = .ok (.iconst 2, 1) := by decide +kernel
theorem dX5_savedOf_3 : decode cX5_savedOf 3 = .ok (.istore 4, 2) := by decide +kernel
theorem dX5_savedOf_5 : decode cX5_savedOf 5 = .ok (.iload 4, 2) := by decide +kernel
theorem dX5_savedOf_7 : decode cX5_savedOf 7 = .ok (.bipush 100, 2) := by decide +kernel
theorem dX5_savedOf_9 : decode cX5_savedOf 9 = .ok (.if_icmp .ge 74, 3) := by decide +kernel
theorem dX5_savedOf_12 : decode cX5_savedOf 12 = .ok (.aload_n 0, 1) := by decide +kernel
theorem dX5_savedOf_13 : decode cX5_savedOf 13 = .ok (.iload_n 1, 1) := by decide +kernel
theorem dX5_savedOf_14 : decode cX5_savedOf 14 = .ok (.iload 4, 2) := by decide +kernel
theorem dX5_savedOf_16 : decode cX5_savedOf 16 = .ok (.invokevirtual 196, 3) := by decide +kernel
theorem dX5_savedOf_19 : decode cX5_savedOf 19 = .ok (.iconst (-1), 1) := by decide +kernel
theorem dX5_savedOf_20 : decode cX5_savedOf 20 = .ok (.if_icmp .ne 7, 3) := by decide +kernel
theorem dX5_savedOf_23 : decode cX5_savedOf 23 = .ok (.iconst 1, 1) := by decide +kernel
theorem dX5_savedOf_24 : decode cX5_savedOf 24 = .ok (.goto 4, 3) := by decide +kernel
theorem dX5_savedOf_27 : decode cX5_savedOf 27 = .ok (.iconst 0, 1) := by decide +kernel
theorem dX5_savedOf_28 : decode cX5_savedOf 28 = .ok (.istore 5, 2) := by decide +kernel
theorem dX5_savedOf_30 : decode cX5_savedOf 30 = .ok (.aload_n 0, 1) := by decide +kernel
theorem dX5_savedOf_31 : decode cX5_savedOf 31 = .ok (.iload_n 1, 1) := by decide +kernel
theorem dX5_savedOf_32 : decode cX5_savedOf 32 = .ok (.iload 4, 2) := by decide +kernel
theorem dX5_savedOf_34 : decode cX5_savedOf 34 = .ok (.invokevirtual 202, 3) := by decide +kernel
theorem dX5_savedOf_37 : decode cX5_savedOf 37 = .ok (.iconst (-1), 1) := by decide +kernel
theorem dX5_savedOf_38 : decode cX5_savedOf 38 = .ok (.if_icmp .ne 7, 3) := by decide +kernel
theorem dX5_savedOf_41 : decode cX5_savedOf 41 = .ok (.iconst 1, 1) := by decide +kernel
theorem dX5_savedOf_42 : decode cX5_savedOf 42 = .ok (.goto 4, 3) := by decide +kernel
theorem dX5_savedOf_45 : decode cX5_savedOf 45 = .ok (.iconst 0, 1) := by decide +kernel
theorem dX5_savedOf_46 : decode cX5_savedOf 46 = .ok (.istore 6, 2) := by decide +kernel
theorem dX5_savedOf_48 : decode cX5_savedOf 48 = .ok (.iload_n 3, 1) := by decide +kernel
theorem dX5_savedOf_49 : decode cX5_savedOf 49 = .ok (.iload 5, 2) := by decide +kernel
theorem dX5_savedOf_51 : decode cX5_savedOf 51 = .ok (.iload 6, 2) := by decide +kernel
theorem dX5_savedOf_53 : decode cX5_savedOf 53 = .ok (.if_icmp .eq 21, 3) := by decide +kernel
theorem dX5_savedOf_56 : decode cX5_savedOf 56 = .ok (.iload 6, 2) := by decide +kernel
theorem dX5_savedOf_58 : decode cX5_savedOf 58 = .ok (.iload_n 2, 1) := by decide +kernel
theorem dX5_savedOf_59 : decode cX5_savedOf 59 = .ok (.ifCond .ne 7, 3) := by decide +kernel
theorem dX5_savedOf_62 : decode cX5_savedOf 62 = .ok (.iconst 1, 1) := by decide +kernel
theorem dX5_savedOf_63 : decode cX5_savedOf 63 = .ok (.goto 4, 3) := by decide +kernel
theorem dX5_savedOf_66 : decode cX5_savedOf 66 = .ok (.iconst 0, 1) := by decide +kernel
theorem dX5_savedOf_67 : decode cX5_savedOf 67 = .ok (.if_icmp .ne 7, 3) := by decide +kernel
theorem dX5_savedOf_70 : decode cX5_savedOf 70 = .ok (.iconst 1, 1) := by decide +kernel
theorem dX5_savedOf_71 : decode cX5_savedOf 71 = .ok (.goto 4, 3) := by decide +kernel
theorem dX5_savedOf_74 : decode cX5_savedOf 74 = .ok (.iconst 0, 1) := by decide +kernel
theorem dX5_savedOf_75 : decode cX5_savedOf 75 = .ok (.iadd, 1) := by decide +kernel
theorem dX5_savedOf_76 : decode cX5_savedOf 76 = .ok (.istore_n 3, 1) := by decide +kernel
theorem dX5_savedOf_77 : decode cX5_savedOf 77 = .ok (.iinc 4 1, 3) := by decide +kernel
theorem dX5_savedOf_80 : decode cX5_savedOf 80 = .ok (.goto (-75), 3) := by decide +kernel
theorem dX5_savedOf_83 : decode cX5_savedOf 83 = .ok (.iload_n 3, 1) := by decide +kernel
theorem dX5_savedOf_84 : decode cX5_savedOf 84 = .ok (.ireturn, 1) := by decide +kernel
theorem dX5_saved_0 : decode cX5_saved 0 = .ok (.aload_n 0, 1) := by decide +kernel
theorem dX5_saved_1 : decode cX5_saved 1 = .ok (.invokevirtual 116, 3) := by decide +kernel
theorem dX5_saved_4 : decode cX5_saved 4 = .ok (.pop, 1) := by decide +kernel
theorem dX5_saved_5 : decode cX5_saved 5 = .ok (.iload_n 1, 1) := by decide +kernel
theorem dX5_saved_6 : decode cX5_saved 6 = .ok (.invokestatic 176, 3) := by decide +kernel
theorem dX5_saved_9 : decode cX5_saved 9 = .ok (.ifCond .eq 19, 3) := by decide +kernel
theorem dX5_saved_12 : decode cX5_saved 12 = .ok (.iload_n 2, 1) := by decide +kernel
theorem dX5_saved_13 : decode cX5_saved 13 = .ok (.invokestatic 205, 3) := by decide +kernel
theorem dX5_saved_16 : decode cX5_saved 16 = .ok (.ifCond .eq 12, 3) := by decide +kernel
theorem dX5_saved_19 : decode cX5_saved 19 = .ok (.aload_n 0, 1) := by decide +kernel
theorem dX5_saved_20 : decode cX5_saved 20 = .ok (.iload_n 1, 1) := by decide +kernel
theorem dX5_saved_21 : decode cX5_saved 21 = .ok (.iload_n 2, 1) := by decide +kernel
theorem dX5_saved_22 : decode cX5_saved 22 = .ok (.invokevirtual 208, 3) := by decide +kernel
theorem dX5_saved_25 : decode cX5_saved 25 = .ok (.goto 5, 3) := by decide +kernel
theorem dX5_saved_28 : decode cX5_saved 28 = .ok (.bipush (-2), 2) := by decide +kernel
theorem dX5_saved_30 : decode cX5_saved 30 = .ok (.ireturn, 1) := by decide +kernel
theorem dX5_sounded_0 : decode cX5_sounded 0 = .ok (.iload_n 1, 1) := by decide +kernel
theorem dX5_sounded_1 : decode cX5_sounded 1 = .ok (.invokestatic 129, 3) := by decide +kernel
theorem dX5_sounded_4 : decode cX5_sounded 4 = .ok (.ifCond .eq 27, 3) := by decide +kernel
theorem dX5_sounded_7 : decode cX5_sounded 7 = .ok (.iload_n 2, 1) := by decide +kernel
theorem dX5_sounded_8 : decode cX5_sounded 8 = .ok (.i2l, 1) := by decide +kernel
theorem dX5_sounded_9 : decode cX5_sounded 9 = .ok (.lconst 0, 1) := by decide +kernel
theorem dX5_sounded_10 : decode cX5_sounded 10 = .ok (.ldc2_w 211, 3) := by decide +kernel
theorem dX5_sounded_13 : decode cX5_sounded 13 = .ok (.invokestatic 54, 3) := by decide +kernel
theorem dX5_sounded_16 : decode cX5_sounded 16 = .ok (.ifCond .eq 15, 3) := by decide +kernel
theorem dX5_sounded_19 : decode cX5_sounded 19 = .ok (.iload_n 3, 1) := by decide +kernel
theorem dX5_sounded_20 : decode cX5_sounded 20 = .ok (.i2l, 1) := by decide +kernel
theorem dX5_sounded_21 : decode cX5_sounded 21 = .ok (.lconst 0, 1) := by decide +kernel
theorem dX5_sounded_22 : decode cX5_sounded 22 = .ok (.ldc2_w 122, 3) := by decide +kernel
theorem dX5_sounded_25 : decode cX5_sounded 25 = .ok (.invokestatic 54, 3) := by decide +kernel
theorem dX5_sounded_28 : decode cX5_sounded 28 = .ok (.ifCond .ne 6, 3) := by decide +kernel
theorem dX5_sounded_31 : decode cX5_sounded 31 = .ok (.bipush (-2), 2) := by decide +kernel
theorem dX5_sounded_33 : decode cX5_sounded 33 = .ok (.ireturn, 1) := by decide +kernel
theorem dX5_sounded_34 : decode cX5_sounded 34 = .ok (.aload_n 0, 1) := by decide +kernel
theorem dX5_sounded_35 : decode cX5_sounded 35 = .ok (.getfield 213, 3) := by decide +kernel
theorem dX5_sounded_38 : decode cX5_sounded 38 = .ok (.bipush 12, 2) := by decide +kernel
theorem dX5_sounded_40 : decode cX5_sounded 40 = .ok (.if_icmp .ne 6, 3) := by decide +kernel
theorem dX5_sounded_43 : decode cX5_sounded 43 = .ok (.bipush (-4), 2) := by decide +kernel
theorem dX5_sounded_45 : decode cX5_sounded 45 = .ok (.ireturn, 1) := by decide +kernel
theorem dX5_sounded_46 : decode cX5_sounded 46 = .ok (.aload_n 0, 1) := by decide +kernel
theorem dX5_sounded_47 : decode cX5_sounded 47 = .ok (.getfield 37, 3) := by decide +kernel
theorem dX5_sounded_50 : decode cX5_sounded 50 = .ok (.iconst 3, 1) := by decide +kernel
theorem dX5_sounded_51 : decode cX5_sounded 51 = .ok (.aload_n 0, 1) := by decide +kernel
theorem dX5_sounded_52 : decode cX5_sounded 52 = .ok (.getfield 213, 3) := by decide +kernel
theorem dX5_sounded_55 : decode cX5_sounded 55 = .ok (.imul, 1) := by decide +kernel
theorem dX5_sounded_56 : decode cX5_sounded 56 = .ok (.iload_n 1, 1) := by decide +kernel
theorem dX5_sounded_57 : decode cX5_sounded 57 = .ok (.iastore, 1) := by decide +kernel
theorem dX5_sounded_58 : decode cX5_sounded 58 = .ok (.aload_n 0, 1) := by decide +kernel
theorem dX5_sounded_59 : decode cX5_sounded 59 = .ok (.getfield 37, 3) := by decide +kernel
theorem dX5_sounded_62 : decode cX5_sounded 62 = .ok (.iconst 3, 1) := by decide +kernel
theorem dX5_sounded_63 : decode cX5_sounded 63 = .ok (.aload_n 0, 1) := by decide +kernel
theorem dX5_sounded_64 : decode cX5_sounded 64 = .ok (.getfield 213, 3) := by decide +kernel
theorem dX5_sounded_67 : decode cX5_sounded 67 = .ok (.imul, 1) := by decide +kernel
theorem dX5_sounded_68 : decode cX5_sounded 68 = .ok (.iconst 1, 1) := by decide +kernel
theorem dX5_sounded_69 : decode cX5_sounded 69 = .ok (.iadd, 1) := by decide +kernel
theorem dX5_sounded_70 : decode cX5_sounded 70 = .ok (.iload_n 2, 1) := by decide +kernel
theorem dX5_sounded_71 : decode cX5_sounded 71 = .ok (.iastore, 1) := by decide +kernel
theorem dX5_sounded_72 : decode cX5_sounded 72 = .ok (.aload_n 0, 1) := by decide +kernel
theorem dX5_sounded_73 : decode cX5_sounded 73 = .ok (.getfield 37, 3) := by decide +kernel
theorem dX5_sounded_76 : decode cX5_sounded 76 = .ok (.iconst 3, 1) := by decide +kernel
theorem dX5_sounded_77 : decode cX5_sounded 77 = .ok (.aload_n 0, 1) := by decide +kernel
theorem dX5_sounded_78 : decode cX5_sounded 78 = .ok (.getfield 213, 3) := by decide +kernel
theorem dX5_sounded_81 : decode cX5_sounded 81 = .ok (.imul, 1) := by decide +kernel
theorem dX5_sounded_82 : decode cX5_sounded 82 = .ok (.iconst 2, 1) := by decide +kernel
theorem dX5_sounded_83 : decode cX5_sounded 83 = .ok (.iadd, 1) := by decide +kernel
theorem dX5_sounded_84 : decode cX5_sounded 84 = .ok (.iload_n 3, 1) := by decide +kernel
theorem dX5_sounded_85 : decode cX5_sounded 85 = .ok (.iastore, 1) := by decide +kernel
theorem dX5_sounded_86 : decode cX5_sounded 86 = .ok (.aload_n 0, 1) := by decide +kernel
theorem dX5_sounded_87 : decode cX5_sounded 87 = .ok (.dup, 1) := by decide +kernel
theorem dX5_sounded_88 : decode cX5_sounded 88 = .ok (.getfield 213, 3) := by decide +kernel
theorem dX5_sounded_91 : decode cX5_sounded 91 = .ok (.iconst 1, 1) := by decide +kernel
theorem dX5_sounded_92 : decode cX5_sounded 92 = .ok (.iadd, 1) := by decide +kernel
theorem dX5_sounded_93 : decode cX5_sounded 93 = .ok (.putfield 213, 3) := by decide +kernel
theorem dX5_sounded_96 : decode cX5_sounded 96 = .ok (.aload_n 0, 1) := by decide +kernel
theorem dX5_sounded_97 : decode cX5_sounded 97 = .ok (.getfield 213, 3) := by decide +kernel
theorem dX5_sounded_100 : decode cX5_sounded 100 = .ok (.ireturn, 1) := by decide +kernel
theorem dX5_forget_0 : decode cX5_forget 0 = .ok (.aload_n 0, 1) := by decide +kernel
theorem dX5_forget_1 : decode cX5_forget 1 = .ok (.getfield 213, 3) := by decide +kernel
theorem dX5_forget_4 : decode cX5_forget 4 = .ok (.istore_n 1, 1) := by decide +kernel
theorem dX5_forget_5 : decode cX5_forget 5 = .ok (.aload_n 0, 1) := by decide +kernel
theorem dX5_forget_6 : decode cX5_forget 6 = .ok (.iconst 0, 1) := by decide +kernel
theorem dX5_forget_7 : decode cX5_forget 7 = .ok (.putfield 213, 3) := by decide +kernel
theorem dX5_forget_10 : decode cX5_forget 10 = .ok (.iload_n 1, 1) := by decide +kernel
theorem dX5_forget_11 : decode cX5_forget 11 = .ok (.ireturn, 1) := by decide +kernel
theorem dX5_read_0 : decode cX5_read 0 = .ok (.iload_n 1, 1) := by decide +kernel
theorem dX5_read_1 : decode cX5_read 1 = .ok (.invokestatic 67, 3) := by decide +kernel
theorem dX5_read_4 : decode cX5_read 4 = .ok (.ifCond .ne 6, 3) := by decide +kernel
theorem dX5_read_7 : decode cX5_read 7 = .ok (.bipush (-2), 2) := by decide +kernel
theorem dX5_read_9 : decode cX5_read 9 = .ok (.ireturn, 1) := by decide +kernel
theorem dX5_read_10 : decode cX5_read 10 = .ok (.aload_n 0, 1) := by decide +kernel
theorem dX5_read_11 : decode cX5_read 11 = .ok (.getfield 7, 3) := by decide +kernel
theorem dX5_read_14 : decode cX5_read 14 = .ok (.iload_n 1, 1) := by decide +kernel
theorem dX5_read_15 : decode cX5_read 15 = .ok (.iaload, 1) := by decide +kernel
theorem dX5_read_16 : decode cX5_read 16 = .ok (.ifCond .ge 9, 3) := by decide +kernel
theorem dX5_read_19 : decode cX5_read 19 = .ok (.aload_n 0, 1) := by decide +kernel
theorem dX5_read_20 : decode cX5_read 20 = .ok (.iconst 1, 1) := by decide +kernel
theorem dX5_read_21 : decode cX5_read 21 = .ok (.invokevirtual 73, 3) := by decide +kernel
theorem dX5_read_24 : decode cX5_read 24 = .ok (.ireturn, 1) := by decide +kernel
theorem dX5_read_25 : decode cX5_read 25 = .ok (.iconst 0, 1) := by decide +kernel
theorem dX5_read_26 : decode cX5_read 26 = .ok (.istore_n 2, 1) := by decide +kernel
theorem dX5_read_27 : decode cX5_read 27 = .ok (.iconst 1, 1) := by decide +kernel
theorem dX5_read_28 : decode cX5_read 28 = .ok (.istore_n 3, 1) := by decide +kernel
theorem dX5_read_29 : decode cX5_read 29 = .ok (.iload_n 3, 1) := by decide +kernel
theorem dX5_read_30 : decode cX5_read 30 = .ok (.ifCond .eq 80, 3) := by decide +kernel
theorem dX5_read_33 : decode cX5_read 33 = .ok (.iconst 3, 1) := by decide +kernel
theorem dX5_read_34 : decode cX5_read 34 = .ok (.iload_n 2, 1) := by decide +kernel
theorem dX5_read_35 : decode cX5_read 35 = .ok (.imul, 1) := by decide +kernel
theorem dX5_read_36 : decode cX5_read 36 = .ok (.iconst 3, 1) := by decide +kernel
theorem dX5_read_37 : decode cX5_read 37 = .ok (.iadd, 1) := by decide +kernel
theorem dX5_read_38 : decode cX5_read 38 = .ok (.aload_n 0, 1) := by decide +kernel
theorem dX5_read_39 : decode cX5_read 39 = .ok (.getfield 13, 3) := by decide +kernel
theorem dX5_read_42 : decode cX5_read 42 = .ok (.iload_n 1, 1) := by decide +kernel
theorem dX5_read_43 : decode cX5_read 43 = .ok (.iaload, 1) := by decide +kernel
theorem dX5_read_44 : decode cX5_read 44 = .ok (.if_icmp .gt 66, 3) := by decide +kernel
theorem dX5_read_47 : decode cX5_read 47 = .ok (.bipush 60, 2) := by decide +kernel
theorem dX5_read_49 : decode cX5_read 49 = .ok (.iload_n 1, 1) := by decide +kernel
theorem dX5_read_50 : decode cX5_read 50 = .ok (.imul, 1) := by decide +kernel
theorem dX5_read_51 : decode cX5_read 51 = .ok (.iconst 3, 1) := by decide +kernel
theorem dX5_read_52 : decode cX5_read 52 = .ok (.iload_n 2, 1) := by decide +kernel
theorem dX5_read_53 : decode cX5_read 53 = .ok (.imul, 1) := by decide +kernel
theorem dX5_read_54 : decode cX5_read 54 = .ok (.iadd, 1) := by decide +kernel
theorem dX5_read_55 : decode cX5_read 55 = .ok (.istore 4, 2) := by decide +kernel
theorem dX5_read_57 : decode cX5_read 57 = .ok (.aload_n 0, 1) := by decide +kernel
theorem dX5_read_58 : decode cX5_read 58 = .ok (.aload_n 0, 1) := by decide +kernel
theorem dX5_read_59 : decode cX5_read 59 = .ok (.getfield 16, 3) := by decide +kernel
theorem dX5_read_62 : decode cX5_read 62 = .ok (.iload 4, 2) := by decide +kernel
theorem dX5_read_64 : decode cX5_read 64 = .ok (.iaload, 1) := by decide +kernel
theorem dX5_read_65 : decode cX5_read 65 = .ok (.aload_n 0, 1) := by decide +kernel
theorem dX5_read_66 : decode cX5_read 66 = .ok (.getfield 16, 3) := by decide +kernel
theorem dX5_read_69 : decode cX5_read 69 = .ok (.iload 4, 2) := by decide +kernel
theorem dX5_read_71 : decode cX5_read 71 = .ok (.iconst 1, 1) := by decide +kernel
theorem dX5_read_72 : decode cX5_read 72 = .ok (.iadd, 1) := by decide +kernel
theorem dX5_read_73 : decode cX5_read 73 = .ok (.iaload, 1) := by decide +kernel
theorem dX5_read_74 : decode cX5_read 74 = .ok (.aload_n 0, 1) := by decide +kernel
theorem dX5_read_75 : decode cX5_read 75 = .ok (.getfield 16, 3) := by decide +kernel
theorem dX5_read_78 : decode cX5_read 78 = .ok (.iload 4, 2) := by decide +kernel
theorem dX5_read_80 : decode cX5_read 80 = .ok (.iconst 2, 1) := by decide +kernel
theorem dX5_read_81 : decode cX5_read 81 = .ok (.iadd, 1) := by decide +kernel
theorem dX5_read_82 : decode cX5_read 82 = .ok (.iaload, 1) := by decide +kernel
theorem dX5_read_83 : decode cX5_read 83 = .ok (.invokevirtual 216, 3) := by decide +kernel
theorem dX5_read_86 : decode cX5_read 86 = .ok (.ifCond .lt 7, 3) := by decide +kernel
theorem dX5_read_89 : decode cX5_read 89 = .ok (.iconst 1, 1) := by decide +kernel
theorem dX5_read_90 : decode cX5_read 90 = .ok (.goto 4, 3) := by decide +kernel
theorem dX5_read_93 : decode cX5_read 93 = .ok (.iconst 0, 1) := by decide +kernel
theorem dX5_read_94 : decode cX5_read 94 = .ok (.istore_n 3, 1) := by decide +kernel
theorem dX5_read_95 : decode cX5_read 95 = .ok (.iload_n 2, 1) := by decide +kernel
theorem dX5_read_96 : decode cX5_read 96 = .ok (.iload_n 3, 1) := by decide +kernel
theorem dX5_read_97 : decode cX5_read 97 = .ok (.ifCond .eq 7, 3) := by decide +kernel
theorem dX5_read_100 : decode cX5_read 100 = .ok (.iconst 1, 1) := by decide +kernel
theorem dX5_read_101 : decode cX5_read 101 = .ok (.goto 4, 3) := by decide +kernel
theorem dX5_read_104 : decode cX5_read 104 = .ok (.iconst 0, 1) := by decide +kernel
theorem dX5_read_105 : decode cX5_read 105 = .ok (.iadd, 1) := by decide +kernel
theorem dX5_read_106 : decode cX5_read 106 = .ok (.istore_n 2, 1) := by decide +kernel
theorem dX5_read_107 : decode cX5_read 107 = .ok (.goto (-78), 3) := by decide +kernel
theorem dX5_read_110 : decode cX5_read 110 = .ok (.iload_n 2, 1) := by decide +kernel
theorem dX5_read_111 : decode cX5_read 111 = .ok (.ireturn, 1) := by decide +kernel
theorem dX5_fits_0 : decode cX5_fits 0 = .ok (.iconst 1, 1) := by decide +kernel
theorem dX5_fits_1 : decode cX5_fits 1 = .ok (.istore_n 3, 1) := by decide +kernel
theorem dX5_fits_2 : decode cX5_fits 2 = .ok (.iconst 0, 1) := by decide +kernel
theorem dX5_fits_3 : decode cX5_fits 3 = .ok (.istore 4, 2) := by decide +kernel
theorem dX5_fits_5 : decode cX5_fits 5 = .ok (.iload 4, 2) := by decide +kernel
theorem dX5_fits_7 : decode cX5_fits 7 = .ok (.aload_n 0, 1) := by decide +kernel
theorem dX5_fits_8 : decode cX5_fits 8 = .ok (.getfield 213, 3) := by decide +kernel
theorem dX5_fits_11 : decode cX5_fits 11 = .ok (.if_icmp .ge 84, 3) := by decide +kernel
theorem dX5_fits_14 : decode cX5_fits 14 = .ok (.iload_n 2, 1) := by decide +kernel
theorem dX5_fits_15 : decode cX5_fits 15 = .ok (.bipush 9, 2) := by decide +kernel
theorem dX5_fits_17 : decode cX5_fits 17 = .ok (.idiv, 1) := by decide +kernel
theorem dX5_fits_18 : decode cX5_fits 18 = .ok (.iload_n 2, 1) := by decide +kernel
theorem dX5_fits_19 : decode cX5_fits 19 = .ok (.bipush 9, 2) := by decide +kernel
theorem dX5_fits_21 : decode cX5_fits 21 = .ok (.irem, 1) := by decide +kernel
theorem dX5_fits_22 : decode cX5_fits 22 = .ok (.iconst 1, 1) := by decide +kernel
theorem dX5_fits_23 : decode cX5_fits 23 = .ok (.iadd, 1) := by decide +kernel
theorem dX5_fits_24 : decode cX5_fits 24 = .ok (.aload_n 0, 1) := by decide +kernel
theorem dX5_fits_25 : decode cX5_fits 25 = .ok (.getfield 25, 3) := by decide +kernel
theorem dX5_fits_28 : decode cX5_fits 28 = .ok (.iconst 5, 1) := by decide +kernel
theorem dX5_fits_29 : decode cX5_fits 29 = .ok (.iload_n 1, 1) := by decide +kernel
theorem dX5_fits_30 : decode cX5_fits 30 = .ok (.imul, 1) := by decide +kernel
theorem dX5_fits_31 : decode cX5_fits 31 = .ok (.iconst 2, 1) := by decide +kernel
theorem dX5_fits_32 : decode cX5_fits 32 = .ok (.iadd, 1) := by decide +kernel
theorem dX5_fits_33 : decode cX5_fits 33 = .ok (.iaload, 1) := by decide +kernel
theorem dX5_fits_34 : decode cX5_fits 34 = .ok (.aload_n 0, 1) := by decide +kernel
theorem dX5_fits_35 : decode cX5_fits 35 = .ok (.getfield 37, 3) := by decide +kernel
theorem dX5_fits_38 : decode cX5_fits 38 = .ok (.iconst 3, 1) := by decide +kernel
theorem dX5_fits_39 : decode cX5_fits 39 = .ok (.iload 4, 2) := by decide +kernel
theorem dX5_fits_41 : decode cX5_fits 41 = .ok (.imul, 1) := by decide +kernel
theorem dX5_fits_42 : decode cX5_fits 42 = .ok (.iaload, 1) := by decide +kernel
theorem dX5_fits_43 : decode cX5_fits 43 = .ok (.invokestatic 140, 3) := by decide +kernel
theorem dX5_fits_46 : decode cX5_fits 46 = .ok (.istore 5, 2) := by decide +kernel
theorem dX5_fits_48 : decode cX5_fits 48 = .ok (.iload_n 3, 1) := by decide +kernel
theorem dX5_fits_49 : decode cX5_fits 49 = .ok (.ifCond .eq 38, 3) := by decide +kernel
theorem dX5_fits_52 : decode cX5_fits 52 = .ok (.aload_n 0, 1) := by decide +kernel
theorem dX5_fits_53 : decode cX5_fits 53 = .ok (.getfield 37, 3) := by decide +kernel
theorem dX5_fits_56 : decode cX5_fits 56 = .ok (.iconst 3, 1) := by decide +kernel
theorem dX5_fits_57 : decode cX5_fits 57 = .ok (.iload 4, 2) := by decide +kernel
theorem dX5_fits_59 : decode cX5_fits 59 = .ok (.imul, 1) := by decide +kernel
theorem dX5_fits_60 : decode cX5_fits 60 = .ok (.iconst 1, 1) := by decide +kernel
theorem dX5_fits_61 : decode cX5_fits 61 = .ok (.iadd, 1) := by decide +kernel
theorem dX5_fits_62 : decode cX5_fits 62 = .ok (.iaload, 1) := by decide +kernel
theorem dX5_fits_63 : decode cX5_fits 63 = .ok (.iload_n 1, 1) := by decide +kernel
theorem dX5_fits_64 : decode cX5_fits 64 = .ok (.if_icmp .ne 19, 3) := by decide +kernel
theorem dX5_fits_67 : decode cX5_fits 67 = .ok (.iload 5, 2) := by decide +kernel
theorem dX5_fits_69 : decode cX5_fits 69 = .ok (.aload_n 0, 1) := by decide +kernel
theorem dX5_fits_70 : decode cX5_fits 70 = .ok (.getfield 37, 3) := by decide +kernel
theorem dX5_fits_73 : decode cX5_fits 73 = .ok (.iconst 3, 1) := by decide +kernel
theorem dX5_fits_74 : decode cX5_fits 74 = .ok (.iload 4, 2) := by decide +kernel
theorem dX5_fits_76 : decode cX5_fits 76 = .ok (.imul, 1) := by decide +kernel
theorem dX5_fits_77 : decode cX5_fits 77 = .ok (.iconst 2, 1) := by decide +kernel
theorem dX5_fits_78 : decode cX5_fits 78 = .ok (.iadd, 1) := by decide +kernel
theorem dX5_fits_79 : decode cX5_fits 79 = .ok (.iaload, 1) := by decide +kernel
theorem dX5_fits_80 : decode cX5_fits 80 = .ok (.if_icmp .ne 7, 3) := by decide +kernel
theorem dX5_fits_83 : decode cX5_fits 83 = .ok (.iconst 1, 1) := by decide +kernel
theorem dX5_fits_84 : decode cX5_fits 84 = .ok (.goto 4, 3) := by decide +kernel
theorem dX5_fits_87 : decode cX5_fits 87 = .ok (.iconst 0, 1) := by decide +kernel
theorem dX5_fits_88 : decode cX5_fits 88 = .ok (.istore_n 3, 1) := by decide +kernel
theorem dX5_fits_89 : decode cX5_fits 89 = .ok (.iinc 4 1, 3) := by decide +kernel
theorem dX5_fits_92 : decode cX5_fits 92 = .ok (.goto (-87), 3) := by decide +kernel
theorem dX5_fits_95 : decode cX5_fits 95 = .ok (.iload_n 3, 1) := by decide +kernel
theorem dX5_fits_96 : decode cX5_fits 96 = .ok (.ireturn, 1) := by decide +kernel
theorem dX5_lawsOf_0 : decode cX5_lawsOf 0 = .ok (.iconst 0, 1) := by decide +kernel
theorem dX5_lawsOf_1 : decode cX5_lawsOf 1 = .ok (.istore_n 3, 1) := by decide +kernel
theorem dX5_lawsOf_2 : decode cX5_lawsOf 2 = .ok (.iconst 0, 1) := by decide +kernel
theorem dX5_lawsOf_3 : decode cX5_lawsOf 3 = .ok (.istore 4, 2) := by decide +kernel
theorem dX5_lawsOf_5 : decode cX5_lawsOf 5 = .ok (.iload 4, 2) := by decide +kernel
theorem dX5_lawsOf_7 : decode cX5_lawsOf 7 = .ok (.bipush 36, 2) := by decide +kernel
theorem dX5_lawsOf_9 : decode cX5_lawsOf 9 = .ok (.if_icmp .ge 44, 3) := by decide +kernel
theorem dX5_lawsOf_12 : decode cX5_lawsOf 12 = .ok (.aload_n 0, 1) := by decide +kernel
theorem dX5_lawsOf_13 : decode cX5_lawsOf 13 = .ok (.iload_n 1, 1) := by decide +kernel
theorem dX5_lawsOf_14 : decode cX5_lawsOf 14 = .ok (.iload 4, 2) := by decide +kernel
theorem dX5_lawsOf_16 : decode cX5_lawsOf 16 = .ok (.invokevirtual 219, 3) := by decide +kernel
theorem dX5_lawsOf_19 : decode cX5_lawsOf 19 = .ok (.ifCond .eq 28, 3) := by decide +kernel
theorem dX5_lawsOf_22 : decode cX5_lawsOf 22 = .ok (.iload_n 3, 1) := by decide +kernel
theorem dX5_lawsOf_23 : decode cX5_lawsOf 23 = .ok (.iload_n 2, 1) := by decide +kernel
theorem dX5_lawsOf_24 : decode cX5_lawsOf 24 = .ok (.if_icmp .ne 20, 3) := by decide +kernel
theorem dX5_lawsOf_27 : decode cX5_lawsOf 27 = .ok (.bipush 10, 2) := by decide +kernel
theorem dX5_lawsOf_29 : decode cX5_lawsOf 29 = .ok (.iload 4, 2) := by decide +kernel
theorem dX5_lawsOf_31 : decode cX5_lawsOf 31 = .ok (.bipush 9, 2) := by decide +kernel
theorem dX5_lawsOf_33 : decode cX5_lawsOf 33 = .ok (.idiv, 1) := by decide +kernel
theorem dX5_lawsOf_34 : decode cX5_lawsOf 34 = .ok (.imul, 1) := by decide +kernel
theorem dX5_lawsOf_35 : decode cX5_lawsOf 35 = .ok (.iload 4, 2) := by decide +kernel
theorem dX5_lawsOf_37 : decode cX5_lawsOf 37 = .ok (.bipush 9, 2) := by decide +kernel
theorem dX5_lawsOf_39 : decode cX5_lawsOf 39 = .ok (.irem, 1) := by decide +kernel
theorem dX5_lawsOf_40 : decode cX5_lawsOf 40 = .ok (.iadd, 1) := by decide +kernel
theorem dX5_lawsOf_41 : decode cX5_lawsOf 41 = .ok (.iconst 1, 1) := by decide +kernel
theorem dX5_lawsOf_42 : decode cX5_lawsOf 42 = .ok (.iadd, 1) := by decide +kernel
theorem dX5_lawsOf_43 : decode cX5_lawsOf 43 = .ok (.ireturn, 1) := by decide +kernel
theorem dX5_lawsOf_44 : decode cX5_lawsOf 44 = .ok (.iinc 3 1, 3) := by decide +kernel
theorem dX5_lawsOf_47 : decode cX5_lawsOf 47 = .ok (.iinc 4 1, 3) := by decide +kernel
theorem dX5_lawsOf_50 : decode cX5_lawsOf 50 = .ok (.goto (-45), 3) := by decide +kernel
theorem dX5_lawsOf_53 : decode cX5_lawsOf 53 = .ok (.iload_n 2, 1) := by decide +kernel
theorem dX5_lawsOf_54 : decode cX5_lawsOf 54 = .ok (.iconst (-1), 1) := by decide +kernel
theorem dX5_lawsOf_55 : decode cX5_lawsOf 55 = .ok (.if_icmp .ne 7, 3) := by decide +kernel
theorem dX5_lawsOf_58 : decode cX5_lawsOf 58 = .ok (.iload_n 3, 1) := by decide +kernel
theorem dX5_lawsOf_59 : decode cX5_lawsOf 59 = .ok (.goto 4, 3) := by decide +kernel
theorem dX5_lawsOf_62 : decode cX5_lawsOf 62 = .ok (.iconst (-1), 1) := by decide +kernel
theorem dX5_lawsOf_63 : decode cX5_lawsOf 63 = .ok (.ireturn, 1) := by decide +kernel
theorem dX5_laws_0 : decode cX5_laws 0 = .ok (.aload_n 0, 1) := by decide +kernel
theorem dX5_laws_1 : decode cX5_laws 1 = .ok (.invokevirtual 116, 3) := by decide +kernel
theorem dX5_laws_4 : decode cX5_laws 4 = .ok (.pop, 1) := by decide +kernel
theorem dX5_laws_5 : decode cX5_laws 5 = .ok (.aload_n 0, 1) := by decide +kernel
theorem dX5_laws_6 : decode cX5_laws 6 = .ok (.iload_n 1, 1) := by decide +kernel
theorem dX5_laws_7 : decode cX5_laws 7 = .ok (.invokevirtual 124, 3) := by decide +kernel
theorem dX5_laws_10 : decode cX5_laws 10 = .ok (.ifCond .eq 26, 3) := by decide +kernel
theorem dX5_laws_13 : decode cX5_laws 13 = .ok (.iload_n 2, 1) := by decide +kernel
theorem dX5_laws_14 : decode cX5_laws 14 = .ok (.i2l, 1) := by decide +kernel
theorem dX5_laws_15 : decode cX5_laws 15 = .ok (.ldc2_w 179, 3) := by decide +kernel
theorem dX5_laws_18 : decode cX5_laws 18 = .ok (.ldc2_w 222, 3) := by decide +kernel
theorem dX5_laws_21 : decode cX5_laws 21 = .ok (.invokestatic 54, 3) := by decide +kernel
theorem dX5_laws_24 : decode cX5_laws 24 = .ok (.ifCond .eq 12, 3) := by decide +kernel
theorem dX5_laws_27 : decode cX5_laws 27 = .ok (.aload_n 0, 1) := by decide +kernel
theorem dX5_laws_28 : decode cX5_laws 28 = .ok (.iload_n 1, 1) := by decide +kernel
theorem dX5_laws_29 : decode cX5_laws 29 = .ok (.iload_n 2, 1) := by decide +kernel
theorem dX5_laws_30 : decode cX5_laws 30 = .ok (.invokevirtual 224, 3) := by decide +kernel
theorem dX5_laws_33 : decode cX5_laws 33 = .ok (.goto 5, 3) := by decide +kernel
theorem dX5_laws_36 : decode cX5_laws 36 = .ok (.bipush (-2), 2) := by decide +kernel
theorem dX5_laws_38 : decode cX5_laws 38 = .ok (.ireturn, 1) := by decide +kernel
theorem dX5_nextOf_0 : decode cX5_nextOf 0 = .ok (.iconst 0, 1) := by decide +kernel
theorem dX5_nextOf_1 : decode cX5_nextOf 1 = .ok (.istore_n 3, 1) := by decide +kernel
theorem dX5_nextOf_2 : decode cX5_nextOf 2 = .ok (.iconst 0, 1) := by decide +kernel
theorem dX5_nextOf_3 : decode cX5_nextOf 3 = .ok (.istore 4, 2) := by decide +kernel
theorem dX5_nextOf_5 : decode cX5_nextOf 5 = .ok (.iload 4, 2) := by decide +kernel
theorem dX5_nextOf_7 : decode cX5_nextOf 7 = .ok (.bipush 36, 2) := by decide +kernel
theorem dX5_nextOf_9 : decode cX5_nextOf 9 = .ok (.if_icmp .ge 54, 3) := by decide +kernel
theorem dX5_nextOf_12 : decode cX5_nextOf 12 = .ok (.iload_n 3, 1) := by decide +kernel
theorem dX5_nextOf_13 : decode cX5_nextOf 13 = .ok (.aload_n 0, 1) := by decide +kernel
theorem dX5_nextOf_14 : decode cX5_nextOf 14 = .ok (.iload_n 1, 1) := by decide +kernel
theorem dX5_nextOf_15 : decode cX5_nextOf 15 = .ok (.iload 4, 2) := by decide +kernel
theorem dX5_nextOf_17 : decode cX5_nextOf 17 = .ok (.invokevirtual 219, 3) := by decide +kernel
theorem dX5_nextOf_20 : decode cX5_nextOf 20 = .ok (.ifCond .eq 34, 3) := by decide +kernel
theorem dX5_nextOf_23 : decode cX5_nextOf 23 = .ok (.iconst 1, 1) := by decide +kernel
theorem dX5_nextOf_24 : decode cX5_nextOf 24 = .ok (.iload 4, 2) := by decide +kernel
theorem dX5_nextOf_26 : decode cX5_nextOf 26 = .ok (.bipush 9, 2) := by decide +kernel
theorem dX5_nextOf_28 : decode cX5_nextOf 28 = .ok (.idiv, 1) := by decide +kernel
theorem dX5_nextOf_29 : decode cX5_nextOf 29 = .ok (.iload 4, 2) := by decide +kernel
theorem dX5_nextOf_31 : decode cX5_nextOf 31 = .ok (.bipush 9, 2) := by decide +kernel
theorem dX5_nextOf_33 : decode cX5_nextOf 33 = .ok (.irem, 1) := by decide +kernel
theorem dX5_nextOf_34 : decode cX5_nextOf 34 = .ok (.iconst 1, 1) := by decide +kernel
theorem dX5_nextOf_35 : decode cX5_nextOf 35 = .ok (.iadd, 1) := by decide +kernel
theorem dX5_nextOf_36 : decode cX5_nextOf 36 = .ok (.aload_n 0, 1) := by decide +kernel
theorem dX5_nextOf_37 : decode cX5_nextOf 37 = .ok (.getfield 25, 3) := by decide +kernel
theorem dX5_nextOf_40 : decode cX5_nextOf 40 = .ok (.iconst 5, 1) := by decide +kernel
theorem dX5_nextOf_41 : decode cX5_nextOf 41 = .ok (.iload_n 1, 1) := by decide +kernel
theorem dX5_nextOf_42 : decode cX5_nextOf 42 = .ok (.imul, 1) := by decide +kernel
theorem dX5_nextOf_43 : decode cX5_nextOf 43 = .ok (.iconst 2, 1) := by decide +kernel
theorem dX5_nextOf_44 : decode cX5_nextOf 44 = .ok (.iadd, 1) := by decide +kernel
theorem dX5_nextOf_45 : decode cX5_nextOf 45 = .ok (.iaload, 1) := by decide +kernel
theorem dX5_nextOf_46 : decode cX5_nextOf 46 = .ok (.iload_n 2, 1) := by decide +kernel
theorem dX5_nextOf_47 : decode cX5_nextOf 47 = .ok (.invokestatic 140, 3) := by decide +kernel
theorem dX5_nextOf_50 : decode cX5_nextOf 50 = .ok (.ishl, 1) := by decide +kernel
theorem dX5_nextOf_51 : decode cX5_nextOf 51 = .ok (.goto 4, 3) := by decide +kernel
theorem dX5_nextOf_54 : decode cX5_nextOf 54 = .ok (.iconst 0, 1) := by decide +kernel
theorem dX5_nextOf_55 : decode cX5_nextOf 55 = .ok (.ior, 1) := by decide +kernel
theorem dX5_nextOf_56 : decode cX5_nextOf 56 = .ok (.istore_n 3, 1) := by decide +kernel
theorem dX5_nextOf_57 : decode cX5_nextOf 57 = .ok (.iinc 4 1, 3) := by decide +kernel
theorem dX5_nextOf_60 : decode cX5_nextOf 60 = .ok (.goto (-55), 3) := by decide +kernel
theorem dX5_nextOf_63 : decode cX5_nextOf 63 = .ok (.iload_n 3, 1) := by decide +kernel
theorem dX5_nextOf_64 : decode cX5_nextOf 64 = .ok (.ireturn, 1) := by decide +kernel
theorem dX5_next_0 : decode cX5_next 0 = .ok (.aload_n 0, 1) := by decide +kernel
theorem dX5_next_1 : decode cX5_next 1 = .ok (.invokevirtual 116, 3) := by decide +kernel
theorem dX5_next_4 : decode cX5_next 4 = .ok (.pop, 1) := by decide +kernel
theorem dX5_next_5 : decode cX5_next 5 = .ok (.aload_n 0, 1) := by decide +kernel
theorem dX5_next_6 : decode cX5_next 6 = .ok (.iload_n 1, 1) := by decide +kernel
theorem dX5_next_7 : decode cX5_next 7 = .ok (.invokevirtual 124, 3) := by decide +kernel
theorem dX5_next_10 : decode cX5_next 10 = .ok (.ifCond .eq 19, 3) := by decide +kernel
theorem dX5_next_13 : decode cX5_next 13 = .ok (.iload_n 2, 1) := by decide +kernel
theorem dX5_next_14 : decode cX5_next 14 = .ok (.invokestatic 129, 3) := by decide +kernel
theorem dX5_next_17 : decode cX5_next 17 = .ok (.ifCond .eq 12, 3) := by decide +kernel
theorem dX5_next_20 : decode cX5_next 20 = .ok (.aload_n 0, 1) := by decide +kernel
theorem dX5_next_21 : decode cX5_next 21 = .ok (.iload_n 1, 1) := by decide +kernel
theorem dX5_next_22 : decode cX5_next 22 = .ok (.iload_n 2, 1) := by decide +kernel
theorem dX5_next_23 : decode cX5_next 23 = .ok (.invokevirtual 227, 3) := by decide +kernel
theorem dX5_next_26 : decode cX5_next 26 = .ok (.goto 5, 3) := by decide +kernel
theorem dX5_next_29 : decode cX5_next 29 = .ok (.bipush (-2), 2) := by decide +kernel
theorem dX5_next_31 : decode cX5_next 31 = .ok (.ireturn, 1) := by decide +kernel
theorem dX5_mostAlike_0 : decode cX5_mostAlike 0 = .ok (.iconst 0, 1) := by decide +kernel
theorem dX5_mostAlike_1 : decode cX5_mostAlike 1 = .ok (.istore_n 3, 1) := by decide +kernel
theorem dX5_mostAlike_2 : decode cX5_mostAlike 2 = .ok (.iload_n 3, 1) := by decide +kernel
theorem dX5_mostAlike_3 : decode cX5_mostAlike 3 = .ok (.bipush 10, 2) := by decide +kernel
theorem dX5_mostAlike_5 : decode cX5_mostAlike 5 = .ok (.if_icmp .ge 16, 3) := by decide +kernel
theorem dX5_mostAlike_8 : decode cX5_mostAlike 8 = .ok (.aload_n 0, 1) := by decide +kernel
theorem dX5_mostAlike_9 : decode cX5_mostAlike 9 = .ok (.getfield 44, 3) := by decide +kernel
theorem dX5_mostAlike_12 : decode cX5_mostAlike 12 = .ok (.iload_n 3, 1) := by decide +kernel
theorem dX5_mostAlike_13 : decode cX5_mostAlike 13 = .ok (.iconst 0, 1) := by decide +kernel
theorem dX5_mostAlike_14 : decode cX5_mostAlike 14 = .ok (.iastore, 1) := by decide +kernel
theorem dX5_mostAlike_15 : decode cX5_mostAlike 15 = .ok (.iinc 3 1, 3) := by decide +kernel
theorem dX5_mostAlike_18 : decode cX5_mostAlike 18 = .ok (.goto (-16), 3) := by decide +kernel
theorem dX5_mostAlike_21 : decode cX5_mostAlike 21 = .ok (.iconst 0, 1) := by decide +kernel
theorem dX5_mostAlike_22 : decode cX5_mostAlike 22 = .ok (.istore_n 3, 1) := by decide +kernel
theorem dX5_mostAlike_23 : decode cX5_mostAlike 23 = .ok (.iconst 0, 1) := by decide +kernel
theorem dX5_mostAlike_24 : decode cX5_mostAlike 24 = .ok (.istore 4, 2) := by decide +kernel
theorem dX5_mostAlike_26 : decode cX5_mostAlike 26 = .ok (.iload 4, 2) := by decide +kernel
theorem dX5_mostAlike_28 : decode cX5_mostAlike 28 = .ok (.bipush 36, 2) := by decide +kernel
theorem dX5_mostAlike_30 : decode cX5_mostAlike 30 = .ok (.if_icmp .ge 81, 3) := by decide +kernel
theorem dX5_mostAlike_33 : decode cX5_mostAlike 33 = .ok (.aload_n 0, 1) := by decide +kernel
theorem dX5_mostAlike_34 : decode cX5_mostAlike 34 = .ok (.getfield 40, 3) := by decide +kernel
theorem dX5_mostAlike_37 : decode cX5_mostAlike 37 = .ok (.iload 4, 2) := by decide +kernel
theorem dX5_mostAlike_39 : decode cX5_mostAlike 39 = .ok (.baload, 1) := by decide +kernel
theorem dX5_mostAlike_40 : decode cX5_mostAlike 40 = .ok (.ifCond .eq 65, 3) := by decide +kernel
theorem dX5_mostAlike_43 : decode cX5_mostAlike 43 = .ok (.iload 4, 2) := by decide +kernel
theorem dX5_mostAlike_45 : decode cX5_mostAlike 45 = .ok (.bipush 9, 2) := by decide +kernel
theorem dX5_mostAlike_47 : decode cX5_mostAlike 47 = .ok (.idiv, 1) := by decide +kernel
theorem dX5_mostAlike_48 : decode cX5_mostAlike 48 = .ok (.iload 4, 2) := by decide +kernel
theorem dX5_mostAlike_50 : decode cX5_mostAlike 50 = .ok (.bipush 9, 2) := by decide +kernel
theorem dX5_mostAlike_52 : decode cX5_mostAlike 52 = .ok (.irem, 1) := by decide +kernel
theorem dX5_mostAlike_53 : decode cX5_mostAlike 53 = .ok (.iconst 1, 1) := by decide +kernel
theorem dX5_mostAlike_54 : decode cX5_mostAlike 54 = .ok (.iadd, 1) := by decide +kernel
theorem dX5_mostAlike_55 : decode cX5_mostAlike 55 = .ok (.aload_n 0, 1) := by decide +kernel
theorem dX5_mostAlike_56 : decode cX5_mostAlike 56 = .ok (.getfield 25, 3) := by decide +kernel
theorem dX5_mostAlike_59 : decode cX5_mostAlike 59 = .ok (.iconst 5, 1) := by decide +kernel
theorem dX5_mostAlike_60 : decode cX5_mostAlike 60 = .ok (.iload_n 1, 1) := by decide +kernel
theorem dX5_mostAlike_61 : decode cX5_mostAlike 61 = .ok (.imul, 1) := by decide +kernel
theorem dX5_mostAlike_62 : decode cX5_mostAlike 62 = .ok (.iconst 2, 1) := by decide +kernel
theorem dX5_mostAlike_63 : decode cX5_mostAlike 63 = .ok (.iadd, 1) := by decide +kernel
theorem dX5_mostAlike_64 : decode cX5_mostAlike 64 = .ok (.iaload, 1) := by decide +kernel
theorem dX5_mostAlike_65 : decode cX5_mostAlike 65 = .ok (.iload_n 2, 1) := by decide +kernel
theorem dX5_mostAlike_66 : decode cX5_mostAlike 66 = .ok (.invokestatic 140, 3) := by decide +kernel
theorem dX5_mostAlike_69 : decode cX5_mostAlike 69 = .ok (.istore 5, 2) := by decide +kernel
theorem dX5_mostAlike_71 : decode cX5_mostAlike 71 = .ok (.aload_n 0, 1) := by decide +kernel
theorem dX5_mostAlike_72 : decode cX5_mostAlike 72 = .ok (.getfield 44, 3) := by decide +kernel
theorem dX5_mostAlike_75 : decode cX5_mostAlike 75 = .ok (.iload 5, 2) := by decide +kernel
theorem dX5_mostAlike_77 : decode cX5_mostAlike 77 = .ok (.dup2, 1) := by decide +kernel
theorem dX5_mostAlike_78 : decode cX5_mostAlike 78 = .ok (.iaload, 1) := by decide +kernel
theorem dX5_mostAlike_79 : decode cX5_mostAlike 79 = .ok (.iconst 1, 1) := by decide +kernel
theorem dX5_mostAlike_80 : decode cX5_mostAlike 80 = .ok (.iadd, 1) := by decide +kernel
theorem dX5_mostAlike_81 : decode cX5_mostAlike 81 = .ok (.iastore, 1) := by decide +kernel
theorem dX5_mostAlike_82 : decode cX5_mostAlike 82 = .ok (.aload_n 0, 1) := by decide +kernel
theorem dX5_mostAlike_83 : decode cX5_mostAlike 83 = .ok (.getfield 44, 3) := by decide +kernel
theorem dX5_mostAlike_86 : decode cX5_mostAlike 86 = .ok (.iload 5, 2) := by decide +kernel
theorem dX5_mostAlike_88 : decode cX5_mostAlike 88 = .ok (.iaload, 1) := by decide +kernel
theorem dX5_mostAlike_89 : decode cX5_mostAlike 89 = .ok (.iload_n 3, 1) := by decide +kernel
theorem dX5_mostAlike_90 : decode cX5_mostAlike 90 = .ok (.if_icmp .le 13, 3) := by decide +kernel
theorem dX5_mostAlike_93 : decode cX5_mostAlike 93 = .ok (.aload_n 0, 1) := by decide +kernel
theorem dX5_mostAlike_94 : decode cX5_mostAlike 94 = .ok (.getfield 44, 3) := by decide +kernel
theorem dX5_mostAlike_97 : decode cX5_mostAlike 97 = .ok (.iload 5, 2) := by decide +kernel
theorem dX5_mostAlike_99 : decode cX5_mostAlike 99 = .ok (.iaload, 1) := by decide +kernel
theorem dX5_mostAlike_100 : decode cX5_mostAlike 100 = .ok (.goto 4, 3) := by decide +kernel
theorem dX5_mostAlike_103 : decode cX5_mostAlike 103 = .ok (.iload_n 3, 1) := by decide +kernel
theorem dX5_mostAlike_104 : decode cX5_mostAlike 104 = .ok (.istore_n 3, 1) := by decide +kernel
theorem dX5_mostAlike_105 : decode cX5_mostAlike 105 = .ok (.iinc 4 1, 3) := by decide +kernel
theorem dX5_mostAlike_108 : decode cX5_mostAlike 108 = .ok (.goto (-82), 3) := by decide +kernel
theorem dX5_mostAlike_111 : decode cX5_mostAlike 111 = .ok (.iload_n 3, 1) := by decide +kernel
theorem dX5_mostAlike_112 : decode cX5_mostAlike 112 = .ok (.ireturn, 1) := by decide +kernel
theorem dX5_tellsNight_0 : decode cX5_tellsNight 0 = .ok (.iconst 0, 1) := by decide +kernel
theorem dX5_tellsNight_1 : decode cX5_tellsNight 1 = .ok (.istore_n 3, 1) := by decide +kernel
theorem dX5_tellsNight_2 : decode cX5_tellsNight 2 = .ok (.iload_n 3, 1) := by decide +kernel
theorem dX5_tellsNight_3 : decode cX5_tellsNight 3 = .ok (.bipush 36, 2) := by decide +kernel
theorem dX5_tellsNight_5 : decode cX5_tellsNight 5 = .ok (.if_icmp .ge 21, 3) := by decide +kernel
theorem dX5_tellsNight_8 : decode cX5_tellsNight 8 = .ok (.aload_n 0, 1) := by decide +kernel
theorem dX5_tellsNight_9 : decode cX5_tellsNight 9 = .ok (.getfield 40, 3) := by decide +kernel
theorem dX5_tellsNight_12 : decode cX5_tellsNight 12 = .ok (.iload_n 3, 1) := by decide +kernel
theorem dX5_tellsNight_13 : decode cX5_tellsNight 13 = .ok (.aload_n 0, 1) := by decide +kernel
theorem dX5_tellsNight_14 : decode cX5_tellsNight 14 = .ok (.iload_n 1, 1) := by decide +kernel
theorem dX5_tellsNight_15 : decode cX5_tellsNight 15 = .ok (.iload_n 3, 1) := by decide +kernel
theorem dX5_tellsNight_16 : decode cX5_tellsNight 16 = .ok (.invokevirtual 219, 3) := by decide +kernel
theorem dX5_tellsNight_19 : decode cX5_tellsNight 19 = .ok (.bastore, 1) := by decide +kernel
theorem dX5_tellsNight_20 : decode cX5_tellsNight 20 = .ok (.iinc 3 1, 3) := by decide +kernel
theorem dX5_tellsNight_23 : decode cX5_tellsNight 23 = .ok (.goto (-21), 3) := by decide +kernel
theorem dX5_tellsNight_26 : decode cX5_tellsNight 26 = .ok (.iload_n 2, 1) := by decide +kernel
theorem dX5_tellsNight_27 : decode cX5_tellsNight 27 = .ok (.istore_n 3, 1) := by decide +kernel
theorem dX5_tellsNight_28 : decode cX5_tellsNight 28 = .ok (.aload_n 0, 1) := by decide +kernel
theorem dX5_tellsNight_29 : decode cX5_tellsNight 29 = .ok (.iload_n 1, 1) := by decide +kernel
theorem dX5_tellsNight_30 : decode cX5_tellsNight 30 = .ok (.iload_n 2, 1) := by decide +kernel
theorem dX5_tellsNight_31 : decode cX5_tellsNight 31 = .ok (.invokevirtual 230, 3) := by decide +kernel
theorem dX5_tellsNight_34 : decode cX5_tellsNight 34 = .ok (.istore 4, 2) := by decide +kernel
theorem dX5_tellsNight_36 : decode cX5_tellsNight 36 = .ok (.iload_n 2, 1) := by decide +kernel
theorem dX5_tellsNight_37 : decode cX5_tellsNight 37 = .ok (.iconst 1, 1) := by decide +kernel
theorem dX5_tellsNight_38 : decode cX5_tellsNight 38 = .ok (.iadd, 1) := by decide +kernel
theorem dX5_tellsNight_39 : decode cX5_tellsNight 39 = .ok (.istore 5, 2) := by decide +kernel
theorem dX5_tellsNight_41 : decode cX5_tellsNight 41 = .ok (.iload 5, 2) := by decide +kernel
theorem dX5_tellsNight_43 : decode cX5_tellsNight 43 = .ok (.iload_n 2, 1) := by decide +kernel
theorem dX5_tellsNight_44 : decode cX5_tellsNight 44 = .ok (.bipush 20, 2) := by decide +kernel
theorem dX5_tellsNight_46 : decode cX5_tellsNight 46 = .ok (.iadd, 1) := by decide +kernel
theorem dX5_tellsNight_47 : decode cX5_tellsNight 47 = .ok (.if_icmp .ge 48, 3) := by decide +kernel
theorem dX5_tellsNight_50 : decode cX5_tellsNight 50 = .ok (.iload 5, 2) := by decide +kernel
theorem dX5_tellsNight_52 : decode cX5_tellsNight 52 = .ok (.bipush 100, 2) := by decide +kernel
theorem dX5_tellsNight_54 : decode cX5_tellsNight 54 = .ok (.if_icmp .ge 41, 3) := by decide +kernel
theorem dX5_tellsNight_57 : decode cX5_tellsNight 57 = .ok (.aload_n 0, 1) := by decide +kernel
theorem dX5_tellsNight_58 : decode cX5_tellsNight 58 = .ok (.iload_n 1, 1) := by decide +kernel
theorem dX5_tellsNight_59 : decode cX5_tellsNight 59 = .ok (.iload 5, 2) := by decide +kernel
theorem dX5_tellsNight_61 : decode cX5_tellsNight 61 = .ok (.invokevirtual 230, 3) := by decide +kernel
theorem dX5_tellsNight_64 : decode cX5_tellsNight 64 = .ok (.istore 6, 2) := by decide +kernel
theorem dX5_tellsNight_66 : decode cX5_tellsNight 66 = .ok (.iload 6, 2) := by decide +kernel
theorem dX5_tellsNight_68 : decode cX5_tellsNight 68 = .ok (.iload 4, 2) := by decide +kernel
theorem dX5_tellsNight_70 : decode cX5_tellsNight 70 = .ok (.if_icmp .ge 8, 3) := by decide +kernel
theorem dX5_tellsNight_73 : decode cX5_tellsNight 73 = .ok (.iload 5, 2) := by decide +kernel
theorem dX5_tellsNight_75 : decode cX5_tellsNight 75 = .ok (.goto 4, 3) := by decide +kernel
theorem dX5_tellsNight_78 : decode cX5_tellsNight 78 = .ok (.iload_n 3, 1) := by decide +kernel
theorem dX5_tellsNight_79 : decode cX5_tellsNight 79 = .ok (.istore_n 3, 1) := by decide +kernel
theorem dX5_tellsNight_80 : decode cX5_tellsNight 80 = .ok (.iload 6, 2) := by decide +kernel
theorem dX5_tellsNight_82 : decode cX5_tellsNight 82 = .ok (.iload 4, 2) := by decide +kernel
theorem dX5_tellsNight_84 : decode cX5_tellsNight 84 = .ok (.invokestatic 58, 3) := by decide +kernel
theorem dX5_tellsNight_87 : decode cX5_tellsNight 87 = .ok (.istore 4, 2) := by decide +kernel
theorem dX5_tellsNight_89 : decode cX5_tellsNight 89 = .ok (.iinc 5 1, 3) := by decide +kernel
theorem dX5_tellsNight_92 : decode cX5_tellsNight 92 = .ok (.goto (-51), 3) := by decide +kernel
theorem dX5_tellsNight_95 : decode cX5_tellsNight 95 = .ok (.iload_n 3, 1) := by decide +kernel
theorem dX5_tellsNight_96 : decode cX5_tellsNight 96 = .ok (.ireturn, 1) := by decide +kernel
theorem dX5_tells_0 : decode cX5_tells 0 = .ok (.aload_n 0, 1) := by decide +kernel
theorem dX5_tells_1 : decode cX5_tells 1 = .ok (.invokevirtual 116, 3) := by decide +kernel
theorem dX5_tells_4 : decode cX5_tells 4 = .ok (.pop, 1) := by decide +kernel
theorem dX5_tells_5 : decode cX5_tells 5 = .ok (.aload_n 0, 1) := by decide +kernel
theorem dX5_tells_6 : decode cX5_tells 6 = .ok (.iload_n 1, 1) := by decide +kernel
theorem dX5_tells_7 : decode cX5_tells 7 = .ok (.invokevirtual 124, 3) := by decide +kernel
theorem dX5_tells_10 : decode cX5_tells 10 = .ok (.ifCond .eq 19, 3) := by decide +kernel
theorem dX5_tells_13 : decode cX5_tells 13 = .ok (.iload_n 2, 1) := by decide +kernel
theorem dX5_tells_14 : decode cX5_tells 14 = .ok (.invokestatic 129, 3) := by decide +kernel
theorem dX5_tells_17 : decode cX5_tells 17 = .ok (.ifCond .eq 12, 3) := by decide +kernel
theorem dX5_tells_20 : decode cX5_tells 20 = .ok (.aload_n 0, 1) := by decide +kernel
theorem dX5_tells_21 : decode cX5_tells 21 = .ok (.iload_n 1, 1) := by decide +kernel
theorem dX5_tells_22 : decode cX5_tells 22 = .ok (.iload_n 2, 1) := by decide +kernel
theorem dX5_tells_23 : decode cX5_tells 23 = .ok (.invokevirtual 233, 3) := by decide +kernel
theorem dX5_tells_26 : decode cX5_tells 26 = .ok (.goto 5, 3) := by decide +kernel
theorem dX5_tells_29 : decode cX5_tells 29 = .ok (.bipush (-2), 2) := by decide +kernel
theorem dX5_tells_31 : decode cX5_tells 31 = .ok (.ireturn, 1) := by decide +kernel
theorem dX5_wreckOf_0 : decode cX5_wreckOf 0 = .ok (.aload_n 0, 1) := by decide +kernel
theorem dX5_wreckOf_1 : decode cX5_wreckOf 1 = .ok (.iload_n 1, 1) := by decide +kernel
theorem dX5_wreckOf_2 : decode cX5_wreckOf 2 = .ok (.iload_n 3, 1) := by decide +kernel
theorem dX5_wreckOf_3 : decode cX5_wreckOf 3 = .ok (.invokevirtual 167, 3) := by decide +kernel
theorem dX5_wreckOf_6 : decode cX5_wreckOf 6 = .ok (.istore 4, 2) := by decide +kernel
theorem dX5_wreckOf_8 : decode cX5_wreckOf 8 = .ok (.iconst 0, 1) := by decide +kernel
theorem dX5_wreckOf_9 : decode cX5_wreckOf 9 = .ok (.istore 5, 2) := by decide +kernel
theorem dX5_wreckOf_11 : decode cX5_wreckOf 11 = .ok (.iconst 0, 1) := by decide +kernel
theorem dX5_wreckOf_12 : decode cX5_wreckOf 12 = .ok (.istore 6, 2) := by decide +kernel
theorem dX5_wreckOf_14 : decode cX5_wreckOf 14 = .ok (.iload 6, 2) := by decide +kernel
theorem dX5_wreckOf_16 : decode cX5_wreckOf 16 = .ok (.bipush 31, 2) := by decide +kernel
theorem dX5_wreckOf_18 : decode cX5_wreckOf 18 = .ok (.if_icmp .ge 47, 3) := by decide +kernel
theorem dX5_wreckOf_21 : decode cX5_wreckOf 21 = .ok (.iload 6, 2) := by decide +kernel
theorem dX5_wreckOf_23 : decode cX5_wreckOf 23 = .ok (.iload_n 3, 1) := by decide +kernel
theorem dX5_wreckOf_24 : decode cX5_wreckOf 24 = .ok (.if_icmp .gt 41, 3) := by decide +kernel
theorem dX5_wreckOf_27 : decode cX5_wreckOf 27 = .ok (.iload 5, 2) := by decide +kernel
theorem dX5_wreckOf_29 : decode cX5_wreckOf 29 = .ok (.aload_n 0, 1) := by decide +kernel
theorem dX5_wreckOf_30 : decode cX5_wreckOf 30 = .ok (.aload_n 0, 1) := by decide +kernel
theorem dX5_wreckOf_31 : decode cX5_wreckOf 31 = .ok (.iload_n 1, 1) := by decide +kernel
theorem dX5_wreckOf_32 : decode cX5_wreckOf 32 = .ok (.iload_n 3, 1) := by decide +kernel
theorem dX5_wreckOf_33 : decode cX5_wreckOf 33 = .ok (.iload 6, 2) := by decide +kernel
theorem dX5_wreckOf_35 : decode cX5_wreckOf 35 = .ok (.isub, 1) := by decide +kernel
theorem dX5_wreckOf_36 : decode cX5_wreckOf 36 = .ok (.invokevirtual 190, 3) := by decide +kernel
theorem dX5_wreckOf_39 : decode cX5_wreckOf 39 = .ok (.iload 4, 2) := by decide +kernel
theorem dX5_wreckOf_41 : decode cX5_wreckOf 41 = .ok (.invokevirtual 193, 3) := by decide +kernel
theorem dX5_wreckOf_44 : decode cX5_wreckOf 44 = .ok (.iload_n 2, 1) := by decide +kernel
theorem dX5_wreckOf_45 : decode cX5_wreckOf 45 = .ok (.if_icmp .ne 10, 3) := by decide +kernel
theorem dX5_wreckOf_48 : decode cX5_wreckOf 48 = .ok (.iconst 1, 1) := by decide +kernel
theorem dX5_wreckOf_49 : decode cX5_wreckOf 49 = .ok (.iload 6, 2) := by decide +kernel
theorem dX5_wreckOf_51 : decode cX5_wreckOf 51 = .ok (.ishl, 1) := by decide +kernel
theorem dX5_wreckOf_52 : decode cX5_wreckOf 52 = .ok (.goto 4, 3) := by decide +kernel
theorem dX5_wreckOf_55 : decode cX5_wreckOf 55 = .ok (.iconst 0, 1) := by decide +kernel
theorem dX5_wreckOf_56 : decode cX5_wreckOf 56 = .ok (.ior, 1) := by decide +kernel
theorem dX5_wreckOf_57 : decode cX5_wreckOf 57 = .ok (.istore 5, 2) := by decide +kernel
theorem dX5_wreckOf_59 : decode cX5_wreckOf 59 = .ok (.iinc 6 1, 3) := by decide +kernel
theorem dX5_wreckOf_62 : decode cX5_wreckOf 62 = .ok (.goto (-48), 3) := by decide +kernel
theorem dX5_wreckOf_65 : decode cX5_wreckOf 65 = .ok (.iload 5, 2) := by decide +kernel
theorem dX5_wreckOf_67 : decode cX5_wreckOf 67 = .ok (.ireturn, 1) := by decide +kernel
theorem dX5_wreck_0 : decode cX5_wreck 0 = .ok (.aload_n 0, 1) := by decide +kernel
theorem dX5_wreck_1 : decode cX5_wreck 1 = .ok (.invokevirtual 116, 3) := by decide +kernel
theorem dX5_wreck_4 : decode cX5_wreck 4 = .ok (.pop, 1) := by decide +kernel
theorem dX5_wreck_5 : decode cX5_wreck 5 = .ok (.iload_n 1, 1) := by decide +kernel
theorem dX5_wreck_6 : decode cX5_wreck 6 = .ok (.invokestatic 176, 3) := by decide +kernel
theorem dX5_wreck_9 : decode cX5_wreck 9 = .ok (.ifCond .eq 28, 3) := by decide +kernel
theorem dX5_wreck_12 : decode cX5_wreck 12 = .ok (.aload_n 0, 1) := by decide +kernel
theorem dX5_wreck_13 : decode cX5_wreck 13 = .ok (.iload_n 2, 1) := by decide +kernel
theorem dX5_wreck_14 : decode cX5_wreck 14 = .ok (.invokevirtual 124, 3) := by decide +kernel
theorem dX5_wreck_17 : decode cX5_wreck 17 = .ok (.ifCond .eq 20, 3) := by decide +kernel
theorem dX5_wreck_20 : decode cX5_wreck 20 = .ok (.iload_n 3, 1) := by decide +kernel
theorem dX5_wreck_21 : decode cX5_wreck 21 = .ok (.invokestatic 129, 3) := by decide +kernel
theorem dX5_wreck_24 : decode cX5_wreck 24 = .ok (.ifCond .eq 13, 3) := by decide +kernel
theorem dX5_wreck_27 : decode cX5_wreck 27 = .ok (.aload_n 0, 1) := by decide +kernel
theorem dX5_wreck_28 : decode cX5_wreck 28 = .ok (.iload_n 1, 1) := by decide +kernel
theorem dX5_wreck_29 : decode cX5_wreck 29 = .ok (.iload_n 2, 1) := by decide +kernel
theorem dX5_wreck_30 : decode cX5_wreck 30 = .ok (.iload_n 3, 1) := by decide +kernel
theorem dX5_wreck_31 : decode cX5_wreck 31 = .ok (.invokevirtual 236, 3) := by decide +kernel
theorem dX5_wreck_34 : decode cX5_wreck 34 = .ok (.goto 5, 3) := by decide +kernel
theorem dX5_wreck_37 : decode cX5_wreck 37 = .ok (.bipush (-2), 2) := by decide +kernel
theorem dX5_wreck_39 : decode cX5_wreck 39 = .ok (.ireturn, 1) := by decide +kernel
theorem dX5_throughOf_0 : decode cX5_throughOf 0 = .ok (.aload_n 0, 1) := by decide +kernel
theorem dX5_throughOf_1 : decode cX5_throughOf 1 = .ok (.aload_n 0, 1) := by decide +kernel
theorem dX5_throughOf_2 : decode cX5_throughOf 2 = .ok (.iload_n 1, 1) := by decide +kernel
theorem dX5_throughOf_3 : decode cX5_throughOf 3 = .ok (.iload_n 2, 1) := by decide +kernel
theorem dX5_throughOf_4 : decode cX5_throughOf 4 = .ok (.iconst 1, 1) := by decide +kernel
theorem dX5_throughOf_5 : decode cX5_throughOf 5 = .ok (.invokevirtual 164, 3) := by decide +kernel
theorem dX5_throughOf_8 : decode cX5_throughOf 8 = .ok (.invokevirtual 170, 3) := by decide +kernel
theorem dX5_throughOf_11 : decode cX5_throughOf 11 = .ok (.ifCond .le 10, 3) := by decide +kernel
theorem dX5_throughOf_14 : decode cX5_throughOf 14 = .ok (.aload_n 0, 1) := by decide +kernel
theorem dX5_throughOf_15 : decode cX5_throughOf 15 = .ok (.getfield 50, 3) := by decide +kernel
theorem dX5_throughOf_18 : decode cX5_throughOf 18 = .ok (.goto 4, 3) := by decide +kernel
theorem dX5_throughOf_21 : decode cX5_throughOf 21 = .ok (.iconst 0, 1) := by decide +kernel
theorem dX5_throughOf_22 : decode cX5_throughOf 22 = .ok (.istore 4, 2) := by decide +kernel
theorem dX5_throughOf_24 : decode cX5_throughOf 24 = .ok (.iload 4, 2) := by decide +kernel
theorem dX5_throughOf_26 : decode cX5_throughOf 26 = .ok (.aload_n 0, 1) := by decide +kernel
theorem dX5_throughOf_27 : decode cX5_throughOf 27 = .ok (.aload_n 0, 1) := by decide +kernel
theorem dX5_throughOf_28 : decode cX5_throughOf 28 = .ok (.iload_n 1, 1) := by decide +kernel
theorem dX5_throughOf_29 : decode cX5_throughOf 29 = .ok (.iload_n 2, 1) := by decide +kernel
theorem dX5_throughOf_30 : decode cX5_throughOf 30 = .ok (.iconst 0, 1) := by decide +kernel
theorem dX5_throughOf_31 : decode cX5_throughOf 31 = .ok (.invokevirtual 164, 3) := by decide +kernel
theorem dX5_throughOf_34 : decode cX5_throughOf 34 = .ok (.invokevirtual 170, 3) := by decide +kernel
theorem dX5_throughOf_37 : decode cX5_throughOf 37 = .ok (.ifCond .le 13, 3) := by decide +kernel
theorem dX5_throughOf_40 : decode cX5_throughOf 40 = .ok (.bipush 16, 2) := by decide +kernel
theorem dX5_throughOf_42 : decode cX5_throughOf 42 = .ok (.aload_n 0, 1) := by decide +kernel
theorem dX5_throughOf_43 : decode cX5_throughOf 43 = .ok (.getfield 50, 3) := by decide +kernel
theorem dX5_throughOf_46 : decode cX5_throughOf 46 = .ok (.isub, 1) := by decide +kernel
theorem dX5_throughOf_47 : decode cX5_throughOf 47 = .ok (.goto 4, 3) := by decide +kernel
theorem dX5_throughOf_50 : decode cX5_throughOf 50 = .ok (.iconst 0, 1) := by decide +kernel
theorem dX5_throughOf_51 : decode cX5_throughOf 51 = .ok (.iadd, 1) := by decide +kernel
theorem dX5_throughOf_52 : decode cX5_throughOf 52 = .ok (.istore 4, 2) := by decide +kernel
theorem dX5_throughOf_54 : decode cX5_throughOf 54 = .ok (.iload_n 3, 1) := by decide +kernel
theorem dX5_throughOf_55 : decode cX5_throughOf 55 = .ok (.ifCond .ne 8, 3) := by decide +kernel
theorem dX5_throughOf_58 : decode cX5_throughOf 58 = .ok (.iload 4, 2) := by decide +kernel
theorem dX5_throughOf_60 : decode cX5_throughOf 60 = .ok (.goto 5, 3) := by decide +kernel
theorem dX5_throughOf_63 : decode cX5_throughOf 63 = .ok (.bipush 16, 2) := by decide +kernel
theorem dX5_throughOf_65 : decode cX5_throughOf 65 = .ok (.iload 4, 2) := by decide +kernel
theorem dX5_throughOf_67 : decode cX5_throughOf 67 = .ok (.bipush 16, 2) := by decide +kernel
theorem dX5_throughOf_69 : decode cX5_throughOf 69 = .ok (.invokestatic 239, 3) := by decide +kernel
theorem dX5_throughOf_72 : decode cX5_throughOf 72 = .ok (.idiv, 1) := by decide +kernel
theorem dX5_throughOf_73 : decode cX5_throughOf 73 = .ok (.ireturn, 1) := by decide +kernel
theorem dX5_through_0 : decode cX5_through 0 = .ok (.aload_n 0, 1) := by decide +kernel
theorem dX5_through_1 : decode cX5_through 1 = .ok (.invokevirtual 116, 3) := by decide +kernel
theorem dX5_through_4 : decode cX5_through 4 = .ok (.pop, 1) := by decide +kernel
theorem dX5_through_5 : decode cX5_through 5 = .ok (.iload_n 1, 1) := by decide +kernel
theorem dX5_through_6 : decode cX5_through 6 = .ok (.invokestatic 176, 3) := by decide +kernel
theorem dX5_through_9 : decode cX5_through 9 = .ok (.ifCond .eq 27, 3) := by decide +kernel
theorem dX5_through_12 : decode cX5_through 12 = .ok (.iload_n 2, 1) := by decide +kernel
theorem dX5_through_13 : decode cX5_through 13 = .ok (.invokestatic 129, 3) := by decide +kernel
theorem dX5_through_16 : decode cX5_through 16 = .ok (.ifCond .eq 20, 3) := by decide +kernel
theorem dX5_through_19 : decode cX5_through 19 = .ok (.iload_n 3, 1) := by decide +kernel
theorem dX5_through_20 : decode cX5_through 20 = .ok (.invokestatic 205, 3) := by decide +kernel
theorem dX5_through_23 : decode cX5_through 23 = .ok (.ifCond .eq 13, 3) := by decide +kernel
theorem dX5_through_26 : decode cX5_through 26 = .ok (.aload_n 0, 1) := by decide +kernel
theorem dX5_through_27 : decode cX5_through 27 = .ok (.iload_n 1, 1) := by decide +kernel
theorem dX5_through_28 : decode cX5_through 28 = .ok (.iload_n 2, 1) := by decide +kernel
theorem dX5_through_29 : decode cX5_through 29 = .ok (.iload_n 3, 1) := by decide +kernel
theorem dX5_through_30 : decode cX5_through 30 = .ok (.invokevirtual 242, 3) := by decide +kernel
theorem dX5_through_33 : decode cX5_through 33 = .ok (.goto 5, 3) := by decide +kernel
theorem dX5_through_36 : decode cX5_through 36 = .ok (.bipush (-2), 2) := by decide +kernel
theorem dX5_through_38 : decode cX5_through 38 = .ok (.ireturn, 1) := by decide +kernel
theorem dX5_sureOf_0 : decode cX5_sureOf 0 = .ok (.aload_n 0, 1) := by decide +kernel
theorem dX5_sureOf_1 : decode cX5_sureOf 1 = .ok (.aload_n 0, 1) := by decide +kernel
theorem dX5_sureOf_2 : decode cX5_sureOf 2 = .ok (.iload_n 1, 1) := by decide +kernel
theorem dX5_sureOf_3 : decode cX5_sureOf 3 = .ok (.iload_n 2, 1) := by decide +kernel
theorem dX5_sureOf_4 : decode cX5_sureOf 4 = .ok (.iconst 1, 1) := by decide +kernel
theorem dX5_sureOf_5 : decode cX5_sureOf 5 = .ok (.invokevirtual 164, 3) := by decide +kernel
theorem dX5_sureOf_8 : decode cX5_sureOf 8 = .ok (.aload_n 0, 1) := by decide +kernel
theorem dX5_sureOf_9 : decode cX5_sureOf 9 = .ok (.iload_n 1, 1) := by decide +kernel
theorem dX5_sureOf_10 : decode cX5_sureOf 10 = .ok (.iload_n 2, 1) := by decide +kernel
theorem dX5_sureOf_11 : decode cX5_sureOf 11 = .ok (.iconst 0, 1) := by decide +kernel
theorem dX5_sureOf_12 : decode cX5_sureOf 12 = .ok (.invokevirtual 164, 3) := by decide +kernel
theorem dX5_sureOf_15 : decode cX5_sureOf 15 = .ok (.iand, 1) := by decide +kernel
theorem dX5_sureOf_16 : decode cX5_sureOf 16 = .ok (.invokevirtual 170, 3) := by decide +kernel
theorem dX5_sureOf_19 : decode cX5_sureOf 19 = .ok (.pop, 1) := by decide +kernel
theorem dX5_sureOf_20 : decode cX5_sureOf 20 = .ok (.iload_n 3, 1) := by decide +kernel
theorem dX5_sureOf_21 : decode cX5_sureOf 21 = .ok (.aload_n 0, 1) := by decide +kernel
theorem dX5_sureOf_22 : decode cX5_sureOf 22 = .ok (.getfield 161, 3) := by decide +kernel
theorem dX5_sureOf_25 : decode cX5_sureOf 25 = .ok (.if_icmp .ge 12, 3) := by decide +kernel
theorem dX5_sureOf_28 : decode cX5_sureOf 28 = .ok (.aload_n 0, 1) := by decide +kernel
theorem dX5_sureOf_29 : decode cX5_sureOf 29 = .ok (.getfield 34, 3) := by decide +kernel
theorem dX5_sureOf_32 : decode cX5_sureOf 32 = .ok (.iload_n 3, 1) := by decide +kernel
theorem dX5_sureOf_33 : decode cX5_sureOf 33 = .ok (.iaload, 1) := by decide +kernel
theorem dX5_sureOf_34 : decode cX5_sureOf 34 = .ok (.goto 4, 3) := by decide +kernel
theorem dX5_sureOf_37 : decode cX5_sureOf 37 = .ok (.iconst (-1), 1) := by decide +kernel
theorem dX5_sureOf_38 : decode cX5_sureOf 38 = .ok (.ireturn, 1) := by decide +kernel
theorem dX5_sure_0 : decode cX5_sure 0 = .ok (.aload_n 0, 1) := by decide +kernel
theorem dX5_sure_1 : decode cX5_sure 1 = .ok (.invokevirtual 116, 3) := by decide +kernel
theorem dX5_sure_4 : decode cX5_sure 4 = .ok (.pop, 1) := by decide +kernel
theorem dX5_sure_5 : decode cX5_sure 5 = .ok (.iload_n 1, 1) := by decide +kernel
theorem dX5_sure_6 : decode cX5_sure 6 = .ok (.invokestatic 176, 3) := by decide +kernel
theorem dX5_sure_9 : decode cX5_sure 9 = .ok (.ifCond .eq 32, 3) := by decide +kernel
theorem dX5_sure_12 : decode cX5_sure 12 = .ok (.iload_n 2, 1) := by decide +kernel
theorem dX5_sure_13 : decode cX5_sure 13 = .ok (.invokestatic 129, 3) := by decide +kernel
theorem dX5_sure_16 : decode cX5_sure 16 = .ok (.ifCond .eq 25, 3) := by decide +kernel
theorem dX5_sure_19 : decode cX5_sure 19 = .ok (.iload_n 3, 1) := by decide +kernel
theorem dX5_sure_20 : decode cX5_sure 20 = .ok (.i2l, 1) := by decide +kernel
theorem dX5_sure_21 : decode cX5_sure 21 = .ok (.lconst 0, 1) := by decide +kernel
theorem dX5_sure_22 : decode cX5_sure 22 = .ok (.ldc2_w 127, 3) := by decide +kernel
theorem dX5_sure_25 : decode cX5_sure 25 = .ok (.invokestatic 54, 3) := by decide +kernel
theorem dX5_sure_28 : decode cX5_sure 28 = .ok (.ifCond .eq 13, 3) := by decide +kernel
theorem dX5_sure_31 : decode cX5_sure 31 = .ok (.aload_n 0, 1) := by decide +kernel
theorem dX5_sure_32 : decode cX5_sure 32 = .ok (.iload_n 1, 1) := by decide +kernel
theorem dX5_sure_33 : decode cX5_sure 33 = .ok (.iload_n 2, 1) := by decide +kernel
theorem dX5_sure_34 : decode cX5_sure 34 = .ok (.iload_n 3, 1) := by decide +kernel
theorem dX5_sure_35 : decode cX5_sure 35 = .ok (.invokevirtual 245, 3) := by decide +kernel
theorem dX5_sure_38 : decode cX5_sure 38 = .ok (.goto 5, 3) := by decide +kernel
theorem dX5_sure_41 : decode cX5_sure 41 = .ok (.bipush (-2), 2) := by decide +kernel
theorem dX5_sure_43 : decode cX5_sure 43 = .ok (.ireturn, 1) := by decide +kernel
theorem dX5_weigh_0 : decode cX5_weigh 0 = .ok (.aload_n 0, 1) := by decide +kernel
theorem dX5_weigh_1 : decode cX5_weigh 1 = .ok (.iload_n 1, 1) := by decide +kernel
theorem dX5_weigh_2 : decode cX5_weigh 2 = .ok (.iload_n 3, 1) := by decide +kernel
theorem dX5_weigh_3 : decode cX5_weigh 3 = .ok (.iconst 0, 1) := by decide +kernel
theorem dX5_weigh_4 : decode cX5_weigh 4 = .ok (.invokevirtual 147, 3) := by decide +kernel
theorem dX5_weigh_7 : decode cX5_weigh 7 = .ok (.iload_n 2, 1) := by decide +kernel
theorem dX5_weigh_8 : decode cX5_weigh 8 = .ok (.if_icmp .lt 13, 3) := by decide +kernel
theorem dX5_weigh_11 : decode cX5_weigh 11 = .ok (.bipush 16, 2) := by decide +kernel
theorem dX5_weigh_13 : decode cX5_weigh 13 = .ok (.aload_n 0, 1) := by decide +kernel
theorem dX5_weigh_14 : decode cX5_weigh 14 = .ok (.getfield 50, 3) := by decide +kernel
theorem dX5_weigh_17 : decode cX5_weigh 17 = .ok (.isub, 1) := by decide +kernel
theorem dX5_weigh_18 : decode cX5_weigh 18 = .ok (.goto 4, 3) := by decide +kernel
theorem dX5_weigh_21 : decode cX5_weigh 21 = .ok (.iconst 0, 1) := by decide +kernel
theorem dX5_weigh_22 : decode cX5_weigh 22 = .ok (.istore 4, 2) := by decide +kernel
theorem dX5_weigh_24 : decode cX5_weigh 24 = .ok (.iload 4, 2) := by decide +kernel
theorem dX5_weigh_26 : decode cX5_weigh 26 = .ok (.aload_n 0, 1) := by decide +kernel
theorem dX5_weigh_27 : decode cX5_weigh 27 = .ok (.iload_n 1, 1) := by decide +kernel
theorem dX5_weigh_28 : decode cX5_weigh 28 = .ok (.iload_n 3, 1) := by decide +kernel
theorem dX5_weigh_29 : decode cX5_weigh 29 = .ok (.iconst 1, 1) := by decide +kernel
theorem dX5_weigh_30 : decode cX5_weigh 30 = .ok (.invokevirtual 147, 3) := by decide +kernel
theorem dX5_weigh_33 : decode cX5_weigh 33 = .ok (.iload_n 2, 1) := by decide +kernel
theorem dX5_weigh_34 : decode cX5_weigh 34 = .ok (.if_icmp .lt 10, 3) := by decide +kernel
theorem dX5_weigh_37 : decode cX5_weigh 37 = .ok (.aload_n 0, 1) := by decide +kernel
theorem dX5_weigh_38 : decode cX5_weigh 38 = .ok (.getfield 50, 3) := by decide +kernel
theorem dX5_weigh_41 : decode cX5_weigh 41 = .ok (.goto 4, 3) := by decide +kernel
theorem dX5_weigh_44 : decode cX5_weigh 44 = .ok (.iconst 0, 1) := by decide +kernel
theorem dX5_weigh_45 : decode cX5_weigh 45 = .ok (.iadd, 1) := by decide +kernel
theorem dX5_weigh_46 : decode cX5_weigh 46 = .ok (.ireturn, 1) := by decide +kernel
theorem dX5_onBy_0 : decode cX5_onBy 0 = .ok (.aload_n 0, 1) := by decide +kernel
theorem dX5_onBy_1 : decode cX5_onBy 1 = .ok (.getfield 47, 3) := by decide +kernel
theorem dX5_onBy_4 : decode cX5_onBy 4 = .ok (.aload_n 0, 1) := by decide +kernel
theorem dX5_onBy_5 : decode cX5_onBy 5 = .ok (.getfield 25, 3) := by decide +kernel
theorem dX5_onBy_8 : decode cX5_onBy 8 = .ok (.iconst 5, 1) := by decide +kernel
theorem dX5_onBy_9 : decode cX5_onBy 9 = .ok (.iload_n 1, 1) := by decide +kernel
theorem dX5_onBy_10 : decode cX5_onBy 10 = .ok (.imul, 1) := by decide +kernel
theorem dX5_onBy_11 : decode cX5_onBy 11 = .ok (.iconst 1, 1) := by decide +kernel
theorem dX5_onBy_12 : decode cX5_onBy 12 = .ok (.iadd, 1) := by decide +kernel
theorem dX5_onBy_13 : decode cX5_onBy 13 = .ok (.iaload, 1) := by decide +kernel
theorem dX5_onBy_14 : decode cX5_onBy 14 = .ok (.iaload, 1) := by decide +kernel
theorem dX5_onBy_15 : decode cX5_onBy 15 = .ok (.istore 4, 2) := by decide +kernel
theorem dX5_onBy_17 : decode cX5_onBy 17 = .ok (.iload 4, 2) := by decide +kernel
theorem dX5_onBy_19 : decode cX5_onBy 19 = .ok (.iconst (-1), 1) := by decide +kernel
theorem dX5_onBy_20 : decode cX5_onBy 20 = .ok (.if_icmp .ne 7, 3) := by decide +kernel
theorem dX5_onBy_23 : decode cX5_onBy 23 = .ok (.iconst (-1), 1) := by decide +kernel
theorem dX5_onBy_24 : decode cX5_onBy 24 = .ok (.goto 16, 3) := by decide +kernel
theorem dX5_onBy_27 : decode cX5_onBy 27 = .ok (.aload_n 0, 1) := by decide +kernel
theorem dX5_onBy_28 : decode cX5_onBy 28 = .ok (.iload_n 1, 1) := by decide +kernel
theorem dX5_onBy_29 : decode cX5_onBy 29 = .ok (.iload_n 2, 1) := by decide +kernel
theorem dX5_onBy_30 : decode cX5_onBy 30 = .ok (.iload_n 3, 1) := by decide +kernel
theorem dX5_onBy_31 : decode cX5_onBy 31 = .ok (.invokevirtual 248, 3) := by decide +kernel
theorem dX5_onBy_34 : decode cX5_onBy 34 = .ok (.iload 4, 2) := by decide +kernel
theorem dX5_onBy_36 : decode cX5_onBy 36 = .ok (.bipush 16, 2) := by decide +kernel
theorem dX5_onBy_38 : decode cX5_onBy 38 = .ok (.idiv, 1) := by decide +kernel
theorem dX5_onBy_39 : decode cX5_onBy 39 = .ok (.imul, 1) := by decide +kernel
theorem dX5_onBy_40 : decode cX5_onBy 40 = .ok (.ireturn, 1) := by decide +kernel
theorem dX5_findSafest_0 : decode cX5_findSafest 0 = .ok (.aload_n 0, 1) := by decide +kernel
theorem dX5_findSafest_1 : decode cX5_findSafest 1 = .ok (.getfield 47, 3) := by decide +kernel
theorem dX5_findSafest_4 : decode cX5_findSafest 4 = .ok (.iconst 5, 1) := by decide +kernel
theorem dX5_findSafest_5 : decode cX5_findSafest 5 = .ok (.ldc 251, 2) := by decide +kernel
theorem dX5_findSafest_7 : decode cX5_findSafest 7 = .ok (.iastore, 1) := by decide +kernel
theorem dX5_findSafest_8 : decode cX5_findSafest 8 = .ok (.iconst 4, 1) := by decide +kernel
theorem dX5_findSafest_9 : decode cX5_findSafest 9 = .ok (.istore_n 3, 1) := by decide +kernel
theorem dX5_findSafest_10 : decode cX5_findSafest 10 = .ok (.iload_n 3, 1) := by decide +kernel
theorem dX5_findSafest_11 : decode cX5_findSafest 11 = .ok (.ifCond .lt 85, 3) := by decide +kernel
theorem dX5_findSafest_14 : decode cX5_findSafest 14 = .ok (.aload_n 0, 1) := by decide +kernel
theorem dX5_findSafest_15 : decode cX5_findSafest 15 = .ok (.getfield 47, 3) := by decide +kernel
theorem dX5_findSafest_18 : decode cX5_findSafest 18 = .ok (.iload_n 3, 1) := by decide +kernel
theorem dX5_findSafest_19 : decode cX5_findSafest 19 = .ok (.iconst (-1), 1) := by decide +kernel
theorem dX5_findSafest_20 : decode cX5_findSafest 20 = .ok (.iastore, 1) := by decide +kernel
theorem dX5_findSafest_21 : decode cX5_findSafest 21 = .ok (.iconst 0, 1) := by decide +kernel
theorem dX5_findSafest_22 : decode cX5_findSafest 22 = .ok (.istore 4, 2) := by decide +kernel
theorem dX5_findSafest_24 : decode cX5_findSafest 24 = .ok (.iload 4, 2) := by decide +kernel
theorem dX5_findSafest_26 : decode cX5_findSafest 26 = .ok (.aload_n 0, 1) := by decide +kernel
theorem dX5_findSafest_27 : decode cX5_findSafest 27 = .ok (.getfield 94, 3) := by decide +kernel
theorem dX5_findSafest_30 : decode cX5_findSafest 30 = .ok (.if_icmp .ge 60, 3) := by decide +kernel
theorem dX5_findSafest_33 : decode cX5_findSafest 33 = .ok (.aload_n 0, 1) := by decide +kernel
theorem dX5_findSafest_34 : decode cX5_findSafest 34 = .ok (.getfield 25, 3) := by decide +kernel
theorem dX5_findSafest_37 : decode cX5_findSafest 37 = .ok (.iconst 5, 1) := by decide +kernel
theorem dX5_findSafest_38 : decode cX5_findSafest 38 = .ok (.iload 4, 2) := by decide +kernel
theorem dX5_findSafest_40 : decode cX5_findSafest 40 = .ok (.imul, 1) := by decide +kernel
theorem dX5_findSafest_41 : decode cX5_findSafest 41 = .ok (.iaload, 1) := by decide +kernel
theorem dX5_findSafest_42 : decode cX5_findSafest 42 = .ok (.iload_n 3, 1) := by decide +kernel
theorem dX5_findSafest_43 : decode cX5_findSafest 43 = .ok (.if_icmp .ne 41, 3) := by decide +kernel
theorem dX5_findSafest_46 : decode cX5_findSafest 46 = .ok (.aload_n 0, 1) := by decide +kernel
theorem dX5_findSafest_47 : decode cX5_findSafest 47 = .ok (.iload 4, 2) := by decide +kernel
theorem dX5_findSafest_49 : decode cX5_findSafest 49 = .ok (.iload_n 1, 1) := by decide +kernel
theorem dX5_findSafest_50 : decode cX5_findSafest 50 = .ok (.iload_n 2, 1) := by decide +kernel
theorem dX5_findSafest_51 : decode cX5_findSafest 51 = .ok (.invokevirtual 252, 3) := by decide +kernel
theorem dX5_findSafest_54 : decode cX5_findSafest 54 = .ok (.istore 5, 2) := by decide +kernel
theorem dX5_findSafest_56 : decode cX5_findSafest 56 = .ok (.aload_n 0, 1) := by decide +kernel
theorem dX5_findSafest_57 : decode cX5_findSafest 57 = .ok (.getfield 47, 3) := by decide +kernel
theorem dX5_findSafest_60 : decode cX5_findSafest 60 = .ok (.iload_n 3, 1) := by decide +kernel
theorem dX5_findSafest_61 : decode cX5_findSafest 61 = .ok (.iload 5, 2) := by decide +kernel
theorem dX5_findSafest_63 : decode cX5_findSafest 63 = .ok (.aload_n 0, 1) := by decide +kernel
theorem dX5_findSafest_64 : decode cX5_findSafest 64 = .ok (.getfield 47, 3) := by decide +kernel
theorem dX5_findSafest_67 : decode cX5_findSafest 67 = .ok (.iload_n 3, 1) := by decide +kernel
theorem dX5_findSafest_68 : decode cX5_findSafest 68 = .ok (.iaload, 1) := by decide +kernel
theorem dX5_findSafest_69 : decode cX5_findSafest 69 = .ok (.if_icmp .le 8, 3) := by decide +kernel
theorem dX5_findSafest_72 : decode cX5_findSafest 72 = .ok (.iload 5, 2) := by decide +kernel
theorem dX5_findSafest_74 : decode cX5_findSafest 74 = .ok (.goto 9, 3) := by decide +kernel
theorem dX5_findSafest_77 : decode cX5_findSafest 77 = .ok (.aload_n 0, 1) := by decide +kernel
theorem dX5_findSafest_78 : decode cX5_findSafest 78 = .ok (.getfield 47, 3) := by decide +kernel
theorem dX5_findSafest_81 : decode cX5_findSafest 81 = .ok (.iload_n 3, 1) := by decide +kernel
theorem dX5_findSafest_82 : decode cX5_findSafest 82 = .ok (.iaload, 1) := by decide +kernel
theorem dX5_findSafest_83 : decode cX5_findSafest 83 = .ok (.iastore, 1) := by decide +kernel
theorem dX5_findSafest_84 : decode cX5_findSafest 84 = .ok (.iinc 4 1, 3) := by decide +kernel
theorem dX5_findSafest_87 : decode cX5_findSafest 87 = .ok (.goto (-63), 3) := by decide +kernel
theorem dX5_findSafest_90 : decode cX5_findSafest 90 = .ok (.iinc 3 (-1), 3) := by decide +kernel
theorem dX5_findSafest_93 : decode cX5_findSafest 93 = .ok (.goto (-83), 3) := by decide +kernel
theorem dX5_findSafest_96 : decode cX5_findSafest 96 = .ok (.aload_n 0, 1) := by decide +kernel
theorem dX5_findSafest_97 : decode cX5_findSafest 97 = .ok (.iconst 0, 1) := by decide +kernel
theorem dX5_findSafest_98 : decode cX5_findSafest 98 = .ok (.putfield 161, 3) := by decide +kernel
theorem dX5_findSafest_101 : decode cX5_findSafest 101 = .ok (.aload_n 0, 1) := by decide +kernel
theorem dX5_findSafest_102 : decode cX5_findSafest 102 = .ok (.getfield 47, 3) := by decide +kernel
theorem dX5_findSafest_105 : decode cX5_findSafest 105 = .ok (.iconst 0, 1) := by decide +kernel
theorem dX5_findSafest_106 : decode cX5_findSafest 106 = .ok (.iaload, 1) := by decide +kernel
theorem dX5_findSafest_107 : decode cX5_findSafest 107 = .ok (.iconst (-1), 1) := by decide +kernel
theorem dX5_findSafest_108 : decode cX5_findSafest 108 = .ok (.if_icmp .ne 7, 3) := by decide +kernel
theorem dX5_findSafest_111 : decode cX5_findSafest 111 = .ok (.iconst 5, 1) := by decide +kernel
theorem dX5_findSafest_112 : decode cX5_findSafest 112 = .ok (.goto 4, 3) := by decide +kernel
theorem dX5_findSafest_115 : decode cX5_findSafest 115 = .ok (.iconst 0, 1) := by decide +kernel
theorem dX5_findSafest_116 : decode cX5_findSafest 116 = .ok (.istore_n 3, 1) := by decide +kernel
theorem dX5_findSafest_117 : decode cX5_findSafest 117 = .ok (.iload_n 3, 1) := by decide +kernel
theorem dX5_findSafest_118 : decode cX5_findSafest 118 = .ok (.iconst 5, 1) := by decide +kernel
theorem dX5_findSafest_119 : decode cX5_findSafest 119 = .ok (.if_icmp .ge 149, 3) := by decide +kernel
theorem dX5_findSafest_122 : decode cX5_findSafest 122 = .ok (.iconst (-1), 1) := by decide +kernel
theorem dX5_findSafest_123 : decode cX5_findSafest 123 = .ok (.istore 4, 2) := by decide +kernel
theorem dX5_findSafest_125 : decode cX5_findSafest 125 = .ok (.aload_n 0, 1) := by decide +kernel
theorem dX5_findSafest_126 : decode cX5_findSafest 126 = .ok (.getfield 94, 3) := by decide +kernel
theorem dX5_findSafest_129 : decode cX5_findSafest 129 = .ok (.iconst 1, 1) := by decide +kernel
theorem dX5_findSafest_130 : decode cX5_findSafest 130 = .ok (.isub, 1) := by decide +kernel
theorem dX5_findSafest_131 : decode cX5_findSafest 131 = .ok (.istore 5, 2) := by decide +kernel
theorem dX5_findSafest_133 : decode cX5_findSafest 133 = .ok (.iload 5, 2) := by decide +kernel
theorem dX5_findSafest_135 : decode cX5_findSafest 135 = .ok (.ifCond .lt 97, 3) := by decide +kernel
theorem dX5_findSafest_138 : decode cX5_findSafest 138 = .ok (.aload_n 0, 1) := by decide +kernel
theorem dX5_findSafest_139 : decode cX5_findSafest 139 = .ok (.getfield 47, 3) := by decide +kernel
theorem dX5_findSafest_142 : decode cX5_findSafest 142 = .ok (.iconst 0, 1) := by decide +kernel
theorem dX5_findSafest_143 : decode cX5_findSafest 143 = .ok (.iaload, 1) := by decide +kernel
theorem dX5_findSafest_144 : decode cX5_findSafest 144 = .ok (.ifCond .ne 31, 3) := by decide +kernel
theorem dX5_findSafest_147 : decode cX5_findSafest 147 = .ok (.aload_n 0, 1) := by decide +kernel
theorem dX5_findSafest_148 : decode cX5_findSafest 148 = .ok (.getfield 47, 3) := by decide +kernel
theorem dX5_findSafest_151 : decode cX5_findSafest 151 = .ok (.aload_n 0, 1) := by decide +kernel
theorem dX5_findSafest_152 : decode cX5_findSafest 152 = .ok (.getfield 25, 3) := by decide +kernel
theorem dX5_findSafest_155 : decode cX5_findSafest 155 = .ok (.iconst 5, 1) := by decide +kernel
theorem dX5_findSafest_156 : decode cX5_findSafest 156 = .ok (.iload 5, 2) := by decide +kernel
theorem dX5_findSafest_158 : decode cX5_findSafest 158 = .ok (.imul, 1) := by decide +kernel
theorem dX5_findSafest_159 : decode cX5_findSafest 159 = .ok (.iconst 1, 1) := by decide +kernel
theorem dX5_findSafest_160 : decode cX5_findSafest 160 = .ok (.iadd, 1) := by decide +kernel
theorem dX5_findSafest_161 : decode cX5_findSafest 161 = .ok (.iaload, 1) := by decide +kernel
theorem dX5_findSafest_162 : decode cX5_findSafest 162 = .ok (.iaload, 1) := by decide +kernel
theorem dX5_findSafest_163 : decode cX5_findSafest 163 = .ok (.iconst (-1), 1) := by decide +kernel
theorem dX5_findSafest_164 : decode cX5_findSafest 164 = .ok (.if_icmp .eq 7, 3) := by decide +kernel
theorem dX5_findSafest_167 : decode cX5_findSafest 167 = .ok (.iconst 1, 1) := by decide +kernel
theorem dX5_findSafest_168 : decode cX5_findSafest 168 = .ok (.goto 29, 3) := by decide +kernel
theorem dX5_findSafest_171 : decode cX5_findSafest 171 = .ok (.iconst 0, 1) := by decide +kernel
theorem dX5_findSafest_172 : decode cX5_findSafest 172 = .ok (.goto 25, 3) := by decide +kernel
theorem dX5_findSafest_175 : decode cX5_findSafest 175 = .ok (.aload_n 0, 1) := by decide +kernel
theorem dX5_findSafest_176 : decode cX5_findSafest 176 = .ok (.iload 5, 2) := by decide +kernel
theorem dX5_findSafest_178 : decode cX5_findSafest 178 = .ok (.iload_n 1, 1) := by decide +kernel
theorem dX5_findSafest_179 : decode cX5_findSafest 179 = .ok (.iload_n 2, 1) := by decide +kernel
theorem dX5_findSafest_180 : decode cX5_findSafest 180 = .ok (.invokevirtual 252, 3) := by decide +kernel
theorem dX5_findSafest_183 : decode cX5_findSafest 183 = .ok (.aload_n 0, 1) := by decide +kernel
theorem dX5_findSafest_184 : decode cX5_findSafest 184 = .ok (.getfield 47, 3) := by decide +kernel
theorem dX5_findSafest_187 : decode cX5_findSafest 187 = .ok (.iload_n 3, 1) := by decide +kernel
theorem dX5_findSafest_188 : decode cX5_findSafest 188 = .ok (.iaload, 1) := by decide +kernel
theorem dX5_findSafest_189 : decode cX5_findSafest 189 = .ok (.if_icmp .ne 7, 3) := by decide +kernel
theorem dX5_findSafest_192 : decode cX5_findSafest 192 = .ok (.iconst 1, 1) := by decide +kernel
theorem dX5_findSafest_193 : decode cX5_findSafest 193 = .ok (.goto 4, 3) := by decide +kernel
theorem dX5_findSafest_196 : decode cX5_findSafest 196 = .ok (.iconst 0, 1) := by decide +kernel
theorem dX5_findSafest_197 : decode cX5_findSafest 197 = .ok (.istore 6, 2) := by decide +kernel
theorem dX5_findSafest_199 : decode cX5_findSafest 199 = .ok (.aload_n 0, 1) := by decide +kernel
theorem dX5_findSafest_200 : decode cX5_findSafest 200 = .ok (.getfield 25, 3) := by decide +kernel
theorem dX5_findSafest_203 : decode cX5_findSafest 203 = .ok (.iconst 5, 1) := by decide +kernel
theorem dX5_findSafest_204 : decode cX5_findSafest 204 = .ok (.iload 5, 2) := by decide +kernel
theorem dX5_findSafest_206 : decode cX5_findSafest 206 = .ok (.imul, 1) := by decide +kernel
theorem dX5_findSafest_207 : decode cX5_findSafest 207 = .ok (.iaload, 1) := by decide +kernel
theorem dX5_findSafest_208 : decode cX5_findSafest 208 = .ok (.iload_n 3, 1) := by decide +kernel
theorem dX5_findSafest_209 : decode cX5_findSafest 209 = .ok (.if_icmp .ne 13, 3) := by decide +kernel
theorem dX5_findSafest_212 : decode cX5_findSafest 212 = .ok (.iload 6, 2) := by decide +kernel
theorem dX5_findSafest_214 : decode cX5_findSafest 214 = .ok (.ifCond .eq 8, 3) := by decide +kernel
theorem dX5_findSafest_217 : decode cX5_findSafest 217 = .ok (.iload 5, 2) := by decide +kernel
theorem dX5_findSafest_219 : decode cX5_findSafest 219 = .ok (.goto 5, 3) := by decide +kernel
theorem dX5_findSafest_222 : decode cX5_findSafest 222 = .ok (.iload 4, 2) := by decide +kernel
theorem dX5_findSafest_224 : decode cX5_findSafest 224 = .ok (.istore 4, 2) := by decide +kernel
theorem dX5_findSafest_226 : decode cX5_findSafest 226 = .ok (.iinc 5 (-1), 3) := by decide +kernel
theorem dX5_findSafest_229 : decode cX5_findSafest 229 = .ok (.goto (-96), 3) := by decide +kernel
theorem dX5_findSafest_232 : decode cX5_findSafest 232 = .ok (.aload_n 0, 1) := by decide +kernel
theorem dX5_findSafest_233 : decode cX5_findSafest 233 = .ok (.getfield 34, 3) := by decide +kernel
theorem dX5_findSafest_236 : decode cX5_findSafest 236 = .ok (.aload_n 0, 1) := by decide +kernel
theorem dX5_findSafest_237 : decode cX5_findSafest 237 = .ok (.getfield 161, 3) := by decide +kernel
theorem dX5_findSafest_240 : decode cX5_findSafest 240 = .ok (.iload 4, 2) := by decide +kernel
theorem dX5_findSafest_242 : decode cX5_findSafest 242 = .ok (.iastore, 1) := by decide +kernel
theorem dX5_findSafest_243 : decode cX5_findSafest 243 = .ok (.aload_n 0, 1) := by decide +kernel
theorem dX5_findSafest_244 : decode cX5_findSafest 244 = .ok (.dup, 1) := by decide +kernel
theorem dX5_findSafest_245 : decode cX5_findSafest 245 = .ok (.getfield 161, 3) := by decide +kernel
theorem dX5_findSafest_248 : decode cX5_findSafest 248 = .ok (.iconst 1, 1) := by decide +kernel
theorem dX5_findSafest_249 : decode cX5_findSafest 249 = .ok (.iadd, 1) := by decide +kernel
theorem dX5_findSafest_250 : decode cX5_findSafest 250 = .ok (.putfield 161, 3) := by decide +kernel
theorem dX5_findSafest_253 : decode cX5_findSafest 253 = .ok (.aload_n 0, 1) := by decide +kernel
theorem dX5_findSafest_254 : decode cX5_findSafest 254 = .ok (.getfield 25, 3) := by decide +kernel
theorem dX5_findSafest_257 : decode cX5_findSafest 257 = .ok (.iconst 5, 1) := by decide +kernel
theorem dX5_findSafest_258 : decode cX5_findSafest 258 = .ok (.iload 4, 2) := by decide +kernel
theorem dX5_findSafest_260 : decode cX5_findSafest 260 = .ok (.imul, 1) := by decide +kernel
theorem dX5_findSafest_261 : decode cX5_findSafest 261 = .ok (.iconst 1, 1) := by decide +kernel
theorem dX5_findSafest_262 : decode cX5_findSafest 262 = .ok (.iadd, 1) := by decide +kernel
theorem dX5_findSafest_263 : decode cX5_findSafest 263 = .ok (.iaload, 1) := by decide +kernel
theorem dX5_findSafest_264 : decode cX5_findSafest 264 = .ok (.istore_n 3, 1) := by decide +kernel
theorem dX5_findSafest_265 : decode cX5_findSafest 265 = .ok (.goto (-148), 3) := by decide +kernel
theorem dX5_findSafest_268 : decode cX5_findSafest 268 = .ok (.return_, 1) := by decide +kernel
theorem dX5_tellsSafest_0 : decode cX5_tellsSafest 0 = .ok (.aload_n 0, 1) := by decide +kernel
theorem dX5_tellsSafest_1 : decode cX5_tellsSafest 1 = .ok (.getfield 47, 3) := by decide +kernel
theorem dX5_tellsSafest_4 : decode cX5_tellsSafest 4 = .ok (.iconst 0, 1) := by decide +kernel
theorem dX5_tellsSafest_5 : decode cX5_tellsSafest 5 = .ok (.iaload, 1) := by decide +kernel
theorem dX5_tellsSafest_6 : decode cX5_tellsSafest 6 = .ok (.iconst (-1), 1) := by decide +kernel
theorem dX5_tellsSafest_7 : decode cX5_tellsSafest 7 = .ok (.if_icmp .ne 7, 3) := by decide +kernel
theorem dX5_tellsSafest_10 : decode cX5_tellsSafest 10 = .ok (.iconst 0, 1) := by decide +kernel
theorem dX5_tellsSafest_11 : decode cX5_tellsSafest 11 = .ok (.goto 9, 3) := by decide +kernel
theorem dX5_tellsSafest_14 : decode cX5_tellsSafest 14 = .ok (.aload_n 0, 1) := by decide +kernel
theorem dX5_tellsSafest_15 : decode cX5_tellsSafest 15 = .ok (.getfield 47, 3) := by decide +kernel
theorem dX5_tellsSafest_18 : decode cX5_tellsSafest 18 = .ok (.iconst 0, 1) := by decide +kernel
theorem dX5_tellsSafest_19 : decode cX5_tellsSafest 19 = .ok (.iaload, 1) := by decide +kernel
theorem dX5_tellsSafest_20 : decode cX5_tellsSafest 20 = .ok (.istore_n 2, 1) := by decide +kernel
theorem dX5_tellsSafest_21 : decode cX5_tellsSafest 21 = .ok (.iload_n 2, 1) := by decide +kernel
theorem dX5_tellsSafest_22 : decode cX5_tellsSafest 22 = .ok (.ldc 251, 2) := by decide +kernel
theorem dX5_tellsSafest_24 : decode cX5_tellsSafest 24 = .ok (.invokestatic 239, 3) := by decide +kernel
theorem dX5_tellsSafest_27 : decode cX5_tellsSafest 27 = .ok (.istore_n 3, 1) := by decide +kernel
theorem dX5_tellsSafest_28 : decode cX5_tellsSafest 28 = .ok (.iload_n 1, 1) := by decide +kernel
theorem dX5_tellsSafest_29 : decode cX5_tellsSafest 29 = .ok (.bipush (-2), 2) := by decide +kernel
theorem dX5_tellsSafest_31 : decode cX5_tellsSafest 31 = .ok (.if_icmp .ne 9, 3) := by decide +kernel
theorem dX5_tellsSafest_34 : decode cX5_tellsSafest 34 = .ok (.iload_n 2, 1) := by decide +kernel
theorem dX5_tellsSafest_35 : decode cX5_tellsSafest 35 = .ok (.iload_n 3, 1) := by decide +kernel
theorem dX5_tellsSafest_36 : decode cX5_tellsSafest 36 = .ok (.idiv, 1) := by decide +kernel
theorem dX5_tellsSafest_37 : decode cX5_tellsSafest 37 = .ok (.goto 33, 3) := by decide +kernel
theorem dX5_tellsSafest_40 : decode cX5_tellsSafest 40 = .ok (.iload_n 1, 1) := by decide +kernel
theorem dX5_tellsSafest_41 : decode cX5_tellsSafest 41 = .ok (.iconst (-1), 1) := by decide +kernel
theorem dX5_tellsSafest_42 : decode cX5_tellsSafest 42 = .ok (.if_icmp .ne 10, 3) := by decide +kernel
theorem dX5_tellsSafest_45 : decode cX5_tellsSafest 45 = .ok (.ldc 251, 2) := by decide +kernel
theorem dX5_tellsSafest_47 : decode cX5_tellsSafest 47 = .ok (.iload_n 3, 1) := by decide +kernel
theorem dX5_tellsSafest_48 : decode cX5_tellsSafest 48 = .ok (.idiv, 1) := by decide +kernel
theorem dX5_tellsSafest_49 : decode cX5_tellsSafest 49 = .ok (.goto 21, 3) := by decide +kernel
theorem dX5_tellsSafest_52 : decode cX5_tellsSafest 52 = .ok (.iload_n 1, 1) := by decide +kernel
theorem dX5_tellsSafest_53 : decode cX5_tellsSafest 53 = .ok (.aload_n 0, 1) := by decide +kernel
theorem dX5_tellsSafest_54 : decode cX5_tellsSafest 54 = .ok (.getfield 161, 3) := by decide +kernel
theorem dX5_tellsSafest_57 : decode cX5_tellsSafest 57 = .ok (.if_icmp .ge 12, 3) := by decide +kernel
theorem dX5_tellsSafest_60 : decode cX5_tellsSafest 60 = .ok (.aload_n 0, 1) := by decide +kernel
theorem dX5_tellsSafest_61 : decode cX5_tellsSafest 61 = .ok (.getfield 34, 3) := by decide +kernel
theorem dX5_tellsSafest_64 : decode cX5_tellsSafest 64 = .ok (.iload_n 1, 1) := by decide +kernel
theorem dX5_tellsSafest_65 : decode cX5_tellsSafest 65 = .ok (.iaload, 1) := by decide +kernel
theorem dX5_tellsSafest_66 : decode cX5_tellsSafest 66 = .ok (.goto 4, 3) := by decide +kernel
theorem dX5_tellsSafest_69 : decode cX5_tellsSafest 69 = .ok (.iconst (-1), 1) := by decide +kernel
theorem dX5_tellsSafest_70 : decode cX5_tellsSafest 70 = .ok (.ireturn, 1) := by decide +kernel
theorem dX5_safestOf_0 : decode cX5_safestOf 0 = .ok (.aload_n 0, 1) := by decide +kernel
theorem dX5_safestOf_1 : decode cX5_safestOf 1 = .ok (.iload_n 1, 1) := by decide +kernel
theorem dX5_safestOf_2 : decode cX5_safestOf 2 = .ok (.iload_n 2, 1) := by decide +kernel
theorem dX5_safestOf_3 : decode cX5_safestOf 3 = .ok (.invokevirtual 255, 3) := by decide +kernel
theorem dX5_safestOf_6 : decode cX5_safestOf 6 = .ok (.aload_n 0, 1) := by decide +kernel
theorem dX5_safestOf_7 : decode cX5_safestOf 7 = .ok (.iload_n 3, 1) := by decide +kernel
theorem dX5_safestOf_8 : decode cX5_safestOf 8 = .ok (.invokevirtual 259, 3) := by decide +kernel
theorem dX5_safestOf_11 : decode cX5_safestOf 11 = .ok (.ireturn, 1) := by decide +kernel
theorem dX5_safest_0 : decode cX5_safest 0 = .ok (.aload_n 0, 1) := by decide +kernel
theorem dX5_safest_1 : decode cX5_safest 1 = .ok (.invokevirtual 116, 3) := by decide +kernel
theorem dX5_safest_4 : decode cX5_safest 4 = .ok (.pop, 1) := by decide +kernel
theorem dX5_safest_5 : decode cX5_safest 5 = .ok (.iload_n 1, 1) := by decide +kernel
theorem dX5_safest_6 : decode cX5_safest 6 = .ok (.invokestatic 176, 3) := by decide +kernel
theorem dX5_safest_9 : decode cX5_safest 9 = .ok (.ifCond .eq 34, 3) := by decide +kernel
theorem dX5_safest_12 : decode cX5_safest 12 = .ok (.iload_n 2, 1) := by decide +kernel
theorem dX5_safest_13 : decode cX5_safest 13 = .ok (.invokestatic 129, 3) := by decide +kernel
theorem dX5_safest_16 : decode cX5_safest 16 = .ok (.ifCond .eq 27, 3) := by decide +kernel
theorem dX5_safest_19 : decode cX5_safest 19 = .ok (.iload_n 3, 1) := by decide +kernel
theorem dX5_safest_20 : decode cX5_safest 20 = .ok (.i2l, 1) := by decide +kernel
theorem dX5_safest_21 : decode cX5_safest 21 = .ok (.ldc2_w 262, 3) := by decide +kernel
theorem dX5_safest_24 : decode cX5_safest 24 = .ok (.ldc2_w 127, 3) := by decide +kernel
theorem dX5_safest_27 : decode cX5_safest 27 = .ok (.invokestatic 54, 3) := by decide +kernel
theorem dX5_safest_30 : decode cX5_safest 30 = .ok (.ifCond .eq 13, 3) := by decide +kernel
theorem dX5_safest_33 : decode cX5_safest 33 = .ok (.aload_n 0, 1) := by decide +kernel
theorem dX5_safest_34 : decode cX5_safest 34 = .ok (.iload_n 1, 1) := by decide +kernel
theorem dX5_safest_35 : decode cX5_safest 35 = .ok (.iload_n 2, 1) := by decide +kernel
theorem dX5_safest_36 : decode cX5_safest 36 = .ok (.iload_n 3, 1) := by decide +kernel
theorem dX5_safest_37 : decode cX5_safest 37 = .ok (.invokevirtual 264, 3) := by decide +kernel
theorem dX5_safest_40 : decode cX5_safest 40 = .ok (.goto 5, 3) := by decide +kernel
theorem dX5_safest_43 : decode cX5_safest 43 = .ok (.bipush (-2), 2) := by decide +kernel
theorem dX5_safest_45 : decode cX5_safest 45 = .ok (.ireturn, 1) := by decide +kernel
theorem dX5_worthOf_0 : decode cX5_worthOf 0 = .ok (.iconst 0, 1) := by decide +kernel
theorem dX5_worthOf_1 : decode cX5_worthOf 1 = .ok (.istore_n 3, 1) := by decide +kernel
theorem dX5_worthOf_2 : decode cX5_worthOf 2 = .ok (.aload_n 0, 1) := by decide +kernel
theorem dX5_worthOf_3 : decode cX5_worthOf 3 = .ok (.iload_n 1, 1) := by decide +kernel
theorem dX5_worthOf_4 : decode cX5_worthOf 4 = .ok (.iload_n 2, 1) := by decide +kernel
theorem dX5_worthOf_5 : decode cX5_worthOf 5 = .ok (.invokevirtual 190, 3) := by decide +kernel
theorem dX5_worthOf_8 : decode cX5_worthOf 8 = .ok (.istore 4, 2) := by decide +kernel
theorem dX5_worthOf_10 : decode cX5_worthOf 10 = .ok (.iload_n 2, 1) := by decide +kernel
theorem dX5_worthOf_11 : decode cX5_worthOf 11 = .ok (.istore 5, 2) := by decide +kernel
theorem dX5_worthOf_13 : decode cX5_worthOf 13 = .ok (.iload 5, 2) := by decide +kernel
theorem dX5_worthOf_15 : decode cX5_worthOf 15 = .ok (.iload_n 2, 1) := by decide +kernel
theorem dX5_worthOf_16 : decode cX5_worthOf 16 = .ok (.bipush 10, 2) := by decide +kernel
theorem dX5_worthOf_18 : decode cX5_worthOf 18 = .ok (.iadd, 1) := by decide +kernel
theorem dX5_worthOf_19 : decode cX5_worthOf 19 = .ok (.if_icmp .ge 60, 3) := by decide +kernel
theorem dX5_worthOf_22 : decode cX5_worthOf 22 = .ok (.iload 5, 2) := by decide +kernel
theorem dX5_worthOf_24 : decode cX5_worthOf 24 = .ok (.bipush 100, 2) := by decide +kernel
theorem dX5_worthOf_26 : decode cX5_worthOf 26 = .ok (.if_icmp .ge 53, 3) := by decide +kernel
theorem dX5_worthOf_29 : decode cX5_worthOf 29 = .ok (.iload_n 3, 1) := by decide +kernel
theorem dX5_worthOf_30 : decode cX5_worthOf 30 = .ok (.aload_n 0, 1) := by decide +kernel
theorem dX5_worthOf_31 : decode cX5_worthOf 31 = .ok (.iload_n 1, 1) := by decide +kernel
theorem dX5_worthOf_32 : decode cX5_worthOf 32 = .ok (.iload 5, 2) := by decide +kernel
theorem dX5_worthOf_34 : decode cX5_worthOf 34 = .ok (.invokevirtual 196, 3) := by decide +kernel
theorem dX5_worthOf_37 : decode cX5_worthOf 37 = .ok (.iconst (-1), 1) := by decide +kernel
theorem dX5_worthOf_38 : decode cX5_worthOf 38 = .ok (.if_icmp .ne 7, 3) := by decide +kernel
theorem dX5_worthOf_41 : decode cX5_worthOf 41 = .ok (.iconst 1, 1) := by decide +kernel
theorem dX5_worthOf_42 : decode cX5_worthOf 42 = .ok (.goto 4, 3) := by decide +kernel
theorem dX5_worthOf_45 : decode cX5_worthOf 45 = .ok (.iconst 0, 1) := by decide +kernel
theorem dX5_worthOf_46 : decode cX5_worthOf 46 = .ok (.iadd, 1) := by decide +kernel
theorem dX5_worthOf_47 : decode cX5_worthOf 47 = .ok (.istore_n 3, 1) := by decide +kernel
theorem dX5_worthOf_48 : decode cX5_worthOf 48 = .ok (.iload_n 3, 1) := by decide +kernel
theorem dX5_worthOf_49 : decode cX5_worthOf 49 = .ok (.aload_n 0, 1) := by decide +kernel
theorem dX5_worthOf_50 : decode cX5_worthOf 50 = .ok (.iload 4, 2) := by decide +kernel
theorem dX5_worthOf_52 : decode cX5_worthOf 52 = .ok (.aload_n 0, 1) := by decide +kernel
theorem dX5_worthOf_53 : decode cX5_worthOf 53 = .ok (.iload_n 1, 1) := by decide +kernel
theorem dX5_worthOf_54 : decode cX5_worthOf 54 = .ok (.iload 5, 2) := by decide +kernel
theorem dX5_worthOf_56 : decode cX5_worthOf 56 = .ok (.invokevirtual 167, 3) := by decide +kernel
theorem dX5_worthOf_59 : decode cX5_worthOf 59 = .ok (.invokevirtual 193, 3) := by decide +kernel
theorem dX5_worthOf_62 : decode cX5_worthOf 62 = .ok (.iconst (-1), 1) := by decide +kernel
theorem dX5_worthOf_63 : decode cX5_worthOf 63 = .ok (.if_icmp .ne 7, 3) := by decide +kernel
theorem dX5_worthOf_66 : decode cX5_worthOf 66 = .ok (.iconst 1, 1) := by decide +kernel
theorem dX5_worthOf_67 : decode cX5_worthOf 67 = .ok (.goto 4, 3) := by decide +kernel
theorem dX5_worthOf_70 : decode cX5_worthOf 70 = .ok (.iconst 0, 1) := by decide +kernel
theorem dX5_worthOf_71 : decode cX5_worthOf 71 = .ok (.isub, 1) := by decide +kernel
theorem dX5_worthOf_72 : decode cX5_worthOf 72 = .ok (.istore_n 3, 1) := by decide +kernel
theorem dX5_worthOf_73 : decode cX5_worthOf 73 = .ok (.iinc 5 1, 3) := by decide +kernel
theorem dX5_worthOf_76 : decode cX5_worthOf 76 = .ok (.goto (-63), 3) := by decide +kernel
theorem dX5_worthOf_79 : decode cX5_worthOf 79 = .ok (.iload_n 3, 1) := by decide +kernel
theorem dX5_worthOf_80 : decode cX5_worthOf 80 = .ok (.ireturn, 1) := by decide +kernel
theorem dX5_worth_0 : decode cX5_worth 0 = .ok (.aload_n 0, 1) := by decide +kernel
theorem dX5_worth_1 : decode cX5_worth 1 = .ok (.invokevirtual 116, 3) := by decide +kernel
theorem dX5_worth_4 : decode cX5_worth 4 = .ok (.pop, 1) := by decide +kernel
theorem dX5_worth_5 : decode cX5_worth 5 = .ok (.iload_n 1, 1) := by decide +kernel
theorem dX5_worth_6 : decode cX5_worth 6 = .ok (.invokestatic 176, 3) := by decide +kernel
theorem dX5_worth_9 : decode cX5_worth 9 = .ok (.ifCond .eq 19, 3) := by decide +kernel
theorem dX5_worth_12 : decode cX5_worth 12 = .ok (.iload_n 2, 1) := by decide +kernel
theorem dX5_worth_13 : decode cX5_worth 13 = .ok (.invokestatic 129, 3) := by decide +kernel
theorem dX5_worth_16 : decode cX5_worth 16 = .ok (.ifCond .eq 12, 3) := by decide +kernel
theorem dX5_worth_19 : decode cX5_worth 19 = .ok (.aload_n 0, 1) := by decide +kernel
theorem dX5_worth_20 : decode cX5_worth 20 = .ok (.iload_n 1, 1) := by decide +kernel
theorem dX5_worth_21 : decode cX5_worth 21 = .ok (.iload_n 2, 1) := by decide +kernel
theorem dX5_worth_22 : decode cX5_worth 22 = .ok (.invokevirtual 267, 3) := by decide +kernel
theorem dX5_worth_25 : decode cX5_worth 25 = .ok (.goto 5, 3) := by decide +kernel
theorem dX5_worth_28 : decode cX5_worth 28 = .ok (.bipush (-102), 2) := by decide +kernel
theorem dX5_worth_30 : decode cX5_worth 30 = .ok (.ireturn, 1) := by decide +kernel
theorem dX5_seasonOf_0 : decode cX5_seasonOf 0 = .ok (.iload_n 1, 1) := by decide +kernel
theorem dX5_seasonOf_1 : decode cX5_seasonOf 1 = .ok (.istore 5, 2) := by decide +kernel
theorem dX5_seasonOf_3 : decode cX5_seasonOf 3 = .ok (.iconst 0, 1) := by decide +kernel
theorem dX5_seasonOf_4 : decode cX5_seasonOf 4 = .ok (.istore 6, 2) := by decide +kernel
theorem dX5_seasonOf_6 : decode cX5_seasonOf 6 = .ok (.iload_n 3, 1) := by decide +kernel
theorem dX5_seasonOf_7 : decode cX5_seasonOf 7 = .ok (.istore 7, 2) := by decide +kernel
theorem dX5_seasonOf_9 : decode cX5_seasonOf 9 = .ok (.iload 7, 2) := by decide +kernel
theorem dX5_seasonOf_11 : decode cX5_seasonOf 11 = .ok (.iload_n 3, 1) := by decide +kernel
theorem dX5_seasonOf_12 : decode cX5_seasonOf 12 = .ok (.iload 4, 2) := by decide +kernel
theorem dX5_seasonOf_14 : decode cX5_seasonOf 14 = .ok (.iadd, 1) := by decide +kernel
theorem dX5_seasonOf_15 : decode cX5_seasonOf 15 = .ok (.if_icmp .ge 93, 3) := by decide +kernel
theorem dX5_seasonOf_18 : decode cX5_seasonOf 18 = .ok (.iload 7, 2) := by decide +kernel
theorem dX5_seasonOf_20 : decode cX5_seasonOf 20 = .ok (.bipush 100, 2) := by decide +kernel
theorem dX5_seasonOf_22 : decode cX5_seasonOf 22 = .ok (.if_icmp .ge 86, 3) := by decide +kernel
theorem dX5_seasonOf_25 : decode cX5_seasonOf 25 = .ok (.ldc_w 270, 3) := by decide +kernel
theorem dX5_seasonOf_28 : decode cX5_seasonOf 28 = .ok (.iload 5, 2) := by decide +kernel
theorem dX5_seasonOf_30 : decode cX5_seasonOf 30 = .ok (.imul, 1) := by decide +kernel
theorem dX5_seasonOf_31 : decode cX5_seasonOf 31 = .ok (.sipush 12345, 3) := by decide +kernel
theorem dX5_seasonOf_34 : decode cX5_seasonOf 34 = .ok (.iadd, 1) := by decide +kernel
theorem dX5_seasonOf_35 : decode cX5_seasonOf 35 = .ok (.istore 5, 2) := by decide +kernel
theorem dX5_seasonOf_37 : decode cX5_seasonOf 37 = .ok (.iload 5, 2) := by decide +kernel
theorem dX5_seasonOf_39 : decode cX5_seasonOf 39 = .ok (.bipush 16, 2) := by decide +kernel
theorem dX5_seasonOf_41 : decode cX5_seasonOf 41 = .ok (.iushr, 1) := by decide +kernel
theorem dX5_seasonOf_42 : decode cX5_seasonOf 42 = .ok (.bipush 16, 2) := by decide +kernel
theorem dX5_seasonOf_44 : decode cX5_seasonOf 44 = .ok (.irem, 1) := by decide +kernel
theorem dX5_seasonOf_45 : decode cX5_seasonOf 45 = .ok (.aload_n 0, 1) := by decide +kernel
theorem dX5_seasonOf_46 : decode cX5_seasonOf 46 = .ok (.getfield 50, 3) := by decide +kernel
theorem dX5_seasonOf_49 : decode cX5_seasonOf 49 = .ok (.if_icmp .lt 12, 3) := by decide +kernel
theorem dX5_seasonOf_52 : decode cX5_seasonOf 52 = .ok (.aload_n 0, 1) := by decide +kernel
theorem dX5_seasonOf_53 : decode cX5_seasonOf 53 = .ok (.iload 7, 2) := by decide +kernel
theorem dX5_seasonOf_55 : decode cX5_seasonOf 55 = .ok (.invokevirtual 144, 3) := by decide +kernel
theorem dX5_seasonOf_58 : decode cX5_seasonOf 58 = .ok (.ifCond .eq 7, 3) := by decide +kernel
theorem dX5_seasonOf_61 : decode cX5_seasonOf 61 = .ok (.iconst 1, 1) := by decide +kernel
theorem dX5_seasonOf_62 : decode cX5_seasonOf 62 = .ok (.goto 4, 3) := by decide +kernel
theorem dX5_seasonOf_65 : decode cX5_seasonOf 65 = .ok (.iconst 0, 1) := by decide +kernel
theorem dX5_seasonOf_66 : decode cX5_seasonOf 66 = .ok (.istore 8, 2) := by decide +kernel
theorem dX5_seasonOf_68 : decode cX5_seasonOf 68 = .ok (.iload 6, 2) := by decide +kernel
theorem dX5_seasonOf_70 : decode cX5_seasonOf 70 = .ok (.aload_n 0, 1) := by decide +kernel
theorem dX5_seasonOf_71 : decode cX5_seasonOf 71 = .ok (.aload_n 0, 1) := by decide +kernel
theorem dX5_seasonOf_72 : decode cX5_seasonOf 72 = .ok (.iload_n 2, 1) := by decide +kernel
theorem dX5_seasonOf_73 : decode cX5_seasonOf 73 = .ok (.iload 7, 2) := by decide +kernel
theorem dX5_seasonOf_75 : decode cX5_seasonOf 75 = .ok (.invokevirtual 190, 3) := by decide +kernel
theorem dX5_seasonOf_78 : decode cX5_seasonOf 78 = .ok (.aload_n 0, 1) := by decide +kernel
theorem dX5_seasonOf_79 : decode cX5_seasonOf 79 = .ok (.iload_n 2, 1) := by decide +kernel
theorem dX5_seasonOf_80 : decode cX5_seasonOf 80 = .ok (.iload 7, 2) := by decide +kernel
theorem dX5_seasonOf_82 : decode cX5_seasonOf 82 = .ok (.iload 8, 2) := by decide +kernel
theorem dX5_seasonOf_84 : decode cX5_seasonOf 84 = .ok (.invokevirtual 164, 3) := by decide +kernel
theorem dX5_seasonOf_87 : decode cX5_seasonOf 87 = .ok (.invokevirtual 193, 3) := by decide +kernel
theorem dX5_seasonOf_90 : decode cX5_seasonOf 90 = .ok (.iconst (-1), 1) := by decide +kernel
theorem dX5_seasonOf_91 : decode cX5_seasonOf 91 = .ok (.if_icmp .ne 7, 3) := by decide +kernel
theorem dX5_seasonOf_94 : decode cX5_seasonOf 94 = .ok (.iconst 1, 1) := by decide +kernel
theorem dX5_seasonOf_95 : decode cX5_seasonOf 95 = .ok (.goto 4, 3) := by decide +kernel
theorem dX5_seasonOf_98 : decode cX5_seasonOf 98 = .ok (.iconst 0, 1) := by decide +kernel
theorem dX5_seasonOf_99 : decode cX5_seasonOf 99 = .ok (.iadd, 1) := by decide +kernel
theorem dX5_seasonOf_100 : decode cX5_seasonOf 100 = .ok (.istore 6, 2) := by decide +kernel
theorem dX5_seasonOf_102 : decode cX5_seasonOf 102 = .ok (.iinc 7 1, 3) := by decide +kernel
theorem dX5_seasonOf_105 : decode cX5_seasonOf 105 = .ok (.goto (-96), 3) := by decide +kernel
theorem dX5_seasonOf_108 : decode cX5_seasonOf 108 = .ok (.iload 6, 2) := by decide +kernel
theorem dX5_seasonOf_110 : decode cX5_seasonOf 110 = .ok (.ireturn, 1) := by decide +kernel
theorem dX5_season_0 : decode cX5_season 0 = .ok (.aload_n 0, 1) := by decide +kernel
theorem dX5_season_1 : decode cX5_season 1 = .ok (.invokevirtual 116, 3) := by decide +kernel
theorem dX5_season_4 : decode cX5_season 4 = .ok (.pop, 1) := by decide +kernel
theorem dX5_season_5 : decode cX5_season 5 = .ok (.iload_n 2, 1) := by decide +kernel
theorem dX5_season_6 : decode cX5_season 6 = .ok (.invokestatic 176, 3) := by decide +kernel
theorem dX5_season_9 : decode cX5_season 9 = .ok (.ifCond .eq 35, 3) := by decide +kernel
theorem dX5_season_12 : decode cX5_season 12 = .ok (.iload_n 3, 1) := by decide +kernel
theorem dX5_season_13 : decode cX5_season 13 = .ok (.invokestatic 129, 3) := by decide +kernel
theorem dX5_season_16 : decode cX5_season 16 = .ok (.ifCond .eq 28, 3) := by decide +kernel
theorem dX5_season_19 : decode cX5_season 19 = .ok (.iload 4, 2) := by decide +kernel
theorem dX5_season_21 : decode cX5_season 21 = .ok (.i2l, 1) := by decide +kernel
theorem dX5_season_22 : decode cX5_season 22 = .ok (.lconst 0, 1) := by decide +kernel
theorem dX5_season_23 : decode cX5_season 23 = .ok (.ldc2_w 271, 3) := by decide +kernel
theorem dX5_season_26 : decode cX5_season 26 = .ok (.invokestatic 54, 3) := by decide +kernel
theorem dX5_season_29 : decode cX5_season 29 = .ok (.ifCond .eq 15, 3) := by decide +kernel
theorem dX5_season_32 : decode cX5_season 32 = .ok (.aload_n 0, 1) := by decide +kernel
theorem dX5_season_33 : decode cX5_season 33 = .ok (.iload_n 1, 1) := by decide +kernel
theorem dX5_season_34 : decode cX5_season 34 = .ok (.iload_n 2, 1) := by decide +kernel
theorem dX5_season_35 : decode cX5_season 35 = .ok (.iload_n 3, 1) := by decide +kernel
theorem dX5_season_36 : decode cX5_season 36 = .ok (.iload 4, 2) := by decide +kernel
theorem dX5_season_38 : decode cX5_season 38 = .ok (.invokevirtual 273, 3) := by decide +kernel
theorem dX5_season_41 : decode cX5_season 41 = .ok (.goto 5, 3) := by decide +kernel
theorem dX5_season_44 : decode cX5_season 44 = .ok (.bipush (-2), 2) := by decide +kernel
theorem dX5_season_46 : decode cX5_season 46 = .ok (.ireturn, 1) := by decide +kernel
theorem dX5_write_0 : decode cX5_write 0 = .ok (.iload_n 1, 1) := by decide +kernel
theorem dX5_write_1 : decode cX5_write 1 = .ok (.invokestatic 205, 3) := by decide +kernel
theorem dX5_write_4 : decode cX5_write 4 = .ok (.ifCond .eq 17, 3) := by decide +kernel
theorem dX5_write_7 : decode cX5_write 7 = .ok (.iload_n 2, 1) := by decide +kernel
theorem dX5_write_8 : decode cX5_write 8 = .ok (.invokestatic 129, 3) := by decide +kernel
theorem dX5_write_11 : decode cX5_write 11 = .ok (.ifCond .eq 10, 3) := by decide +kernel
theorem dX5_write_14 : decode cX5_write 14 = .ok (.iload_n 3, 1) := by decide +kernel
theorem dX5_write_15 : decode cX5_write 15 = .ok (.invokestatic 67, 3) := by decide +kernel
theorem dX5_write_18 : decode cX5_write 18 = .ok (.ifCond .ne 6, 3) := by decide +kernel
theorem dX5_write_21 : decode cX5_write 21 = .ok (.bipush (-2), 2) := by decide +kernel
theorem dX5_write_23 : decode cX5_write 23 = .ok (.ireturn, 1) := by decide +kernel
theorem dX5_write_24 : decode cX5_write 24 = .ok (.aload_n 0, 1) := by decide +kernel
theorem dX5_write_25 : decode cX5_write 25 = .ok (.getfield 7, 3) := by decide +kernel
theorem dX5_write_28 : decode cX5_write 28 = .ok (.iload_n 3, 1) := by decide +kernel
theorem dX5_write_29 : decode cX5_write 29 = .ok (.iaload, 1) := by decide +kernel
theorem dX5_write_30 : decode cX5_write 30 = .ok (.ifCond .ge 9, 3) := by decide +kernel
theorem dX5_write_33 : decode cX5_write 33 = .ok (.aload_n 0, 1) := by decide +kernel
theorem dX5_write_34 : decode cX5_write 34 = .ok (.iconst 1, 1) := by decide +kernel
theorem dX5_write_35 : decode cX5_write 35 = .ok (.invokevirtual 73, 3) := by decide +kernel
theorem dX5_write_38 : decode cX5_write 38 = .ok (.ireturn, 1) := by decide +kernel
theorem dX5_write_39 : decode cX5_write 39 = .ok (.aload_n 0, 1) := by decide +kernel
theorem dX5_write_40 : decode cX5_write 40 = .ok (.invokevirtual 116, 3) := by decide +kernel
theorem dX5_write_43 : decode cX5_write 43 = .ok (.pop, 1) := by decide +kernel
theorem dX5_write_44 : decode cX5_write 44 = .ok (.aload_n 0, 1) := by decide +kernel
theorem dX5_write_45 : decode cX5_write 45 = .ok (.getfield 13, 3) := by decide +kernel
theorem dX5_write_48 : decode cX5_write 48 = .ok (.iload_n 3, 1) := by decide +kernel
theorem dX5_write_49 : decode cX5_write 49 = .ok (.iaload, 1) := by decide +kernel
theorem dX5_write_50 : decode cX5_write 50 = .ok (.aload_n 0, 1) := by decide +kernel
theorem dX5_write_51 : decode cX5_write 51 = .ok (.getfield 94, 3) := by decide +kernel
theorem dX5_write_54 : decode cX5_write 54 = .ok (.invokestatic 58, 3) := by decide +kernel
theorem dX5_write_57 : decode cX5_write 57 = .ok (.istore 4, 2) := by decide +kernel
theorem dX5_write_59 : decode cX5_write 59 = .ok (.iconst 0, 1) := by decide +kernel
theorem dX5_write_60 : decode cX5_write 60 = .ok (.istore 5, 2) := by decide +kernel
theorem dX5_write_62 : decode cX5_write 62 = .ok (.iload 5, 2) := by decide +kernel
theorem dX5_write_64 : decode cX5_write 64 = .ok (.iload 4, 2) := by decide +kernel
theorem dX5_write_66 : decode cX5_write 66 = .ok (.if_icmp .ge 51, 3) := by decide +kernel
theorem dX5_write_69 : decode cX5_write 69 = .ok (.aload_n 0, 1) := by decide +kernel
theorem dX5_write_70 : decode cX5_write 70 = .ok (.getfield 16, 3) := by decide +kernel
theorem dX5_write_73 : decode cX5_write 73 = .ok (.bipush 60, 2) := by decide +kernel
theorem dX5_write_75 : decode cX5_write 75 = .ok (.iload_n 3, 1) := by decide +kernel
theorem dX5_write_76 : decode cX5_write 76 = .ok (.imul, 1) := by decide +kernel
theorem dX5_write_77 : decode cX5_write 77 = .ok (.iload 5, 2) := by decide +kernel
theorem dX5_write_79 : decode cX5_write 79 = .ok (.iadd, 1) := by decide +kernel
theorem dX5_write_80 : decode cX5_write 80 = .ok (.aload_n 0, 1) := by decide +kernel
theorem dX5_write_81 : decode cX5_write 81 = .ok (.getfield 7, 3) := by decide +kernel
theorem dX5_write_84 : decode cX5_write 84 = .ok (.iload_n 3, 1) := by decide +kernel
theorem dX5_write_85 : decode cX5_write 85 = .ok (.iaload, 1) := by decide +kernel
theorem dX5_write_86 : decode cX5_write 86 = .ok (.iload_n 1, 1) := by decide +kernel
theorem dX5_write_87 : decode cX5_write 87 = .ok (.ifCond .ne 13, 3) := by decide +kernel
theorem dX5_write_90 : decode cX5_write 90 = .ok (.aload_n 0, 1) := by decide +kernel
theorem dX5_write_91 : decode cX5_write 91 = .ok (.iload 5, 2) := by decide +kernel
theorem dX5_write_93 : decode cX5_write 93 = .ok (.iload_n 2, 1) := by decide +kernel
theorem dX5_write_94 : decode cX5_write 94 = .ok (.invokevirtual 151, 3) := by decide +kernel
theorem dX5_write_97 : decode cX5_write 97 = .ok (.goto 10, 3) := by decide +kernel
theorem dX5_write_100 : decode cX5_write 100 = .ok (.aload_n 0, 1) := by decide +kernel
theorem dX5_write_101 : decode cX5_write 101 = .ok (.iload 5, 2) := by decide +kernel
theorem dX5_write_103 : decode cX5_write 103 = .ok (.iload_n 2, 1) := by decide +kernel
theorem dX5_write_104 : decode cX5_write 104 = .ok (.invokevirtual 154, 3) := by decide +kernel
theorem dX5_write_107 : decode cX5_write 107 = .ok (.invokestatic 81, 3) := by decide +kernel
theorem dX5_write_110 : decode cX5_write 110 = .ok (.iastore, 1) := by decide +kernel
theorem dX5_write_111 : decode cX5_write 111 = .ok (.iinc 5 1, 3) := by decide +kernel
theorem dX5_write_114 : decode cX5_write 114 = .ok (.goto (-52), 3) := by decide +kernel
theorem dX5_write_117 : decode cX5_write 117 = .ok (.iload 4, 2) := by decide +kernel
theorem dX5_write_119 : decode cX5_write 119 = .ok (.ireturn, 1) := by decide +kernel
theorem dX5_count_0 : decode cX5_count 0 = .ok (.iconst 0, 1) := by decide +kernel
theorem dX5_count_1 : decode cX5_count 1 = .ok (.istore_n 2, 1) := by decide +kernel
theorem dX5_count_2 : decode cX5_count 2 = .ok (.aload_n 0, 1) := by decide +kernel
theorem dX5_count_3 : decode cX5_count 3 = .ok (.invokevirtual 116, 3) := by decide +kernel
theorem dX5_count_6 : decode cX5_count 6 = .ok (.pop, 1) := by decide +kernel
theorem dX5_count_7 : decode cX5_count 7 = .ok (.iload_n 1, 1) := by decide +kernel
theorem dX5_count_8 : decode cX5_count 8 = .ok (.tableswitch 161 0 8 #[52, 57, 62, 67, 72, 77, 108, 148, 156], 52) := by decide +kernel
theorem dX5_count_60 : decode cX5_count 60 = .ok (.aload_n 0, 1) := by decide +kernel
theorem dX5_count_61 : decode cX5_count 61 = .ok (.getfield 94, 3) := by decide +kernel
theorem dX5_count_64 : decode cX5_count 64 = .ok (.ireturn, 1) := by decide +kernel
theorem dX5_count_65 : decode cX5_count 65 = .ok (.aload_n 0, 1) := by decide +kernel
theorem dX5_count_66 : decode cX5_count 66 = .ok (.getfield 87, 3) := by decide +kernel
theorem dX5_count_69 : decode cX5_count 69 = .ok (.ireturn, 1) := by decide +kernel
theorem dX5_count_70 : decode cX5_count 70 = .ok (.aload_n 0, 1) := by decide +kernel
theorem dX5_count_71 : decode cX5_count 71 = .ok (.getfield 132, 3) := by decide +kernel
theorem dX5_count_74 : decode cX5_count 74 = .ok (.ireturn, 1) := by decide +kernel
theorem dX5_count_75 : decode cX5_count 75 = .ok (.aload_n 0, 1) := by decide +kernel
theorem dX5_count_76 : decode cX5_count 76 = .ok (.getfield 213, 3) := by decide +kernel
theorem dX5_count_79 : decode cX5_count 79 = .ok (.ireturn, 1) := by decide +kernel
theorem dX5_count_80 : decode cX5_count 80 = .ok (.aload_n 0, 1) := by decide +kernel
theorem dX5_count_81 : decode cX5_count 81 = .ok (.getfield 50, 3) := by decide +kernel
theorem dX5_count_84 : decode cX5_count 84 = .ok (.ireturn, 1) := by decide +kernel
theorem dX5_count_85 : decode cX5_count 85 = .ok (.iconst 0, 1) := by decide +kernel
theorem dX5_count_86 : decode cX5_count 86 = .ok (.istore_n 3, 1) := by decide +kernel
theorem dX5_count_87 : decode cX5_count 87 = .ok (.iload_n 3, 1) := by decide +kernel
theorem dX5_count_88 : decode cX5_count 88 = .ok (.aload_n 0, 1) := by decide +kernel
theorem dX5_count_89 : decode cX5_count 89 = .ok (.getfield 94, 3) := by decide +kernel
theorem dX5_count_92 : decode cX5_count 92 = .ok (.if_icmp .ge 22, 3) := by decide +kernel
theorem dX5_count_95 : decode cX5_count 95 = .ok (.iload_n 2, 1) := by decide +kernel
theorem dX5_count_96 : decode cX5_count 96 = .ok (.aload_n 0, 1) := by decide +kernel
theorem dX5_count_97 : decode cX5_count 97 = .ok (.getfield 25, 3) := by decide +kernel
theorem dX5_count_100 : decode cX5_count 100 = .ok (.iconst 5, 1) := by decide +kernel
theorem dX5_count_101 : decode cX5_count 101 = .ok (.iload_n 3, 1) := by decide +kernel
theorem dX5_count_102 : decode cX5_count 102 = .ok (.imul, 1) := by decide +kernel
theorem dX5_count_103 : decode cX5_count 103 = .ok (.iconst 2, 1) := by decide +kernel
theorem dX5_count_104 : decode cX5_count 104 = .ok (.iadd, 1) := by decide +kernel
theorem dX5_count_105 : decode cX5_count 105 = .ok (.iaload, 1) := by decide +kernel
theorem dX5_count_106 : decode cX5_count 106 = .ok (.iadd, 1) := by decide +kernel
theorem dX5_count_107 : decode cX5_count 107 = .ok (.istore_n 2, 1) := by decide +kernel
theorem dX5_count_108 : decode cX5_count 108 = .ok (.iinc 3 1, 3) := by decide +kernel
theorem dX5_count_111 : decode cX5_count 111 = .ok (.goto (-24), 3) := by decide +kernel
theorem dX5_count_114 : decode cX5_count 114 = .ok (.iload_n 2, 1) := by decide +kernel
theorem dX5_count_115 : decode cX5_count 115 = .ok (.ireturn, 1) := by decide +kernel
theorem dX5_count_116 : decode cX5_count 116 = .ok (.iconst 0, 1) := by decide +kernel
theorem dX5_count_117 : decode cX5_count 117 = .ok (.istore_n 3, 1) := by decide +kernel
theorem dX5_count_118 : decode cX5_count 118 = .ok (.iload_n 3, 1) := by decide +kernel
theorem dX5_count_119 : decode cX5_count 119 = .ok (.aload_n 0, 1) := by decide +kernel
theorem dX5_count_120 : decode cX5_count 120 = .ok (.getfield 94, 3) := by decide +kernel
theorem dX5_count_123 : decode cX5_count 123 = .ok (.if_icmp .ge 31, 3) := by decide +kernel
theorem dX5_count_126 : decode cX5_count 126 = .ok (.iload_n 2, 1) := by decide +kernel
theorem dX5_count_127 : decode cX5_count 127 = .ok (.aload_n 0, 1) := by decide +kernel
theorem dX5_count_128 : decode cX5_count 128 = .ok (.getfield 25, 3) := by decide +kernel
theorem dX5_count_131 : decode cX5_count 131 = .ok (.iconst 5, 1) := by decide +kernel
theorem dX5_count_132 : decode cX5_count 132 = .ok (.iload_n 3, 1) := by decide +kernel
theorem dX5_count_133 : decode cX5_count 133 = .ok (.imul, 1) := by decide +kernel
theorem dX5_count_134 : decode cX5_count 134 = .ok (.iconst 3, 1) := by decide +kernel
theorem dX5_count_135 : decode cX5_count 135 = .ok (.iadd, 1) := by decide +kernel
theorem dX5_count_136 : decode cX5_count 136 = .ok (.iaload, 1) := by decide +kernel
theorem dX5_count_137 : decode cX5_count 137 = .ok (.iconst 4, 1) := by decide +kernel
theorem dX5_count_138 : decode cX5_count 138 = .ok (.if_icmp .ne 7, 3) := by decide +kernel
theorem dX5_count_141 : decode cX5_count 141 = .ok (.iconst 1, 1) := by decide +kernel
theorem dX5_count_142 : decode cX5_count 142 = .ok (.goto 4, 3) := by decide +kernel
theorem dX5_count_145 : decode cX5_count 145 = .ok (.iconst 0, 1) := by decide +kernel
theorem dX5_count_146 : decode cX5_count 146 = .ok (.iadd, 1) := by decide +kernel
theorem dX5_count_147 : decode cX5_count 147 = .ok (.istore_n 2, 1) := by decide +kernel
theorem dX5_count_148 : decode cX5_count 148 = .ok (.iinc 3 1, 3) := by decide +kernel
theorem dX5_count_151 : decode cX5_count 151 = .ok (.goto (-33), 3) := by decide +kernel
theorem dX5_count_154 : decode cX5_count 154 = .ok (.iload_n 2, 1) := by decide +kernel
theorem dX5_count_155 : decode cX5_count 155 = .ok (.ireturn, 1) := by decide +kernel
theorem dX5_count_156 : decode cX5_count 156 = .ok (.aload_n 0, 1) := by decide +kernel
theorem dX5_count_157 : decode cX5_count 157 = .ok (.ldc_w 276, 3) := by decide +kernel
theorem dX5_count_160 : decode cX5_count 160 = .ok (.invokevirtual 170, 3) := by decide +kernel
theorem dX5_count_163 : decode cX5_count 163 = .ok (.ireturn, 1) := by decide +kernel
theorem dX5_count_164 : decode cX5_count 164 = .ok (.aload_n 0, 1) := by decide +kernel
theorem dX5_count_165 : decode cX5_count 165 = .ok (.getfield 62, 3) := by decide +kernel
theorem dX5_count_168 : decode cX5_count 168 = .ok (.ireturn, 1) := by decide +kernel
theorem dX5_count_169 : decode cX5_count 169 = .ok (.bipush (-2), 2) := by decide +kernel
theorem dX5_count_171 : decode cX5_count 171 = .ok (.ireturn, 1) := by decide +kernel
theorem dX5_tellsNow_0 : decode cX5_tellsNow 0 = .ok (.ldc2_w 277, 3) := by decide +kernel
theorem dX5_tellsNow_3 : decode cX5_tellsNow 3 = .ok (.lload_n 1, 1) := by decide +kernel
theorem dX5_tellsNow_4 : decode cX5_tellsNow 4 = .ok (.lmul, 1) := by decide +kernel
theorem dX5_tellsNow_5 : decode cX5_tellsNow 5 = .ok (.aload_n 0, 1) := by decide +kernel
theorem dX5_tellsNow_6 : decode cX5_tellsNow 6 = .ok (.iload_n 3, 1) := by decide +kernel
theorem dX5_tellsNow_7 : decode cX5_tellsNow 7 = .ok (.iload 4, 2) := by decide +kernel
theorem dX5_tellsNow_9 : decode cX5_tellsNow 9 = .ok (.iconst (-1), 1) := by decide +kernel
theorem dX5_tellsNow_10 : decode cX5_tellsNow 10 = .ok (.invokevirtual 181, 3) := by decide +kernel
theorem dX5_tellsNow_13 : decode cX5_tellsNow 13 = .ok (.i2l, 1) := by decide +kernel
theorem dX5_tellsNow_14 : decode cX5_tellsNow 14 = .ok (.ladd, 1) := by decide +kernel
theorem dX5_tellsNow_15 : decode cX5_tellsNow 15 = .ok (.lstore 5, 2) := by decide +kernel
theorem dX5_tellsNow_17 : decode cX5_tellsNow 17 = .ok (.ldc2_w 277, 3) := by decide +kernel
theorem dX5_tellsNow_20 : decode cX5_tellsNow 20 = .ok (.lload 5, 2) := by decide +kernel
theorem dX5_tellsNow_22 : decode cX5_tellsNow 22 = .ok (.lmul, 1) := by decide +kernel
theorem dX5_tellsNow_23 : decode cX5_tellsNow 23 = .ok (.aload_n 0, 1) := by decide +kernel
theorem dX5_tellsNow_24 : decode cX5_tellsNow 24 = .ok (.iload_n 3, 1) := by decide +kernel
theorem dX5_tellsNow_25 : decode cX5_tellsNow 25 = .ok (.iload 4, 2) := by decide +kernel
theorem dX5_tellsNow_27 : decode cX5_tellsNow 27 = .ok (.iconst 0, 1) := by decide +kernel
theorem dX5_tellsNow_28 : decode cX5_tellsNow 28 = .ok (.invokevirtual 181, 3) := by decide +kernel
theorem dX5_tellsNow_31 : decode cX5_tellsNow 31 = .ok (.i2l, 1) := by decide +kernel
theorem dX5_tellsNow_32 : decode cX5_tellsNow 32 = .ok (.ladd, 1) := by decide +kernel
theorem dX5_tellsNow_33 : decode cX5_tellsNow 33 = .ok (.lstore 5, 2) := by decide +kernel
theorem dX5_tellsNow_35 : decode cX5_tellsNow 35 = .ok (.ldc2_w 277, 3) := by decide +kernel
theorem dX5_tellsNow_38 : decode cX5_tellsNow 38 = .ok (.lload 5, 2) := by decide +kernel
theorem dX5_tellsNow_40 : decode cX5_tellsNow 40 = .ok (.lmul, 1) := by decide +kernel
theorem dX5_tellsNow_41 : decode cX5_tellsNow 41 = .ok (.aload_n 0, 1) := by decide +kernel
theorem dX5_tellsNow_42 : decode cX5_tellsNow 42 = .ok (.iload_n 3, 1) := by decide +kernel
theorem dX5_tellsNow_43 : decode cX5_tellsNow 43 = .ok (.iload 4, 2) := by decide +kernel
theorem dX5_tellsNow_45 : decode cX5_tellsNow 45 = .ok (.invokevirtual 187, 3) := by decide +kernel
theorem dX5_tellsNow_48 : decode cX5_tellsNow 48 = .ok (.i2l, 1) := by decide +kernel
theorem dX5_tellsNow_49 : decode cX5_tellsNow 49 = .ok (.ladd, 1) := by decide +kernel
theorem dX5_tellsNow_50 : decode cX5_tellsNow 50 = .ok (.lstore 5, 2) := by decide +kernel
theorem dX5_tellsNow_52 : decode cX5_tellsNow 52 = .ok (.ldc2_w 277, 3) := by decide +kernel
theorem dX5_tellsNow_55 : decode cX5_tellsNow 55 = .ok (.lload 5, 2) := by decide +kernel
theorem dX5_tellsNow_57 : decode cX5_tellsNow 57 = .ok (.lmul, 1) := by decide +kernel
theorem dX5_tellsNow_58 : decode cX5_tellsNow 58 = .ok (.aload_n 0, 1) := by decide +kernel
theorem dX5_tellsNow_59 : decode cX5_tellsNow 59 = .ok (.iload_n 3, 1) := by decide +kernel
theorem dX5_tellsNow_60 : decode cX5_tellsNow 60 = .ok (.iload 4, 2) := by decide +kernel
theorem dX5_tellsNow_62 : decode cX5_tellsNow 62 = .ok (.invokevirtual 196, 3) := by decide +kernel
theorem dX5_tellsNow_65 : decode cX5_tellsNow 65 = .ok (.i2l, 1) := by decide +kernel
theorem dX5_tellsNow_66 : decode cX5_tellsNow 66 = .ok (.ladd, 1) := by decide +kernel
theorem dX5_tellsNow_67 : decode cX5_tellsNow 67 = .ok (.lstore 5, 2) := by decide +kernel
theorem dX5_tellsNow_69 : decode cX5_tellsNow 69 = .ok (.ldc2_w 277, 3) := by decide +kernel
theorem dX5_tellsNow_72 : decode cX5_tellsNow 72 = .ok (.lload 5, 2) := by decide +kernel
theorem dX5_tellsNow_74 : decode cX5_tellsNow 74 = .ok (.lmul, 1) := by decide +kernel
theorem dX5_tellsNow_75 : decode cX5_tellsNow 75 = .ok (.aload_n 0, 1) := by decide +kernel
theorem dX5_tellsNow_76 : decode cX5_tellsNow 76 = .ok (.iload_n 3, 1) := by decide +kernel
theorem dX5_tellsNow_77 : decode cX5_tellsNow 77 = .ok (.iload 4, 2) := by decide +kernel
theorem dX5_tellsNow_79 : decode cX5_tellsNow 79 = .ok (.invokevirtual 202, 3) := by decide +kernel
theorem dX5_tellsNow_82 : decode cX5_tellsNow 82 = .ok (.i2l, 1) := by decide +kernel
theorem dX5_tellsNow_83 : decode cX5_tellsNow 83 = .ok (.ladd, 1) := by decide +kernel
theorem dX5_tellsNow_84 : decode cX5_tellsNow 84 = .ok (.lstore 5, 2) := by decide +kernel
theorem dX5_tellsNow_86 : decode cX5_tellsNow 86 = .ok (.ldc2_w 277, 3) := by decide +kernel
theorem dX5_tellsNow_89 : decode cX5_tellsNow 89 = .ok (.lload 5, 2) := by decide +kernel
theorem dX5_tellsNow_91 : decode cX5_tellsNow 91 = .ok (.lmul, 1) := by decide +kernel
theorem dX5_tellsNow_92 : decode cX5_tellsNow 92 = .ok (.aload_n 0, 1) := by decide +kernel
theorem dX5_tellsNow_93 : decode cX5_tellsNow 93 = .ok (.iload_n 3, 1) := by decide +kernel
theorem dX5_tellsNow_94 : decode cX5_tellsNow 94 = .ok (.iload 4, 2) := by decide +kernel
theorem dX5_tellsNow_96 : decode cX5_tellsNow 96 = .ok (.iconst 0, 1) := by decide +kernel
theorem dX5_tellsNow_97 : decode cX5_tellsNow 97 = .ok (.invokevirtual 242, 3) := by decide +kernel
theorem dX5_tellsNow_100 : decode cX5_tellsNow 100 = .ok (.i2l, 1) := by decide +kernel
theorem dX5_tellsNow_101 : decode cX5_tellsNow 101 = .ok (.ladd, 1) := by decide +kernel
theorem dX5_tellsNow_102 : decode cX5_tellsNow 102 = .ok (.lstore 5, 2) := by decide +kernel
theorem dX5_tellsNow_104 : decode cX5_tellsNow 104 = .ok (.ldc2_w 277, 3) := by decide +kernel
theorem dX5_tellsNow_107 : decode cX5_tellsNow 107 = .ok (.lload 5, 2) := by decide +kernel
theorem dX5_tellsNow_109 : decode cX5_tellsNow 109 = .ok (.lmul, 1) := by decide +kernel
theorem dX5_tellsNow_110 : decode cX5_tellsNow 110 = .ok (.aload_n 0, 1) := by decide +kernel
theorem dX5_tellsNow_111 : decode cX5_tellsNow 111 = .ok (.iload_n 3, 1) := by decide +kernel
theorem dX5_tellsNow_112 : decode cX5_tellsNow 112 = .ok (.iload 4, 2) := by decide +kernel
theorem dX5_tellsNow_114 : decode cX5_tellsNow 114 = .ok (.iconst 1, 1) := by decide +kernel
theorem dX5_tellsNow_115 : decode cX5_tellsNow 115 = .ok (.invokevirtual 242, 3) := by decide +kernel
theorem dX5_tellsNow_118 : decode cX5_tellsNow 118 = .ok (.i2l, 1) := by decide +kernel
theorem dX5_tellsNow_119 : decode cX5_tellsNow 119 = .ok (.ladd, 1) := by decide +kernel
theorem dX5_tellsNow_120 : decode cX5_tellsNow 120 = .ok (.lstore 5, 2) := by decide +kernel
theorem dX5_tellsNow_122 : decode cX5_tellsNow 122 = .ok (.ldc2_w 277, 3) := by decide +kernel
theorem dX5_tellsNow_125 : decode cX5_tellsNow 125 = .ok (.lload 5, 2) := by decide +kernel
theorem dX5_tellsNow_127 : decode cX5_tellsNow 127 = .ok (.lmul, 1) := by decide +kernel
theorem dX5_tellsNow_128 : decode cX5_tellsNow 128 = .ok (.aload_n 0, 1) := by decide +kernel
theorem dX5_tellsNow_129 : decode cX5_tellsNow 129 = .ok (.iload_n 3, 1) := by decide +kernel
theorem dX5_tellsNow_130 : decode cX5_tellsNow 130 = .ok (.iload 4, 2) := by decide +kernel
theorem dX5_tellsNow_132 : decode cX5_tellsNow 132 = .ok (.iconst 0, 1) := by decide +kernel
theorem dX5_tellsNow_133 : decode cX5_tellsNow 133 = .ok (.invokevirtual 245, 3) := by decide +kernel
theorem dX5_tellsNow_136 : decode cX5_tellsNow 136 = .ok (.i2l, 1) := by decide +kernel
theorem dX5_tellsNow_137 : decode cX5_tellsNow 137 = .ok (.ladd, 1) := by decide +kernel
theorem dX5_tellsNow_138 : decode cX5_tellsNow 138 = .ok (.lstore 5, 2) := by decide +kernel
theorem dX5_tellsNow_140 : decode cX5_tellsNow 140 = .ok (.aload_n 0, 1) := by decide +kernel
theorem dX5_tellsNow_141 : decode cX5_tellsNow 141 = .ok (.iload_n 3, 1) := by decide +kernel
theorem dX5_tellsNow_142 : decode cX5_tellsNow 142 = .ok (.iload 4, 2) := by decide +kernel
theorem dX5_tellsNow_144 : decode cX5_tellsNow 144 = .ok (.invokevirtual 255, 3) := by decide +kernel
theorem dX5_tellsNow_147 : decode cX5_tellsNow 147 = .ok (.bipush (-2), 2) := by decide +kernel
theorem dX5_tellsNow_149 : decode cX5_tellsNow 149 = .ok (.istore 7, 2) := by decide +kernel
theorem dX5_tellsNow_151 : decode cX5_tellsNow 151 = .ok (.iload 7, 2) := by decide +kernel
theorem dX5_tellsNow_153 : decode cX5_tellsNow 153 = .ok (.iconst 1, 1) := by decide +kernel
theorem dX5_tellsNow_154 : decode cX5_tellsNow 154 = .ok (.if_icmp .ge 25, 3) := by decide +kernel
theorem dX5_tellsNow_157 : decode cX5_tellsNow 157 = .ok (.ldc2_w 277, 3) := by decide +kernel
theorem dX5_tellsNow_160 : decode cX5_tellsNow 160 = .ok (.lload 5, 2) := by decide +kernel
theorem dX5_tellsNow_162 : decode cX5_tellsNow 162 = .ok (.lmul, 1) := by decide +kernel
theorem dX5_tellsNow_163 : decode cX5_tellsNow 163 = .ok (.aload_n 0, 1) := by decide +kernel
theorem dX5_tellsNow_164 : decode cX5_tellsNow 164 = .ok (.iload 7, 2) := by decide +kernel
theorem dX5_tellsNow_166 : decode cX5_tellsNow 166 = .ok (.invokevirtual 259, 3) := by decide +kernel
theorem dX5_tellsNow_169 : decode cX5_tellsNow 169 = .ok (.i2l, 1) := by decide +kernel
theorem dX5_tellsNow_170 : decode cX5_tellsNow 170 = .ok (.ladd, 1) := by decide +kernel
theorem dX5_tellsNow_171 : decode cX5_tellsNow 171 = .ok (.lstore 5, 2) := by decide +kernel
theorem dX5_tellsNow_173 : decode cX5_tellsNow 173 = .ok (.iinc 7 1, 3) := by decide +kernel
theorem dX5_tellsNow_176 : decode cX5_tellsNow 176 = .ok (.goto (-25), 3) := by decide +kernel
theorem dX5_tellsNow_179 : decode cX5_tellsNow 179 = .ok (.ldc2_w 277, 3) := by decide +kernel
theorem dX5_tellsNow_182 : decode cX5_tellsNow 182 = .ok (.lload 5, 2) := by decide +kernel
theorem dX5_tellsNow_184 : decode cX5_tellsNow 184 = .ok (.lmul, 1) := by decide +kernel
theorem dX5_tellsNow_185 : decode cX5_tellsNow 185 = .ok (.aload_n 0, 1) := by decide +kernel
theorem dX5_tellsNow_186 : decode cX5_tellsNow 186 = .ok (.iload_n 3, 1) := by decide +kernel
theorem dX5_tellsNow_187 : decode cX5_tellsNow 187 = .ok (.iload 4, 2) := by decide +kernel
theorem dX5_tellsNow_189 : decode cX5_tellsNow 189 = .ok (.invokevirtual 267, 3) := by decide +kernel
theorem dX5_tellsNow_192 : decode cX5_tellsNow 192 = .ok (.i2l, 1) := by decide +kernel
theorem dX5_tellsNow_193 : decode cX5_tellsNow 193 = .ok (.ladd, 1) := by decide +kernel
theorem dX5_tellsNow_194 : decode cX5_tellsNow 194 = .ok (.lreturn, 1) := by decide +kernel
theorem dX5_digest_0 : decode cX5_digest 0 = .ok (.ldc2_w 279, 3) := by decide +kernel
theorem dX5_digest_3 : decode cX5_digest 3 = .ok (.lstore_n 1, 1) := by decide +kernel
theorem dX5_digest_4 : decode cX5_digest 4 = .ok (.iconst 0, 1) := by decide +kernel
theorem dX5_digest_5 : decode cX5_digest 5 = .ok (.istore_n 3, 1) := by decide +kernel
theorem dX5_digest_6 : decode cX5_digest 6 = .ok (.iload_n 3, 1) := by decide +kernel
theorem dX5_digest_7 : decode cX5_digest 7 = .ok (.bipush 8, 2) := by decide +kernel
theorem dX5_digest_9 : decode cX5_digest 9 = .ok (.if_icmp .ge 22, 3) := by decide +kernel
theorem dX5_digest_12 : decode cX5_digest 12 = .ok (.ldc2_w 277, 3) := by decide +kernel
theorem dX5_digest_15 : decode cX5_digest 15 = .ok (.lload_n 1, 1) := by decide +kernel
theorem dX5_digest_16 : decode cX5_digest 16 = .ok (.lmul, 1) := by decide +kernel
theorem dX5_digest_17 : decode cX5_digest 17 = .ok (.aload_n 0, 1) := by decide +kernel
theorem dX5_digest_18 : decode cX5_digest 18 = .ok (.iload_n 3, 1) := by decide +kernel
theorem dX5_digest_19 : decode cX5_digest 19 = .ok (.invokevirtual 281, 3) := by decide +kernel
theorem dX5_digest_22 : decode cX5_digest 22 = .ok (.i2l, 1) := by decide +kernel
theorem dX5_digest_23 : decode cX5_digest 23 = .ok (.ladd, 1) := by decide +kernel
theorem dX5_digest_24 : decode cX5_digest 24 = .ok (.lstore_n 1, 1) := by decide +kernel
theorem dX5_digest_25 : decode cX5_digest 25 = .ok (.iinc 3 1, 3) := by decide +kernel
theorem dX5_digest_28 : decode cX5_digest 28 = .ok (.goto (-22), 3) := by decide +kernel
theorem dX5_digest_31 : decode cX5_digest 31 = .ok (.ldc2_w 277, 3) := by decide +kernel
theorem dX5_digest_34 : decode cX5_digest 34 = .ok (.lload_n 1, 1) := by decide +kernel
theorem dX5_digest_35 : decode cX5_digest 35 = .ok (.lmul, 1) := by decide +kernel
theorem dX5_digest_36 : decode cX5_digest 36 = .ok (.aload_n 0, 1) := by decide +kernel
theorem dX5_digest_37 : decode cX5_digest 37 = .ok (.invokevirtual 116, 3) := by decide +kernel
theorem dX5_digest_40 : decode cX5_digest 40 = .ok (.i2l, 1) := by decide +kernel
theorem dX5_digest_41 : decode cX5_digest 41 = .ok (.ladd, 1) := by decide +kernel
theorem dX5_digest_42 : decode cX5_digest 42 = .ok (.lstore_n 1, 1) := by decide +kernel
theorem dX5_digest_43 : decode cX5_digest 43 = .ok (.iconst 0, 1) := by decide +kernel
theorem dX5_digest_44 : decode cX5_digest 44 = .ok (.istore_n 3, 1) := by decide +kernel
theorem dX5_digest_45 : decode cX5_digest 45 = .ok (.iload_n 3, 1) := by decide +kernel
theorem dX5_digest_46 : decode cX5_digest 46 = .ok (.aload_n 0, 1) := by decide +kernel
theorem dX5_digest_47 : decode cX5_digest 47 = .ok (.getfield 94, 3) := by decide +kernel
theorem dX5_digest_50 : decode cX5_digest 50 = .ok (.if_icmp .ge 130, 3) := by decide +kernel
theorem dX5_digest_53 : decode cX5_digest 53 = .ok (.iconst 0, 1) := by decide +kernel
theorem dX5_digest_54 : decode cX5_digest 54 = .ok (.istore 4, 2) := by decide +kernel
theorem dX5_digest_56 : decode cX5_digest 56 = .ok (.iload 4, 2) := by decide +kernel
theorem dX5_digest_58 : decode cX5_digest 58 = .ok (.iconst 5, 1) := by decide +kernel
theorem dX5_digest_59 : decode cX5_digest 59 = .ok (.if_icmp .ge 28, 3) := by decide +kernel
theorem dX5_digest_62 : decode cX5_digest 62 = .ok (.ldc2_w 277, 3) := by decide +kernel
theorem dX5_digest_65 : decode cX5_digest 65 = .ok (.lload_n 1, 1) := by decide +kernel
theorem dX5_digest_66 : decode cX5_digest 66 = .ok (.lmul, 1) := by decide +kernel
theorem dX5_digest_67 : decode cX5_digest 67 = .ok (.aload_n 0, 1) := by decide +kernel
theorem dX5_digest_68 : decode cX5_digest 68 = .ok (.getfield 25, 3) := by decide +kernel
theorem dX5_digest_71 : decode cX5_digest 71 = .ok (.iconst 5, 1) := by decide +kernel
theorem dX5_digest_72 : decode cX5_digest 72 = .ok (.iload_n 3, 1) := by decide +kernel
theorem dX5_digest_73 : decode cX5_digest 73 = .ok (.imul, 1) := by decide +kernel
theorem dX5_digest_74 : decode cX5_digest 74 = .ok (.iload 4, 2) := by decide +kernel
theorem dX5_digest_76 : decode cX5_digest 76 = .ok (.iadd, 1) := by decide +kernel
theorem dX5_digest_77 : decode cX5_digest 77 = .ok (.iaload, 1) := by decide +kernel
theorem dX5_digest_78 : decode cX5_digest 78 = .ok (.i2l, 1) := by decide +kernel
theorem dX5_digest_79 : decode cX5_digest 79 = .ok (.ladd, 1) := by decide +kernel
theorem dX5_digest_80 : decode cX5_digest 80 = .ok (.lstore_n 1, 1) := by decide +kernel
theorem dX5_digest_81 : decode cX5_digest 81 = .ok (.iinc 4 1, 3) := by decide +kernel
theorem dX5_digest_84 : decode cX5_digest 84 = .ok (.goto (-28), 3) := by decide +kernel
theorem dX5_digest_87 : decode cX5_digest 87 = .ok (.ldc2_w 277, 3) := by decide +kernel
theorem dX5_digest_90 : decode cX5_digest 90 = .ok (.lload_n 1, 1) := by decide +kernel
theorem dX5_digest_91 : decode cX5_digest 91 = .ok (.lmul, 1) := by decide +kernel
theorem dX5_digest_92 : decode cX5_digest 92 = .ok (.aload_n 0, 1) := by decide +kernel
theorem dX5_digest_93 : decode cX5_digest 93 = .ok (.iload_n 3, 1) := by decide +kernel
theorem dX5_digest_94 : decode cX5_digest 94 = .ok (.bipush 7, 2) := by decide +kernel
theorem dX5_digest_96 : decode cX5_digest 96 = .ok (.invokevirtual 151, 3) := by decide +kernel
theorem dX5_digest_99 : decode cX5_digest 99 = .ok (.i2l, 1) := by decide +kernel
theorem dX5_digest_100 : decode cX5_digest 100 = .ok (.ladd, 1) := by decide +kernel
theorem dX5_digest_101 : decode cX5_digest 101 = .ok (.lstore_n 1, 1) := by decide +kernel
theorem dX5_digest_102 : decode cX5_digest 102 = .ok (.ldc2_w 277, 3) := by decide +kernel
theorem dX5_digest_105 : decode cX5_digest 105 = .ok (.lload_n 1, 1) := by decide +kernel
theorem dX5_digest_106 : decode cX5_digest 106 = .ok (.lmul, 1) := by decide +kernel
theorem dX5_digest_107 : decode cX5_digest 107 = .ok (.aload_n 0, 1) := by decide +kernel
theorem dX5_digest_108 : decode cX5_digest 108 = .ok (.iload_n 3, 1) := by decide +kernel
theorem dX5_digest_109 : decode cX5_digest 109 = .ok (.bipush 7, 2) := by decide +kernel
theorem dX5_digest_111 : decode cX5_digest 111 = .ok (.invokevirtual 154, 3) := by decide +kernel
theorem dX5_digest_114 : decode cX5_digest 114 = .ok (.i2l, 1) := by decide +kernel
theorem dX5_digest_115 : decode cX5_digest 115 = .ok (.ladd, 1) := by decide +kernel
theorem dX5_digest_116 : decode cX5_digest 116 = .ok (.lstore_n 1, 1) := by decide +kernel
theorem dX5_digest_117 : decode cX5_digest 117 = .ok (.ldc2_w 277, 3) := by decide +kernel
theorem dX5_digest_120 : decode cX5_digest 120 = .ok (.lload_n 1, 1) := by decide +kernel
theorem dX5_digest_121 : decode cX5_digest 121 = .ok (.lmul, 1) := by decide +kernel
theorem dX5_digest_122 : decode cX5_digest 122 = .ok (.aload_n 0, 1) := by decide +kernel
theorem dX5_digest_123 : decode cX5_digest 123 = .ok (.iload_n 3, 1) := by decide +kernel
theorem dX5_digest_124 : decode cX5_digest 124 = .ok (.iconst (-1), 1) := by decide +kernel
theorem dX5_digest_125 : decode cX5_digest 125 = .ok (.invokevirtual 224, 3) := by decide +kernel
theorem dX5_digest_128 : decode cX5_digest 128 = .ok (.i2l, 1) := by decide +kernel
theorem dX5_digest_129 : decode cX5_digest 129 = .ok (.ladd, 1) := by decide +kernel
theorem dX5_digest_130 : decode cX5_digest 130 = .ok (.lstore_n 1, 1) := by decide +kernel
theorem dX5_digest_131 : decode cX5_digest 131 = .ok (.ldc2_w 277, 3) := by decide +kernel
theorem dX5_digest_134 : decode cX5_digest 134 = .ok (.lload_n 1, 1) := by decide +kernel
theorem dX5_digest_135 : decode cX5_digest 135 = .ok (.lmul, 1) := by decide +kernel
theorem dX5_digest_136 : decode cX5_digest 136 = .ok (.aload_n 0, 1) := by decide +kernel
theorem dX5_digest_137 : decode cX5_digest 137 = .ok (.iload_n 3, 1) := by decide +kernel
theorem dX5_digest_138 : decode cX5_digest 138 = .ok (.iconst 0, 1) := by decide +kernel
theorem dX5_digest_139 : decode cX5_digest 139 = .ok (.invokevirtual 224, 3) := by decide +kernel
theorem dX5_digest_142 : decode cX5_digest 142 = .ok (.i2l, 1) := by decide +kernel
theorem dX5_digest_143 : decode cX5_digest 143 = .ok (.ladd, 1) := by decide +kernel
theorem dX5_digest_144 : decode cX5_digest 144 = .ok (.lstore_n 1, 1) := by decide +kernel
theorem dX5_digest_145 : decode cX5_digest 145 = .ok (.ldc2_w 277, 3) := by decide +kernel
theorem dX5_digest_148 : decode cX5_digest 148 = .ok (.lload_n 1, 1) := by decide +kernel
theorem dX5_digest_149 : decode cX5_digest 149 = .ok (.lmul, 1) := by decide +kernel
theorem dX5_digest_150 : decode cX5_digest 150 = .ok (.aload_n 0, 1) := by decide +kernel
theorem dX5_digest_151 : decode cX5_digest 151 = .ok (.iload_n 3, 1) := by decide +kernel
theorem dX5_digest_152 : decode cX5_digest 152 = .ok (.bipush 9, 2) := by decide +kernel
theorem dX5_digest_154 : decode cX5_digest 154 = .ok (.invokevirtual 227, 3) := by decide +kernel
theorem dX5_digest_157 : decode cX5_digest 157 = .ok (.i2l, 1) := by decide +kernel
theorem dX5_digest_158 : decode cX5_digest 158 = .ok (.ladd, 1) := by decide +kernel
theorem dX5_digest_159 : decode cX5_digest 159 = .ok (.lstore_n 1, 1) := by decide +kernel
theorem dX5_digest_160 : decode cX5_digest 160 = .ok (.ldc2_w 277, 3) := by decide +kernel
theorem dX5_digest_163 : decode cX5_digest 163 = .ok (.lload_n 1, 1) := by decide +kernel
theorem dX5_digest_164 : decode cX5_digest 164 = .ok (.lmul, 1) := by decide +kernel
theorem dX5_digest_165 : decode cX5_digest 165 = .ok (.aload_n 0, 1) := by decide +kernel
theorem dX5_digest_166 : decode cX5_digest 166 = .ok (.iload_n 3, 1) := by decide +kernel
theorem dX5_digest_167 : decode cX5_digest 167 = .ok (.iconst 3, 1) := by decide +kernel
theorem dX5_digest_168 : decode cX5_digest 168 = .ok (.invokevirtual 233, 3) := by decide +kernel
theorem dX5_digest_171 : decode cX5_digest 171 = .ok (.i2l, 1) := by decide +kernel
theorem dX5_digest_172 : decode cX5_digest 172 = .ok (.ladd, 1) := by decide +kernel
theorem dX5_digest_173 : decode cX5_digest 173 = .ok (.lstore_n 1, 1) := by decide +kernel
theorem dX5_digest_174 : decode cX5_digest 174 = .ok (.iinc 3 1, 3) := by decide +kernel
theorem dX5_digest_177 : decode cX5_digest 177 = .ok (.goto (-132), 3) := by decide +kernel
theorem dX5_digest_180 : decode cX5_digest 180 = .ok (.iconst 0, 1) := by decide +kernel
theorem dX5_digest_181 : decode cX5_digest 181 = .ok (.istore_n 3, 1) := by decide +kernel
theorem dX5_digest_182 : decode cX5_digest 182 = .ok (.iload_n 3, 1) := by decide +kernel
theorem dX5_digest_183 : decode cX5_digest 183 = .ok (.iconst 4, 1) := by decide +kernel
theorem dX5_digest_184 : decode cX5_digest 184 = .ok (.if_icmp .ge 64, 3) := by decide +kernel
theorem dX5_digest_187 : decode cX5_digest 187 = .ok (.iload_n 3, 1) := by decide +kernel
theorem dX5_digest_188 : decode cX5_digest 188 = .ok (.iconst 2, 1) := by decide +kernel
theorem dX5_digest_189 : decode cX5_digest 189 = .ok (.if_icmp .ge 7, 3) := by decide +kernel
theorem dX5_digest_192 : decode cX5_digest 192 = .ok (.iload_n 3, 1) := by decide +kernel
theorem dX5_digest_193 : decode cX5_digest 193 = .ok (.goto 15, 3) := by decide +kernel
theorem dX5_digest_196 : decode cX5_digest 196 = .ok (.iload_n 3, 1) := by decide +kernel
theorem dX5_digest_197 : decode cX5_digest 197 = .ok (.iconst 2, 1) := by decide +kernel
theorem dX5_digest_198 : decode cX5_digest 198 = .ok (.if_icmp .ne 8, 3) := by decide +kernel
theorem dX5_digest_201 : decode cX5_digest 201 = .ok (.bipush 7, 2) := by decide +kernel
theorem dX5_digest_203 : decode cX5_digest 203 = .ok (.goto 5, 3) := by decide +kernel
theorem dX5_digest_206 : decode cX5_digest 206 = .ok (.bipush 50, 2) := by decide +kernel
theorem dX5_digest_208 : decode cX5_digest 208 = .ok (.istore 4, 2) := by decide +kernel
theorem dX5_digest_210 : decode cX5_digest 210 = .ok (.ldc2_w 277, 3) := by decide +kernel
theorem dX5_digest_213 : decode cX5_digest 213 = .ok (.lload_n 1, 1) := by decide +kernel
theorem dX5_digest_214 : decode cX5_digest 214 = .ok (.lmul, 1) := by decide +kernel
theorem dX5_digest_215 : decode cX5_digest 215 = .ok (.aload_n 0, 1) := by decide +kernel
theorem dX5_digest_216 : decode cX5_digest 216 = .ok (.iload 4, 2) := by decide +kernel
theorem dX5_digest_218 : decode cX5_digest 218 = .ok (.invokevirtual 184, 3) := by decide +kernel
theorem dX5_digest_221 : decode cX5_digest 221 = .ok (.i2l, 1) := by decide +kernel
theorem dX5_digest_222 : decode cX5_digest 222 = .ok (.ladd, 1) := by decide +kernel
theorem dX5_digest_223 : decode cX5_digest 223 = .ok (.lstore_n 1, 1) := by decide +kernel
theorem dX5_digest_224 : decode cX5_digest 224 = .ok (.aload_n 0, 1) := by decide +kernel
theorem dX5_digest_225 : decode cX5_digest 225 = .ok (.lload_n 1, 1) := by decide +kernel
theorem dX5_digest_226 : decode cX5_digest 226 = .ok (.iconst 2, 1) := by decide +kernel
theorem dX5_digest_227 : decode cX5_digest 227 = .ok (.iload 4, 2) := by decide +kernel
theorem dX5_digest_229 : decode cX5_digest 229 = .ok (.invokevirtual 284, 3) := by decide +kernel
theorem dX5_digest_232 : decode cX5_digest 232 = .ok (.lstore_n 1, 1) := by decide +kernel
theorem dX5_digest_233 : decode cX5_digest 233 = .ok (.aload_n 0, 1) := by decide +kernel
theorem dX5_digest_234 : decode cX5_digest 234 = .ok (.lload_n 1, 1) := by decide +kernel
theorem dX5_digest_235 : decode cX5_digest 235 = .ok (.iconst 5, 1) := by decide +kernel
theorem dX5_digest_236 : decode cX5_digest 236 = .ok (.iload 4, 2) := by decide +kernel
theorem dX5_digest_238 : decode cX5_digest 238 = .ok (.invokevirtual 284, 3) := by decide +kernel
theorem dX5_digest_241 : decode cX5_digest 241 = .ok (.lstore_n 1, 1) := by decide +kernel
theorem dX5_digest_242 : decode cX5_digest 242 = .ok (.iinc 3 1, 3) := by decide +kernel
theorem dX5_digest_245 : decode cX5_digest 245 = .ok (.goto (-63), 3) := by decide +kernel
theorem dX5_digest_248 : decode cX5_digest 248 = .ok (.iconst 2, 1) := by decide +kernel
theorem dX5_digest_249 : decode cX5_digest 249 = .ok (.istore_n 3, 1) := by decide +kernel
theorem dX5_digest_250 : decode cX5_digest 250 = .ok (.iload_n 3, 1) := by decide +kernel
theorem dX5_digest_251 : decode cX5_digest 251 = .ok (.bipush 6, 2) := by decide +kernel
theorem dX5_digest_253 : decode cX5_digest 253 = .ok (.if_icmp .ge 71, 3) := by decide +kernel
theorem dX5_digest_256 : decode cX5_digest 256 = .ok (.ldc2_w 277, 3) := by decide +kernel
theorem dX5_digest_259 : decode cX5_digest 259 = .ok (.lload_n 1, 1) := by decide +kernel
theorem dX5_digest_260 : decode cX5_digest 260 = .ok (.lmul, 1) := by decide +kernel
theorem dX5_digest_261 : decode cX5_digest 261 = .ok (.aload_n 0, 1) := by decide +kernel
theorem dX5_digest_262 : decode cX5_digest 262 = .ok (.iload_n 3, 1) := by decide +kernel
theorem dX5_digest_263 : decode cX5_digest 263 = .ok (.iconst 0, 1) := by decide +kernel
theorem dX5_digest_264 : decode cX5_digest 264 = .ok (.invokevirtual 208, 3) := by decide +kernel
theorem dX5_digest_267 : decode cX5_digest 267 = .ok (.i2l, 1) := by decide +kernel
theorem dX5_digest_268 : decode cX5_digest 268 = .ok (.ladd, 1) := by decide +kernel
theorem dX5_digest_269 : decode cX5_digest 269 = .ok (.lstore_n 1, 1) := by decide +kernel
theorem dX5_digest_270 : decode cX5_digest 270 = .ok (.ldc2_w 277, 3) := by decide +kernel
theorem dX5_digest_273 : decode cX5_digest 273 = .ok (.lload_n 1, 1) := by decide +kernel
theorem dX5_digest_274 : decode cX5_digest 274 = .ok (.lmul, 1) := by decide +kernel
theorem dX5_digest_275 : decode cX5_digest 275 = .ok (.aload_n 0, 1) := by decide +kernel
theorem dX5_digest_276 : decode cX5_digest 276 = .ok (.iload_n 3, 1) := by decide +kernel
theorem dX5_digest_277 : decode cX5_digest 277 = .ok (.iconst 1, 1) := by decide +kernel
theorem dX5_digest_278 : decode cX5_digest 278 = .ok (.invokevirtual 208, 3) := by decide +kernel
theorem dX5_digest_281 : decode cX5_digest 281 = .ok (.i2l, 1) := by decide +kernel
theorem dX5_digest_282 : decode cX5_digest 282 = .ok (.ladd, 1) := by decide +kernel
theorem dX5_digest_283 : decode cX5_digest 283 = .ok (.lstore_n 1, 1) := by decide +kernel
theorem dX5_digest_284 : decode cX5_digest 284 = .ok (.ldc2_w 277, 3) := by decide +kernel
theorem dX5_digest_287 : decode cX5_digest 287 = .ok (.lload_n 1, 1) := by decide +kernel
theorem dX5_digest_288 : decode cX5_digest 288 = .ok (.lmul, 1) := by decide +kernel
theorem dX5_digest_289 : decode cX5_digest 289 = .ok (.aload_n 0, 1) := by decide +kernel
theorem dX5_digest_290 : decode cX5_digest 290 = .ok (.iload_n 3, 1) := by decide +kernel
theorem dX5_digest_291 : decode cX5_digest 291 = .ok (.iconst 1, 1) := by decide +kernel
theorem dX5_digest_292 : decode cX5_digest 292 = .ok (.bipush 9, 2) := by decide +kernel
theorem dX5_digest_294 : decode cX5_digest 294 = .ok (.invokevirtual 288, 3) := by decide +kernel
theorem dX5_digest_297 : decode cX5_digest 297 = .ok (.i2l, 1) := by decide +kernel
theorem dX5_digest_298 : decode cX5_digest 298 = .ok (.ladd, 1) := by decide +kernel
theorem dX5_digest_299 : decode cX5_digest 299 = .ok (.lstore_n 1, 1) := by decide +kernel
theorem dX5_digest_300 : decode cX5_digest 300 = .ok (.ldc2_w 277, 3) := by decide +kernel
theorem dX5_digest_303 : decode cX5_digest 303 = .ok (.lload_n 1, 1) := by decide +kernel
theorem dX5_digest_304 : decode cX5_digest 304 = .ok (.lmul, 1) := by decide +kernel
theorem dX5_digest_305 : decode cX5_digest 305 = .ok (.aload_n 0, 1) := by decide +kernel
theorem dX5_digest_306 : decode cX5_digest 306 = .ok (.bipush 7, 2) := by decide +kernel
theorem dX5_digest_308 : decode cX5_digest 308 = .ok (.iload_n 3, 1) := by decide +kernel
theorem dX5_digest_309 : decode cX5_digest 309 = .ok (.iconst 3, 1) := by decide +kernel
theorem dX5_digest_310 : decode cX5_digest 310 = .ok (.bipush 20, 2) := by decide +kernel
theorem dX5_digest_312 : decode cX5_digest 312 = .ok (.invokevirtual 273, 3) := by decide +kernel
theorem dX5_digest_315 : decode cX5_digest 315 = .ok (.i2l, 1) := by decide +kernel
theorem dX5_digest_316 : decode cX5_digest 316 = .ok (.ladd, 1) := by decide +kernel
theorem dX5_digest_317 : decode cX5_digest 317 = .ok (.lstore_n 1, 1) := by decide +kernel
theorem dX5_digest_318 : decode cX5_digest 318 = .ok (.iinc 3 3, 3) := by decide +kernel
theorem dX5_digest_321 : decode cX5_digest 321 = .ok (.goto (-71), 3) := by decide +kernel
theorem dX5_digest_324 : decode cX5_digest 324 = .ok (.lload_n 1, 1) := by decide +kernel
theorem dX5_digest_325 : decode cX5_digest 325 = .ok (.lreturn, 1) := by decide +kernel
theorem dJ11_isValidCodePoint_9a6ad_0 : decode cJ11_isValidCodePoint_9a6ad 0 = .ok (.iload_n 0, 1) := by decide +kernel
theorem dJ11_isValidCodePoint_9a6ad_1 : decode cJ11_isValidCodePoint_9a6ad 1 = .ok (.bipush 16, 2) := by decide +kernel
theorem dJ11_isValidCodePoint_9a6ad_3 : decode cJ11_isValidCodePoint_9a6ad 3 = .ok (.iushr, 1) := by decide +kernel
theorem dJ11_isValidCodePoint_9a6ad_4 : decode cJ11_isValidCodePoint_9a6ad 4 = .ok (.istore_n 1, 1) := by decide +kernel
theorem dJ11_isValidCodePoint_9a6ad_5 : decode cJ11_isValidCodePoint_9a6ad 5 = .ok (.iload_n 1, 1) := by decide +kernel
theorem dJ11_isValidCodePoint_9a6ad_6 : decode cJ11_isValidCodePoint_9a6ad 6 = .ok (.bipush 17, 2) := by decide +kernel
theorem dJ11_isValidCodePoint_9a6ad_8 : decode cJ11_isValidCodePoint_9a6ad 8 = .ok (.if_icmp .ge 7, 3) := by decide +kernel
theorem dJ11_isValidCodePoint_9a6ad_11 : decode cJ11_isValidCodePoint_9a6ad 11 = .ok (.iconst 1, 1) := by decide +kernel
theorem dJ11_isValidCodePoint_9a6ad_12 : decode cJ11_isValidCodePoint_9a6ad 12 = .ok (.goto 4, 3) := by decide +kernel
theorem dJ11_isValidCodePoint_9a6ad_15 : decode cJ11_isValidCodePoint_9a6ad 15 = .ok (.iconst 0, 1) := by decide +kernel
theorem dJ11_isValidCodePoint_9a6ad_16 : decode cJ11_isValidCodePoint_9a6ad 16 = .ok (.ireturn, 1) := by decide +kernel
theorem dJ11_highSurrogate_5068e_0 : decode cJ11_highSurrogate_5068e 0 = .ok (.iload_n 0, 1) := by decide +kernel
theorem dJ11_highSurrogate_5068e_1 : decode cJ11_highSurrogate_5068e 1 = .ok (.bipush 10, 2) := by decide +kernel
theorem dJ11_highSurrogate_5068e_3 : decode cJ11_highSurrogate_5068e 3 = .ok (.iushr, 1) := by decide +kernel
theorem dJ11_highSurrogate_5068e_4 : decode cJ11_highSurrogate_5068e 4 = .ok (.ldc 110, 2) := by decide +kernel
theorem dJ11_highSurrogate_5068e_6 : decode cJ11_highSurrogate_5068e 6 = .ok (.iadd, 1) := by decide +kernel
theorem dJ11_highSurrogate_5068e_7 : decode cJ11_highSurrogate_5068e 7 = .ok (.i2c, 1) := by decide +kernel
theorem dJ11_highSurrogate_5068e_8 : decode cJ11_highSurrogate_5068e 8 = .ok (.ireturn, 1) := by decide +kernel
theorem dJ11_lowSurrogate_5068e_0 : decode cJ11_lowSurrogate_5068e 0 = .ok (.iload_n 0, 1) := by decide +kernel
theorem dJ11_lowSurrogate_5068e_1 : decode cJ11_lowSurrogate_5068e 1 = .ok (.sipush 1023, 3) := by decide +kernel
theorem dJ11_lowSurrogate_5068e_4 : decode cJ11_lowSurrogate_5068e 4 = .ok (.iand, 1) := by decide +kernel
theorem dJ11_lowSurrogate_5068e_5 : decode cJ11_lowSurrogate_5068e 5 = .ok (.ldc 76, 2) := by decide +kernel
theorem dJ11_lowSurrogate_5068e_7 : decode cJ11_lowSurrogate_5068e 7 = .ok (.iadd, 1) := by decide +kernel
theorem dJ11_lowSurrogate_5068e_8 : decode cJ11_lowSurrogate_5068e 8 = .ok (.i2c, 1) := by decide +kernel
theorem dJ11_lowSurrogate_5068e_9 : decode cJ11_lowSurrogate_5068e 9 = .ok (.ireturn, 1) := by decide +kernel
theorem dJ13_bitCount_95d88_0 : decode cJ13_bitCount_95d88 0 = .ok (.lload_n 0, 1) := by decide +kernel
theorem dJ13_bitCount_95d88_1 : decode cJ13_bitCount_95d88 1 = .ok (.lload_n 0, 1) := by decide +kernel
theorem dJ13_bitCount_95d88_2 : decode cJ13_bitCount_95d88 2 = .ok (.iconst 1, 1) := by decide +kernel
theorem dJ13_bitCount_95d88_3 : decode cJ13_bitCount_95d88 3 = .ok (.lushr, 1) := by decide +kernel
theorem dJ13_bitCount_95d88_4 : decode cJ13_bitCount_95d88 4 = .ok (.ldc2_w 314, 3) := by decide +kernel
theorem dJ13_bitCount_95d88_7 : decode cJ13_bitCount_95d88 7 = .ok (.land, 1) := by decide +kernel
theorem dJ13_bitCount_95d88_8 : decode cJ13_bitCount_95d88 8 = .ok (.lsub, 1) := by decide +kernel
theorem dJ13_bitCount_95d88_9 : decode cJ13_bitCount_95d88 9 = .ok (.lstore_n 0, 1) := by decide +kernel
theorem dJ13_bitCount_95d88_10 : decode cJ13_bitCount_95d88 10 = .ok (.lload_n 0, 1) := by decide +kernel
theorem dJ13_bitCount_95d88_11 : decode cJ13_bitCount_95d88 11 = .ok (.ldc2_w 316, 3) := by decide +kernel
theorem dJ13_bitCount_95d88_14 : decode cJ13_bitCount_95d88 14 = .ok (.land, 1) := by decide +kernel
theorem dJ13_bitCount_95d88_15 : decode cJ13_bitCount_95d88 15 = .ok (.lload_n 0, 1) := by decide +kernel
theorem dJ13_bitCount_95d88_16 : decode cJ13_bitCount_95d88 16 = .ok (.iconst 2, 1) := by decide +kernel
theorem dJ13_bitCount_95d88_17 : decode cJ13_bitCount_95d88 17 = .ok (.lushr, 1) := by decide +kernel
theorem dJ13_bitCount_95d88_18 : decode cJ13_bitCount_95d88 18 = .ok (.ldc2_w 316, 3) := by decide +kernel
theorem dJ13_bitCount_95d88_21 : decode cJ13_bitCount_95d88 21 = .ok (.land, 1) := by decide +kernel
theorem dJ13_bitCount_95d88_22 : decode cJ13_bitCount_95d88 22 = .ok (.ladd, 1) := by decide +kernel
theorem dJ13_bitCount_95d88_23 : decode cJ13_bitCount_95d88 23 = .ok (.lstore_n 0, 1) := by decide +kernel
theorem dJ13_bitCount_95d88_24 : decode cJ13_bitCount_95d88 24 = .ok (.lload_n 0, 1) := by decide +kernel
theorem dJ13_bitCount_95d88_25 : decode cJ13_bitCount_95d88 25 = .ok (.lload_n 0, 1) := by decide +kernel
theorem dJ13_bitCount_95d88_26 : decode cJ13_bitCount_95d88 26 = .ok (.iconst 4, 1) := by decide +kernel
theorem dJ13_bitCount_95d88_27 : decode cJ13_bitCount_95d88 27 = .ok (.lushr, 1) := by decide +kernel
theorem dJ13_bitCount_95d88_28 : decode cJ13_bitCount_95d88 28 = .ok (.ladd, 1) := by decide +kernel
theorem dJ13_bitCount_95d88_29 : decode cJ13_bitCount_95d88 29 = .ok (.ldc2_w 318, 3) := by decide +kernel
theorem dJ13_bitCount_95d88_32 : decode cJ13_bitCount_95d88 32 = .ok (.land, 1) := by decide +kernel
theorem dJ13_bitCount_95d88_33 : decode cJ13_bitCount_95d88 33 = .ok (.lstore_n 0, 1) := by decide +kernel
theorem dJ13_bitCount_95d88_34 : decode cJ13_bitCount_95d88 34 = .ok (.lload_n 0, 1) := by decide +kernel
theorem dJ13_bitCount_95d88_35 : decode cJ13_bitCount_95d88 35 = .ok (.lload_n 0, 1) := by decide +kernel
theorem dJ13_bitCount_95d88_36 : decode cJ13_bitCount_95d88 36 = .ok (.bipush 8, 2) := by decide +kernel
theorem dJ13_bitCount_95d88_38 : decode cJ13_bitCount_95d88 38 = .ok (.lushr, 1) := by decide +kernel
theorem dJ13_bitCount_95d88_39 : decode cJ13_bitCount_95d88 39 = .ok (.ladd, 1) := by decide +kernel
theorem dJ13_bitCount_95d88_40 : decode cJ13_bitCount_95d88 40 = .ok (.lstore_n 0, 1) := by decide +kernel
theorem dJ13_bitCount_95d88_41 : decode cJ13_bitCount_95d88 41 = .ok (.lload_n 0, 1) := by decide +kernel
theorem dJ13_bitCount_95d88_42 : decode cJ13_bitCount_95d88 42 = .ok (.lload_n 0, 1) := by decide +kernel
theorem dJ13_bitCount_95d88_43 : decode cJ13_bitCount_95d88 43 = .ok (.bipush 16, 2) := by decide +kernel
theorem dJ13_bitCount_95d88_45 : decode cJ13_bitCount_95d88 45 = .ok (.lushr, 1) := by decide +kernel
theorem dJ13_bitCount_95d88_46 : decode cJ13_bitCount_95d88 46 = .ok (.ladd, 1) := by decide +kernel
theorem dJ13_bitCount_95d88_47 : decode cJ13_bitCount_95d88 47 = .ok (.lstore_n 0, 1) := by decide +kernel
theorem dJ13_bitCount_95d88_48 : decode cJ13_bitCount_95d88 48 = .ok (.lload_n 0, 1) := by decide +kernel
theorem dJ13_bitCount_95d88_49 : decode cJ13_bitCount_95d88 49 = .ok (.lload_n 0, 1) := by decide +kernel
theorem dJ13_bitCount_95d88_50 : decode cJ13_bitCount_95d88 50 = .ok (.bipush 32, 2) := by decide +kernel
theorem dJ13_bitCount_95d88_52 : decode cJ13_bitCount_95d88 52 = .ok (.lushr, 1) := by decide +kernel
theorem dJ13_bitCount_95d88_53 : decode cJ13_bitCount_95d88 53 = .ok (.ladd, 1) := by decide +kernel
theorem dJ13_bitCount_95d88_54 : decode cJ13_bitCount_95d88 54 = .ok (.lstore_n 0, 1) := by decide +kernel
theorem dJ13_bitCount_95d88_55 : decode cJ13_bitCount_95d88 55 = .ok (.lload_n 0, 1) := by decide +kernel
theorem dJ13_bitCount_95d88_56 : decode cJ13_bitCount_95d88 56 = .ok (.l2i, 1) := by decide +kernel
theorem dJ13_bitCount_95d88_57 : decode cJ13_bitCount_95d88 57 = .ok (.bipush 127, 2) := by decide +kernel
theorem dJ13_bitCount_95d88_59 : decode cJ13_bitCount_95d88 59 = .ok (.iand, 1) := by decide +kernel
theorem dJ13_bitCount_95d88_60 : decode cJ13_bitCount_95d88 60 = .ok (.ireturn, 1) := by decide +kernel
theorem dJ9_max_7cf53_0 : decode cJ9_max_7cf53 0 = .ok (.iload_n 0, 1) := by decide +kernel
theorem dJ9_max_7cf53_1 : decode cJ9_max_7cf53 1 = .ok (.iload_n 1, 1) := by decide +kernel
theorem dJ9_max_7cf53_2 : decode cJ9_max_7cf53 2 = .ok (.if_icmp .lt 7, 3) := by decide +kernel
theorem dJ9_max_7cf53_5 : decode cJ9_max_7cf53 5 = .ok (.iload_n 0, 1) := by decide +kernel
theorem dJ9_max_7cf53_6 : decode cJ9_max_7cf53 6 = .ok (.goto 4, 3) := by decide +kernel
theorem dJ9_max_7cf53_9 : decode cJ9_max_7cf53 9 = .ok (.iload_n 1, 1) := by decide +kernel
theorem dJ9_max_7cf53_10 : decode cJ9_max_7cf53 10 = .ok (.ireturn, 1) := by decide +kernel
theorem dJ9_min_7cf53_0 : decode cJ9_min_7cf53 0 = .ok (.iload_n 0, 1) := by decide +kernel
theorem dJ9_min_7cf53_1 : decode cJ9_min_7cf53 1 = .ok (.iload_n 1, 1) := by decide +kernel
theorem dJ9_min_7cf53_2 : decode cJ9_min_7cf53 2 = .ok (.if_icmp .gt 7, 3) := by decide +kernel
theorem dJ9_min_7cf53_5 : decode cJ9_min_7cf53 5 = .ok (.iload_n 0, 1) := by decide +kernel
theorem dJ9_min_7cf53_6 : decode cJ9_min_7cf53 6 = .ok (.goto 4, 3) := by decide +kernel
theorem dJ9_min_7cf53_9 : decode cJ9_min_7cf53 9 = .ok (.iload_n 1, 1) := by decide +kernel
theorem dJ9_min_7cf53_10 : decode cJ9_min_7cf53 10 = .ok (.ireturn, 1) := by decide +kernel
theorem dJ0_length_8abf5_0 : decode cJ0_length_8abf5 0 = .ok (.aload_n 0, 1) := by decide +kernel
theorem dJ0_length_8abf5_1 : decode cJ0_length_8abf5 1 = .ok (.getfield 9, 3) := by decide +kernel
theorem dJ0_length_8abf5_4 : decode cJ0_length_8abf5 4 = .ok (.arraylength, 1) := by decide +kernel
theorem dJ0_length_8abf5_5 : decode cJ0_length_8abf5 5 = .ok (.aload_n 0, 1) := by decide +kernel
theorem dJ0_length_8abf5_6 : decode cJ0_length_8abf5 6 = .ok (.invokevirtual 335, 3) := by decide +kernel
theorem dJ0_length_8abf5_9 : decode cJ0_length_8abf5 9 = .ok (.ishr, 1) := by decide +kernel
theorem dJ0_length_8abf5_10 : decode cJ0_length_8abf5 10 = .ok (.ireturn, 1) := by decide +kernel
theorem dJ0_indexOf_0f7a4_0 : decode cJ0_indexOf_0f7a4 0 = .ok (.aload_n 0, 1) := by decide +kernel
theorem dJ0_indexOf_0f7a4_1 : decode cJ0_indexOf_0f7a4 1 = .ok (.iload_n 1, 1) := by decide +kernel
theorem dJ0_indexOf_0f7a4_2 : decode cJ0_indexOf_0f7a4 2 = .ok (.iconst 0, 1) := by decide +kernel
theorem dJ0_indexOf_0f7a4_3 : decode cJ0_indexOf_0f7a4 3 = .ok (.invokevirtual 633, 3) := by decide +kernel
theorem dJ0_indexOf_0f7a4_6 : decode cJ0_indexOf_0f7a4 6 = .ok (.ireturn, 1) := by decide +kernel
theorem dJ0_indexOf_7cf53_0 : decode cJ0_indexOf_7cf53 0 = .ok (.aload_n 0, 1) := by decide +kernel
theorem dJ0_indexOf_7cf53_1 : decode cJ0_indexOf_7cf53 1 = .ok (.invokevirtual 492, 3) := by decide +kernel
theorem dJ0_indexOf_7cf53_4 : decode cJ0_indexOf_7cf53 4 = .ok (.ifCond .eq 19, 3) := by decide +kernel
theorem dJ0_indexOf_7cf53_7 : decode cJ0_indexOf_7cf53 7 = .ok (.aload_n 0, 1) := by decide +kernel
theorem dJ0_indexOf_7cf53_8 : decode cJ0_indexOf_7cf53 8 = .ok (.getfield 9, 3) := by decide +kernel
theorem dJ0_indexOf_7cf53_11 : decode cJ0_indexOf_7cf53 11 = .ok (.iload_n 1, 1) := by decide +kernel
theorem dJ0_indexOf_7cf53_12 : decode cJ0_indexOf_7cf53 12 = .ok (.iload_n 2, 1) := by decide +kernel
theorem dJ0_indexOf_7cf53_13 : decode cJ0_indexOf_7cf53 13 = .ok (.aload_n 0, 1) := by decide +kernel
theorem dJ0_indexOf_7cf53_14 : decode cJ0_indexOf_7cf53 14 = .ok (.invokevirtual 505, 3) := by decide +kernel
theorem dJ0_indexOf_7cf53_17 : decode cJ0_indexOf_7cf53 17 = .ok (.invokestatic 637, 3) := by decide +kernel
theorem dJ0_indexOf_7cf53_20 : decode cJ0_indexOf_7cf53 20 = .ok (.goto 16, 3) := by decide +kernel
theorem dJ0_indexOf_7cf53_23 : decode cJ0_indexOf_7cf53 23 = .ok (.aload_n 0, 1) := by decide +kernel
theorem dJ0_indexOf_7cf53_24 : decode cJ0_indexOf_7cf53 24 = .ok (.getfield 9, 3) := by decide +kernel
theorem dJ0_indexOf_7cf53_27 : decode cJ0_indexOf_7cf53 27 = .ok (.iload_n 1, 1) := by decide +kernel
theorem dJ0_indexOf_7cf53_28 : decode cJ0_indexOf_7cf53 28 = .ok (.iload_n 2, 1) := by decide +kernel
theorem dJ0_indexOf_7cf53_29 : decode cJ0_indexOf_7cf53 29 = .ok (.aload_n 0, 1) := by decide +kernel
theorem dJ0_indexOf_7cf53_30 : decode cJ0_indexOf_7cf53 30 = .ok (.invokevirtual 505, 3) := by decide +kernel
theorem dJ0_indexOf_7cf53_33 : decode cJ0_indexOf_7cf53 33 = .ok (.invokestatic 640, 3) := by decide +kernel
theorem dJ0_indexOf_7cf53_36 : decode cJ0_indexOf_7cf53 36 = .ok (.ireturn, 1) := by decide +kernel
theorem dJ0_coder_7d493_0 : decode cJ0_coder_7d493 0 = .ok (.getstatic 38, 3) := by decide +kernel
theorem dJ0_coder_7d493_3 : decode cJ0_coder_7d493 3 = .ok (.ifCond .eq 10, 3) := by decide +kernel
theorem dJ0_coder_7d493_6 : decode cJ0_coder_7d493 6 = .ok (.aload_n 0, 1) := by decide +kernel
theorem dJ0_coder_7d493_7 : decode cJ0_coder_7d493 7 = .ok (.getfield 15, 3) := by decide +kernel
theorem dJ0_coder_7d493_10 : decode cJ0_coder_7d493 10 = .ok (.goto 4, 3) := by decide +kernel
theorem dJ0_coder_7d493_13 : decode cJ0_coder_7d493 13 = .ok (.iconst 1, 1) := by decide +kernel
theorem dJ0_coder_7d493_14 : decode cJ0_coder_7d493 14 = .ok (.ireturn, 1) := by decide +kernel
theorem dJ0_isLatin1_aae02_0 : decode cJ0_isLatin1_aae02 0 = .ok (.getstatic 38, 3) := by decide +kernel
theorem dJ0_isLatin1_aae02_3 : decode cJ0_isLatin1_aae02 3 = .ok (.ifCond .eq 14, 3) := by decide +kernel
theorem dJ0_isLatin1_aae02_6 : decode cJ0_isLatin1_aae02 6 = .ok (.aload_n 0, 1) := by decide +kernel
theorem dJ0_isLatin1_aae02_7 : decode cJ0_isLatin1_aae02 7 = .ok (.getfield 15, 3) := by decide +kernel
theorem dJ0_isLatin1_aae02_10 : decode cJ0_isLatin1_aae02 10 = .ok (.ifCond .ne 7, 3) := by decide +kernel
theorem dJ0_isLatin1_aae02_13 : decode cJ0_isLatin1_aae02 13 = .ok (.iconst 1, 1) := by decide +kernel
theorem dJ0_isLatin1_aae02_14 : decode cJ0_isLatin1_aae02 14 = .ok (.goto 4, 3) := by decide +kernel
theorem dJ0_isLatin1_aae02_17 : decode cJ0_isLatin1_aae02 17 = .ok (.iconst 0, 1) := by decide +kernel
theorem dJ0_isLatin1_aae02_18 : decode cJ0_isLatin1_aae02 18 = .ok (.ireturn, 1) := by decide +kernel
theorem dJ0_checkBoundsBeginEnd_23922_0 : decode cJ0_checkBoundsBeginEnd_23922 0 = .ok (.iload_n 0, 1) := by decide +kernel
theorem dJ0_checkBoundsBeginEnd_23922_1 : decode cJ0_checkBoundsBeginEnd_23922 1 = .ok (.iload_n 1, 1) := by decide +kernel
theorem dJ0_checkBoundsBeginEnd_23922_2 : decode cJ0_checkBoundsBeginEnd_23922 2 = .ok (.iload_n 2, 1) := by decide +kernel
theorem dJ0_checkBoundsBeginEnd_23922_3 : decode cJ0_checkBoundsBeginEnd_23922 3 = .ok (.getstatic 1053, 3) := by decide +kernel
theorem dJ0_checkBoundsBeginEnd_23922_6 : decode cJ0_checkBoundsBeginEnd_23922 6 = .ok (.invokestatic 1062, 3) := by decide +kernel
theorem dJ0_checkBoundsBeginEnd_23922_9 : decode cJ0_checkBoundsBeginEnd_23922 9 = .ok (.pop, 1) := by decide +kernel
theorem dJ0_checkBoundsBeginEnd_23922_10 : decode cJ0_checkBoundsBeginEnd_23922 10 = .ok (.return_, 1) := by decide +kernel
theorem dJ1_canEncode_9a6ad_0 : decode cJ1_canEncode_9a6ad 0 = .ok (.iload_n 0, 1) := by decide +kernel
theorem dJ1_canEncode_9a6ad_1 : decode cJ1_canEncode_9a6ad 1 = .ok (.ifCond .lt 14, 3) := by decide +kernel
theorem dJ1_canEncode_9a6ad_4 : decode cJ1_canEncode_9a6ad 4 = .ok (.iload_n 0, 1) := by decide +kernel
theorem dJ1_canEncode_9a6ad_5 : decode cJ1_canEncode_9a6ad 5 = .ok (.sipush 255, 3) := by decide +kernel
theorem dJ1_canEncode_9a6ad_8 : decode cJ1_canEncode_9a6ad 8 = .ok (.if_icmp .gt 7, 3) := by decide +kernel
theorem dJ1_canEncode_9a6ad_11 : decode cJ1_canEncode_9a6ad 11 = .ok (.iconst 1, 1) := by decide +kernel
theorem dJ1_canEncode_9a6ad_12 : decode cJ1_canEncode_9a6ad 12 = .ok (.goto 4, 3) := by decide +kernel
theorem dJ1_canEncode_9a6ad_15 : decode cJ1_canEncode_9a6ad 15 = .ok (.iconst 0, 1) := by decide +kernel
theorem dJ1_canEncode_9a6ad_16 : decode cJ1_canEncode_9a6ad 16 = .ok (.ireturn, 1) := by decide +kernel
theorem dJ1_indexOf_4cfef_0 : decode cJ1_indexOf_4cfef 0 = .ok (.iload_n 1, 1) := by decide +kernel
theorem dJ1_indexOf_4cfef_1 : decode cJ1_indexOf_4cfef 1 = .ok (.invokestatic 88, 3) := by decide +kernel
theorem dJ1_indexOf_4cfef_4 : decode cJ1_indexOf_4cfef 4 = .ok (.ifCond .ne 5, 3) := by decide +kernel
theorem dJ1_indexOf_4cfef_7 : decode cJ1_indexOf_4cfef 7 = .ok (.iconst (-1), 1) := by decide +kernel
theorem dJ1_indexOf_4cfef_8 : decode cJ1_indexOf_4cfef 8 = .ok (.ireturn, 1) := by decide +kernel
theorem dJ1_indexOf_4cfef_9 : decode cJ1_indexOf_4cfef 9 = .ok (.iload_n 2, 1) := by decide +kernel
theorem dJ1_indexOf_4cfef_10 : decode cJ1_indexOf_4cfef 10 = .ok (.iconst 0, 1) := by decide +kernel
theorem dJ1_indexOf_4cfef_11 : decode cJ1_indexOf_4cfef 11 = .ok (.invokestatic 92, 3) := by decide +kernel
theorem dJ1_indexOf_4cfef_14 : decode cJ1_indexOf_4cfef 14 = .ok (.istore_n 2, 1) := by decide +kernel
theorem dJ1_indexOf_4cfef_15 : decode cJ1_indexOf_4cfef 15 = .ok (.iload_n 3, 1) := by decide +kernel
theorem dJ1_indexOf_4cfef_16 : decode cJ1_indexOf_4cfef 16 = .ok (.aload_n 0, 1) := by decide +kernel
theorem dJ1_indexOf_4cfef_17 : decode cJ1_indexOf_4cfef 17 = .ok (.arraylength, 1) := by decide +kernel
theorem dJ1_indexOf_4cfef_18 : decode cJ1_indexOf_4cfef 18 = .ok (.invokestatic 38, 3) := by decide +kernel
theorem dJ1_indexOf_4cfef_21 : decode cJ1_indexOf_4cfef 21 = .ok (.istore_n 3, 1) := by decide +kernel
theorem dJ1_indexOf_4cfef_22 : decode cJ1_indexOf_4cfef 22 = .ok (.iload_n 2, 1) := by decide +kernel
theorem dJ1_indexOf_4cfef_23 : decode cJ1_indexOf_4cfef 23 = .ok (.iload_n 3, 1) := by decide +kernel
theorem dJ1_indexOf_4cfef_24 : decode cJ1_indexOf_4cfef 24 = .ok (.if_icmp .lt 5, 3) := by decide +kernel
theorem dJ1_indexOf_4cfef_27 : decode cJ1_indexOf_4cfef 27 = .ok (.iconst (-1), 1) := by decide +kernel
theorem dJ1_indexOf_4cfef_28 : decode cJ1_indexOf_4cfef 28 = .ok (.ireturn, 1) := by decide +kernel
theorem dJ1_indexOf_4cfef_29 : decode cJ1_indexOf_4cfef 29 = .ok (.aload_n 0, 1) := by decide +kernel
theorem dJ1_indexOf_4cfef_30 : decode cJ1_indexOf_4cfef 30 = .ok (.iload_n 1, 1) := by decide +kernel
theorem dJ1_indexOf_4cfef_31 : decode cJ1_indexOf_4cfef 31 = .ok (.iload_n 2, 1) := by decide +kernel
theorem dJ1_indexOf_4cfef_32 : decode cJ1_indexOf_4cfef 32 = .ok (.iload_n 3, 1) := by decide +kernel
theorem dJ1_indexOf_4cfef_33 : decode cJ1_indexOf_4cfef 33 = .ok (.invokestatic 95, 3) := by decide +kernel
theorem dJ1_indexOf_4cfef_36 : decode cJ1_indexOf_4cfef 36 = .ok (.ireturn, 1) := by decide +kernel
theorem dJ1_indexOfChar_4cfef_0 : decode cJ1_indexOfChar_4cfef 0 = .ok (.iload_n 1, 1) := by decide +kernel
theorem dJ1_indexOfChar_4cfef_1 : decode cJ1_indexOfChar_4cfef 1 = .ok (.i2b, 1) := by decide +kernel
theorem dJ1_indexOfChar_4cfef_2 : decode cJ1_indexOfChar_4cfef 2 = .ok (.istore 4, 2) := by decide +kernel
theorem dJ1_indexOfChar_4cfef_4 : decode cJ1_indexOfChar_4cfef 4 = .ok (.iload_n 2, 1) := by decide +kernel
theorem dJ1_indexOfChar_4cfef_5 : decode cJ1_indexOfChar_4cfef 5 = .ok (.istore 5, 2) := by decide +kernel
theorem dJ1_indexOfChar_4cfef_7 : decode cJ1_indexOfChar_4cfef 7 = .ok (.iload 5, 2) := by decide +kernel
theorem dJ1_indexOfChar_4cfef_9 : decode cJ1_indexOfChar_4cfef 9 = .ok (.iload_n 3, 1) := by decide +kernel
theorem dJ1_indexOfChar_4cfef_10 : decode cJ1_indexOfChar_4cfef 10 = .ok (.if_icmp .ge 21, 3) := by decide +kernel
theorem dJ1_indexOfChar_4cfef_13 : decode cJ1_indexOfChar_4cfef 13 = .ok (.aload_n 0, 1) := by decide +kernel
theorem dJ1_indexOfChar_4cfef_14 : decode cJ1_indexOfChar_4cfef 14 = .ok (.iload 5, 2) := by decide +kernel
theorem dJ1_indexOfChar_4cfef_16 : decode cJ1_indexOfChar_4cfef 16 = .ok (.baload, 1) := by decide +kernel
theorem dJ1_indexOfChar_4cfef_17 : decode cJ1_indexOfChar_4cfef 17 = .ok (.iload 4, 2) := by decide +kernel
theorem dJ1_indexOfChar_4cfef_19 : decode cJ1_indexOfChar_4cfef 19 = .ok (.if_icmp .ne 6, 3) := by decide +kernel
theorem dJ1_indexOfChar_4cfef_22 : decode cJ1_indexOfChar_4cfef 22 = .ok (.iload 5, 2) := by decide +kernel
theorem dJ1_indexOfChar_4cfef_24 : decode cJ1_indexOfChar_4cfef 24 = .ok (.ireturn, 1) := by decide +kernel
theorem dJ1_indexOfChar_4cfef_25 : decode cJ1_indexOfChar_4cfef 25 = .ok (.iinc 5 1, 3) := by decide +kernel
theorem dJ1_indexOfChar_4cfef_28 : decode cJ1_indexOfChar_4cfef 28 = .ok (.goto (-21), 3) := by decide +kernel
theorem dJ1_indexOfChar_4cfef_31 : decode cJ1_indexOfChar_4cfef 31 = .ok (.iconst (-1), 1) := by decide +kernel
theorem dJ1_indexOfChar_4cfef_32 : decode cJ1_indexOfChar_4cfef 32 = .ok (.ireturn, 1) := by decide +kernel
theorem dJ2_getChar_3b067_0 : decode cJ2_getChar_3b067 0 = .ok (.getstatic 44, 3) := by decide +kernel
theorem dJ2_getChar_3b067_3 : decode cJ2_getChar_3b067 3 = .ok (.ifCond .ne 25, 3) := by decide +kernel
theorem dJ2_getChar_3b067_6 : decode cJ2_getChar_3b067 6 = .ok (.iload_n 1, 1) := by decide +kernel
theorem dJ2_getChar_3b067_7 : decode cJ2_getChar_3b067 7 = .ok (.ifCond .lt 11, 3) := by decide +kernel
theorem dJ2_getChar_3b067_10 : decode cJ2_getChar_3b067 10 = .ok (.iload_n 1, 1) := by decide +kernel
theorem dJ2_getChar_3b067_11 : decode cJ2_getChar_3b067 11 = .ok (.aload_n 0, 1) := by decide +kernel
theorem dJ2_getChar_3b067_12 : decode cJ2_getChar_3b067 12 = .ok (.invokestatic 48, 3) := by decide +kernel
theorem dJ2_getChar_3b067_15 : decode cJ2_getChar_3b067 15 = .ok (.if_icmp .lt 13, 3) := by decide +kernel
theorem dJ2_getChar_3b067_18 : decode cJ2_getChar_3b067 18 = .ok (.new 52, 3) := by decide +kernel
theorem dJ2_getChar_3b067_21 : decode cJ2_getChar_3b067 21 = .ok (.dup, 1) := by decide +kernel
theorem dJ2_getChar_3b067_22 : decode cJ2_getChar_3b067 22 = .ok (.ldc 54, 2) := by decide +kernel
theorem dJ2_getChar_3b067_24 : decode cJ2_getChar_3b067 24 = .ok (.invokespecial 56, 3) := by decide +kernel
theorem dJ2_getChar_3b067_27 : decode cJ2_getChar_3b067 27 = .ok (.athrow, 1) := by decide +kernel
theorem dJ2_getChar_3b067_28 : decode cJ2_getChar_3b067 28 = .ok (.iload_n 1, 1) := by decide +kernel
theorem dJ2_getChar_3b067_29 : decode cJ2_getChar_3b067 29 = .ok (.iconst 1, 1) := by decide +kernel
theorem dJ2_getChar_3b067_30 : decode cJ2_getChar_3b067 30 = .ok (.ishl, 1) := by decide +kernel
theorem dJ2_getChar_3b067_31 : decode cJ2_getChar_3b067 31 = .ok (.istore_n 1, 1) := by decide +kernel
theorem dJ2_getChar_3b067_32 : decode cJ2_getChar_3b067 32 = .ok (.aload_n 0, 1) := by decide +kernel
theorem dJ2_getChar_3b067_33 : decode cJ2_getChar_3b067 33 = .ok (.iload_n 1, 1) := by decide +kernel
theorem dJ2_getChar_3b067_34 : decode cJ2_getChar_3b067 34 = .ok (.iinc 1 1, 3) := by decide +kernel
theorem dJ2_getChar_3b067_37 : decode cJ2_getChar_3b067 37 = .ok (.baload, 1) := by decide +kernel
theorem dJ2_getChar_3b067_38 : decode cJ2_getChar_3b067 38 = .ok (.sipush 255, 3) := by decide +kernel
theorem dJ2_getChar_3b067_41 : decode cJ2_getChar_3b067 41 = .ok (.iand, 1) := by decide +kernel
theorem dJ2_getChar_3b067_42 : decode cJ2_getChar_3b067 42 = .ok (.getstatic 59, 3) := by decide +kernel
theorem dJ2_getChar_3b067_45 : decode cJ2_getChar_3b067 45 = .ok (.ishl, 1) := by decide +kernel
theorem dJ2_getChar_3b067_46 : decode cJ2_getChar_3b067 46 = .ok (.aload_n 0, 1) := by decide +kernel
theorem dJ2_getChar_3b067_47 : decode cJ2_getChar_3b067 47 = .ok (.iload_n 1, 1) := by decide +kernel
theorem dJ2_getChar_3b067_48 : decode cJ2_getChar_3b067 48 = .ok (.baload, 1) := by decide +kernel
theorem dJ2_getChar_3b067_49 : decode cJ2_getChar_3b067 49 = .ok (.sipush 255, 3) := by decide +kernel
theorem dJ2_getChar_3b067_52 : decode cJ2_getChar_3b067 52 = .ok (.iand, 1) := by decide +kernel
theorem dJ2_getChar_3b067_53 : decode cJ2_getChar_3b067 53 = .ok (.getstatic 63, 3) := by decide +kernel
theorem dJ2_getChar_3b067_56 : decode cJ2_getChar_3b067 56 = .ok (.ishl, 1) := by decide +kernel
theorem dJ2_getChar_3b067_57 : decode cJ2_getChar_3b067 57 = .ok (.ior, 1) := by decide +kernel
theorem dJ2_getChar_3b067_58 : decode cJ2_getChar_3b067 58 = .ok (.i2c, 1) := by decide +kernel
theorem dJ2_getChar_3b067_59 : decode cJ2_getChar_3b067 59 = .ok (.ireturn, 1) := by decide +kernel
theorem dJ2_length_9d52b_0 : decode cJ2_length_9d52b 0 = .ok (.aload_n 0, 1) := by decide +kernel
theorem dJ2_length_9d52b_1 : decode cJ2_length_9d52b 1 = .ok (.arraylength, 1) := by decide +kernel
theorem dJ2_length_9d52b_2 : decode cJ2_length_9d52b 2 = .ok (.iconst 1, 1) := by decide +kernel
theorem dJ2_length_9d52b_3 : decode cJ2_length_9d52b 3 = .ok (.ishr, 1) := by decide +kernel
theorem dJ2_length_9d52b_4 : decode cJ2_length_9d52b 4 = .ok (.ireturn, 1) := by decide +kernel
theorem dJ2_indexOf_4cfef_0 : decode cJ2_indexOf_4cfef 0 = .ok (.iload_n 2, 1) := by decide +kernel
theorem dJ2_indexOf_4cfef_1 : decode cJ2_indexOf_4cfef 1 = .ok (.iconst 0, 1) := by decide +kernel
theorem dJ2_indexOf_4cfef_2 : decode cJ2_indexOf_4cfef 2 = .ok (.invokestatic 224, 3) := by decide +kernel
theorem dJ2_indexOf_4cfef_5 : decode cJ2_indexOf_4cfef 5 = .ok (.istore_n 2, 1) := by decide +kernel
theorem dJ2_indexOf_4cfef_6 : decode cJ2_indexOf_4cfef 6 = .ok (.iload_n 3, 1) := by decide +kernel
theorem dJ2_indexOf_4cfef_7 : decode cJ2_indexOf_4cfef 7 = .ok (.aload_n 0, 1) := by decide +kernel
theorem dJ2_indexOf_4cfef_8 : decode cJ2_indexOf_4cfef 8 = .ok (.arraylength, 1) := by decide +kernel
theorem dJ2_indexOf_4cfef_9 : decode cJ2_indexOf_4cfef 9 = .ok (.iconst 1, 1) := by decide +kernel
theorem dJ2_indexOf_4cfef_10 : decode cJ2_indexOf_4cfef 10 = .ok (.ishr, 1) := by decide +kernel
theorem dJ2_indexOf_4cfef_11 : decode cJ2_indexOf_4cfef 11 = .ok (.invokestatic 183, 3) := by decide +kernel
theorem dJ2_indexOf_4cfef_14 : decode cJ2_indexOf_4cfef 14 = .ok (.istore_n 3, 1) := by decide +kernel
theorem dJ2_indexOf_4cfef_15 : decode cJ2_indexOf_4cfef 15 = .ok (.iload_n 2, 1) := by decide +kernel
theorem dJ2_indexOf_4cfef_16 : decode cJ2_indexOf_4cfef 16 = .ok (.iload_n 3, 1) := by decide +kernel
theorem dJ2_indexOf_4cfef_17 : decode cJ2_indexOf_4cfef 17 = .ok (.if_icmp .lt 5, 3) := by decide +kernel
theorem dJ2_indexOf_4cfef_20 : decode cJ2_indexOf_4cfef 20 = .ok (.iconst (-1), 1) := by decide +kernel
theorem dJ2_indexOf_4cfef_21 : decode cJ2_indexOf_4cfef 21 = .ok (.ireturn, 1) := by decide +kernel
theorem dJ2_indexOf_4cfef_22 : decode cJ2_indexOf_4cfef 22 = .ok (.iload_n 1, 1) := by decide +kernel
theorem dJ2_indexOf_4cfef_23 : decode cJ2_indexOf_4cfef 23 = .ok (.ldc 227, 2) := by decide +kernel
theorem dJ2_indexOf_4cfef_25 : decode cJ2_indexOf_4cfef 25 = .ok (.if_icmp .ge 11, 3) := by decide +kernel
theorem dJ2_indexOf_4cfef_28 : decode cJ2_indexOf_4cfef 28 = .ok (.aload_n 0, 1) := by decide +kernel
theorem dJ2_indexOf_4cfef_29 : decode cJ2_indexOf_4cfef 29 = .ok (.iload_n 1, 1) := by decide +kernel
theorem dJ2_indexOf_4cfef_30 : decode cJ2_indexOf_4cfef 30 = .ok (.iload_n 2, 1) := by decide +kernel
theorem dJ2_indexOf_4cfef_31 : decode cJ2_indexOf_4cfef 31 = .ok (.iload_n 3, 1) := by decide +kernel
theorem dJ2_indexOf_4cfef_32 : decode cJ2_indexOf_4cfef 32 = .ok (.invokestatic 228, 3) := by decide +kernel
theorem dJ2_indexOf_4cfef_35 : decode cJ2_indexOf_4cfef 35 = .ok (.ireturn, 1) := by decide +kernel
theorem dJ2_indexOf_4cfef_36 : decode cJ2_indexOf_4cfef 36 = .ok (.aload_n 0, 1) := by decide +kernel
theorem dJ2_indexOf_4cfef_37 : decode cJ2_indexOf_4cfef 37 = .ok (.iload_n 1, 1) := by decide +kernel
theorem dJ2_indexOf_4cfef_38 : decode cJ2_indexOf_4cfef 38 = .ok (.iload_n 2, 1) := by decide +kernel
theorem dJ2_indexOf_4cfef_39 : decode cJ2_indexOf_4cfef 39 = .ok (.iload_n 3, 1) := by decide +kernel
theorem dJ2_indexOf_4cfef_40 : decode cJ2_indexOf_4cfef 40 = .ok (.invokestatic 232, 3) := by decide +kernel
theorem dJ2_indexOf_4cfef_43 : decode cJ2_indexOf_4cfef 43 = .ok (.ireturn, 1) := by decide +kernel
theorem dJ2_indexOfChar_4cfef_0 : decode cJ2_indexOfChar_4cfef 0 = .ok (.iload_n 2, 1) := by decide +kernel
theorem dJ2_indexOfChar_4cfef_1 : decode cJ2_indexOfChar_4cfef 1 = .ok (.iload_n 3, 1) := by decide +kernel
theorem dJ2_indexOfChar_4cfef_2 : decode cJ2_indexOfChar_4cfef 2 = .ok (.aload_n 0, 1) := by decide +kernel
theorem dJ2_indexOfChar_4cfef_3 : decode cJ2_indexOfChar_4cfef 3 = .ok (.invokestatic 96, 3) := by decide +kernel
theorem dJ2_indexOfChar_4cfef_6 : decode cJ2_indexOfChar_4cfef 6 = .ok (.aload_n 0, 1) := by decide +kernel
theorem dJ2_indexOfChar_4cfef_7 : decode cJ2_indexOfChar_4cfef 7 = .ok (.iload_n 1, 1) := by decide +kernel
theorem dJ2_indexOfChar_4cfef_8 : decode cJ2_indexOfChar_4cfef 8 = .ok (.iload_n 2, 1) := by decide +kernel
theorem dJ2_indexOfChar_4cfef_9 : decode cJ2_indexOfChar_4cfef 9 = .ok (.iload_n 3, 1) := by decide +kernel
theorem dJ2_indexOfChar_4cfef_10 : decode cJ2_indexOfChar_4cfef 10 = .ok (.invokestatic 244, 3) := by decide +kernel
theorem dJ2_indexOfChar_4cfef_13 : decode cJ2_indexOfChar_4cfef 13 = .ok (.ireturn, 1) := by decide +kernel
theorem dJ2_indexOfCharUnsafe_4cfef_0 : decode cJ2_indexOfCharUnsafe_4cfef 0 = .ok (.iload_n 2, 1) := by decide +kernel
theorem dJ2_indexOfCharUnsafe_4cfef_1 : decode cJ2_indexOfCharUnsafe_4cfef 1 = .ok (.istore 4, 2) := by decide +kernel
theorem dJ2_indexOfCharUnsafe_4cfef_3 : decode cJ2_indexOfCharUnsafe_4cfef 3 = .ok (.iload 4, 2) := by decide +kernel
theorem dJ2_indexOfCharUnsafe_4cfef_5 : decode cJ2_indexOfCharUnsafe_4cfef 5 = .ok (.iload_n 3, 1) := by decide +kernel
theorem dJ2_indexOfCharUnsafe_4cfef_6 : decode cJ2_indexOfCharUnsafe_4cfef 6 = .ok (.if_icmp .ge 22, 3) := by decide +kernel
theorem dJ2_indexOfCharUnsafe_4cfef_9 : decode cJ2_indexOfCharUnsafe_4cfef 9 = .ok (.aload_n 0, 1) := by decide +kernel
theorem dJ2_indexOfCharUnsafe_4cfef_10 : decode cJ2_indexOfCharUnsafe_4cfef 10 = .ok (.iload 4, 2) := by decide +kernel
theorem dJ2_indexOfCharUnsafe_4cfef_12 : decode cJ2_indexOfCharUnsafe_4cfef 12 = .ok (.invokestatic 71, 3) := by decide +kernel
theorem dJ2_indexOfCharUnsafe_4cfef_15 : decode cJ2_indexOfCharUnsafe_4cfef 15 = .ok (.iload_n 1, 1) := by decide +kernel
theorem dJ2_indexOfCharUnsafe_4cfef_16 : decode cJ2_indexOfCharUnsafe_4cfef 16 = .ok (.if_icmp .ne 6, 3) := by decide +kernel
theorem dJ2_indexOfCharUnsafe_4cfef_19 : decode cJ2_indexOfCharUnsafe_4cfef 19 = .ok (.iload 4, 2) := by decide +kernel
theorem dJ2_indexOfCharUnsafe_4cfef_21 : decode cJ2_indexOfCharUnsafe_4cfef 21 = .ok (.ireturn, 1) := by decide +kernel
theorem dJ2_indexOfCharUnsafe_4cfef_22 : decode cJ2_indexOfCharUnsafe_4cfef 22 = .ok (.iinc 4 1, 3) := by decide +kernel
theorem dJ2_indexOfCharUnsafe_4cfef_25 : decode cJ2_indexOfCharUnsafe_4cfef 25 = .ok (.goto (-22), 3) := by decide +kernel
theorem dJ2_indexOfCharUnsafe_4cfef_28 : decode cJ2_indexOfCharUnsafe_4cfef 28 = .ok (.iconst (-1), 1) := by decide +kernel
theorem dJ2_indexOfCharUnsafe_4cfef_29 : decode cJ2_indexOfCharUnsafe_4cfef 29 = .ok (.ireturn, 1) := by decide +kernel
theorem dJ2_indexOfSupplementary_4cfef_0 : decode cJ2_indexOfSupplementary_4cfef 0 = .ok (.iload_n 1, 1) := by decide +kernel
theorem dJ2_indexOfSupplementary_4cfef_1 : decode cJ2_indexOfSupplementary_4cfef 1 = .ok (.invokestatic 164, 3) := by decide +kernel
theorem dJ2_indexOfSupplementary_4cfef_4 : decode cJ2_indexOfSupplementary_4cfef 4 = .ok (.ifCond .eq 65, 3) := by decide +kernel
theorem dJ2_indexOfSupplementary_4cfef_7 : decode cJ2_indexOfSupplementary_4cfef 7 = .ok (.iload_n 1, 1) := by decide +kernel
theorem dJ2_indexOfSupplementary_4cfef_8 : decode cJ2_indexOfSupplementary_4cfef 8 = .ok (.invokestatic 157, 3) := by decide +kernel
theorem dJ2_indexOfSupplementary_4cfef_11 : decode cJ2_indexOfSupplementary_4cfef 11 = .ok (.istore 4, 2) := by decide +kernel
theorem dJ2_indexOfSupplementary_4cfef_13 : decode cJ2_indexOfSupplementary_4cfef 13 = .ok (.iload_n 1, 1) := by decide +kernel
theorem dJ2_indexOfSupplementary_4cfef_14 : decode cJ2_indexOfSupplementary_4cfef 14 = .ok (.invokestatic 161, 3) := by decide +kernel
theorem dJ2_indexOfSupplementary_4cfef_17 : decode cJ2_indexOfSupplementary_4cfef 17 = .ok (.istore 5, 2) := by decide +kernel
theorem dJ2_indexOfSupplementary_4cfef_19 : decode cJ2_indexOfSupplementary_4cfef 19 = .ok (.iload_n 2, 1) := by decide +kernel
theorem dJ2_indexOfSupplementary_4cfef_20 : decode cJ2_indexOfSupplementary_4cfef 20 = .ok (.iload_n 3, 1) := by decide +kernel
theorem dJ2_indexOfSupplementary_4cfef_21 : decode cJ2_indexOfSupplementary_4cfef 21 = .ok (.aload_n 0, 1) := by decide +kernel
theorem dJ2_indexOfSupplementary_4cfef_22 : decode cJ2_indexOfSupplementary_4cfef 22 = .ok (.invokestatic 96, 3) := by decide +kernel
theorem dJ2_indexOfSupplementary_4cfef_25 : decode cJ2_indexOfSupplementary_4cfef 25 = .ok (.iload_n 2, 1) := by decide +kernel
theorem dJ2_indexOfSupplementary_4cfef_26 : decode cJ2_indexOfSupplementary_4cfef 26 = .ok (.istore 6, 2) := by decide +kernel
theorem dJ2_indexOfSupplementary_4cfef_28 : decode cJ2_indexOfSupplementary_4cfef 28 = .ok (.iload 6, 2) := by decide +kernel
theorem dJ2_indexOfSupplementary_4cfef_30 : decode cJ2_indexOfSupplementary_4cfef 30 = .ok (.iload_n 3, 1) := by decide +kernel
theorem dJ2_indexOfSupplementary_4cfef_31 : decode cJ2_indexOfSupplementary_4cfef 31 = .ok (.iconst 1, 1) := by decide +kernel
theorem dJ2_indexOfSupplementary_4cfef_32 : decode cJ2_indexOfSupplementary_4cfef 32 = .ok (.isub, 1) := by decide +kernel
theorem dJ2_indexOfSupplementary_4cfef_33 : decode cJ2_indexOfSupplementary_4cfef 33 = .ok (.if_icmp .ge 36, 3) := by decide +kernel
theorem dJ2_indexOfSupplementary_4cfef_36 : decode cJ2_indexOfSupplementary_4cfef 36 = .ok (.aload_n 0, 1) := by decide +kernel
theorem dJ2_indexOfSupplementary_4cfef_37 : decode cJ2_indexOfSupplementary_4cfef 37 = .ok (.iload 6, 2) := by decide +kernel
theorem dJ2_indexOfSupplementary_4cfef_39 : decode cJ2_indexOfSupplementary_4cfef 39 = .ok (.invokestatic 71, 3) := by decide +kernel
theorem dJ2_indexOfSupplementary_4cfef_42 : decode cJ2_indexOfSupplementary_4cfef 42 = .ok (.iload 4, 2) := by decide +kernel
theorem dJ2_indexOfSupplementary_4cfef_44 : decode cJ2_indexOfSupplementary_4cfef 44 = .ok (.if_icmp .ne 19, 3) := by decide +kernel
theorem dJ2_indexOfSupplementary_4cfef_47 : decode cJ2_indexOfSupplementary_4cfef 47 = .ok (.aload_n 0, 1) := by decide +kernel
theorem dJ2_indexOfSupplementary_4cfef_48 : decode cJ2_indexOfSupplementary_4cfef 48 = .ok (.iload 6, 2) := by decide +kernel
theorem dJ2_indexOfSupplementary_4cfef_50 : decode cJ2_indexOfSupplementary_4cfef 50 = .ok (.iconst 1, 1) := by decide +kernel
theorem dJ2_indexOfSupplementary_4cfef_51 : decode cJ2_indexOfSupplementary_4cfef 51 = .ok (.iadd, 1) := by decide +kernel
theorem dJ2_indexOfSupplementary_4cfef_52 : decode cJ2_indexOfSupplementary_4cfef 52 = .ok (.invokestatic 71, 3) := by decide +kernel
theorem dJ2_indexOfSupplementary_4cfef_55 : decode cJ2_indexOfSupplementary_4cfef 55 = .ok (.iload 5, 2) := by decide +kernel
theorem dJ2_indexOfSupplementary_4cfef_57 : decode cJ2_indexOfSupplementary_4cfef 57 = .ok (.if_icmp .ne 6, 3) := by decide +kernel
theorem dJ2_indexOfSupplementary_4cfef_60 : decode cJ2_indexOfSupplementary_4cfef 60 = .ok (.iload 6, 2) := by decide +kernel
theorem dJ2_indexOfSupplementary_4cfef_62 : decode cJ2_indexOfSupplementary_4cfef 62 = .ok (.ireturn, 1) := by decide +kernel
theorem dJ2_indexOfSupplementary_4cfef_63 : decode cJ2_indexOfSupplementary_4cfef 63 = .ok (.iinc 6 1, 3) := by decide +kernel
theorem dJ2_indexOfSupplementary_4cfef_66 : decode cJ2_indexOfSupplementary_4cfef 66 = .ok (.goto (-38), 3) := by decide +kernel
theorem dJ2_indexOfSupplementary_4cfef_69 : decode cJ2_indexOfSupplementary_4cfef 69 = .ok (.iconst (-1), 1) := by decide +kernel
theorem dJ2_indexOfSupplementary_4cfef_70 : decode cJ2_indexOfSupplementary_4cfef 70 = .ok (.ireturn, 1) := by decide +kernel
theorem dJ2_checkBoundsBeginEnd_d044e_0 : decode cJ2_checkBoundsBeginEnd_d044e 0 = .ok (.iload_n 0, 1) := by decide +kernel
theorem dJ2_checkBoundsBeginEnd_d044e_1 : decode cJ2_checkBoundsBeginEnd_d044e 1 = .ok (.iload_n 1, 1) := by decide +kernel
theorem dJ2_checkBoundsBeginEnd_d044e_2 : decode cJ2_checkBoundsBeginEnd_d044e 2 = .ok (.aload_n 2, 1) := by decide +kernel
theorem dJ2_checkBoundsBeginEnd_d044e_3 : decode cJ2_checkBoundsBeginEnd_d044e 3 = .ok (.invokestatic 48, 3) := by decide +kernel
theorem dJ2_checkBoundsBeginEnd_d044e_6 : decode cJ2_checkBoundsBeginEnd_d044e 6 = .ok (.invokestatic 241, 3) := by decide +kernel
theorem dJ2_checkBoundsBeginEnd_d044e_9 : decode cJ2_checkBoundsBeginEnd_d044e 9 = .ok (.return_, 1) := by decide +kernel
theorem dJ7_fill_53178_0 : decode cJ7_fill_53178 0 = .ok (.iconst 0, 1) := by decide +kernel
theorem dJ7_fill_53178_1 : decode cJ7_fill_53178 1 = .ok (.istore_n 2, 1) := by decide +kernel
theorem dJ7_fill_53178_2 : decode cJ7_fill_53178 2 = .ok (.aload_n 0, 1) := by decide +kernel
theorem dJ7_fill_53178_3 : decode cJ7_fill_53178 3 = .ok (.arraylength, 1) := by decide +kernel
theorem dJ7_fill_53178_4 : decode cJ7_fill_53178 4 = .ok (.istore_n 3, 1) := by decide +kernel
theorem dJ7_fill_53178_5 : decode cJ7_fill_53178 5 = .ok (.iload_n 2, 1) := by decide +kernel
theorem dJ7_fill_53178_6 : decode cJ7_fill_53178 6 = .ok (.iload_n 3, 1) := by decide +kernel
theorem dJ7_fill_53178_7 : decode cJ7_fill_53178 7 = .ok (.if_icmp .ge 13, 3) := by decide +kernel
theorem dJ7_fill_53178_10 : decode cJ7_fill_53178 10 = .ok (.aload_n 0, 1) := by decide +kernel
theorem dJ7_fill_53178_11 : decode cJ7_fill_53178 11 = .ok (.iload_n 2, 1) := by decide +kernel
theorem dJ7_fill_53178_12 : decode cJ7_fill_53178 12 = .ok (.iload_n 1, 1) := by decide +kernel
theorem dJ7_fill_53178_13 : decode cJ7_fill_53178 13 = .ok (.iastore, 1) := by decide +kernel
theorem dJ7_fill_53178_14 : decode cJ7_fill_53178 14 = .ok (.iinc 2 1, 3) := by decide +kernel
theorem dJ7_fill_53178_17 : decode cJ7_fill_53178 17 = .ok (.goto (-12), 3) := by decide +kernel
theorem dJ7_fill_53178_20 : decode cJ7_fill_53178 20 = .ok (.return_, 1) := by decide +kernel
theorem dJ3_checkFromToIndex_8c36e_0 : decode cJ3_checkFromToIndex_8c36e 0 = .ok (.iload_n 0, 1) := by decide +kernel
theorem dJ3_checkFromToIndex_8c36e_1 : decode cJ3_checkFromToIndex_8c36e 1 = .ok (.ifCond .lt 13, 3) := by decide +kernel
theorem dJ3_checkFromToIndex_8c36e_4 : decode cJ3_checkFromToIndex_8c36e 4 = .ok (.iload_n 0, 1) := by decide +kernel
theorem dJ3_checkFromToIndex_8c36e_5 : decode cJ3_checkFromToIndex_8c36e 5 = .ok (.iload_n 1, 1) := by decide +kernel
theorem dJ3_checkFromToIndex_8c36e_6 : decode cJ3_checkFromToIndex_8c36e 6 = .ok (.if_icmp .gt 8, 3) := by decide +kernel
theorem dJ3_checkFromToIndex_8c36e_9 : decode cJ3_checkFromToIndex_8c36e 9 = .ok (.iload_n 1, 1) := by decide +kernel
theorem dJ3_checkFromToIndex_8c36e_10 : decode cJ3_checkFromToIndex_8c36e 10 = .ok (.iload_n 2, 1) := by decide +kernel
theorem dJ3_checkFromToIndex_8c36e_11 : decode cJ3_checkFromToIndex_8c36e 11 = .ok (.if_icmp .le 11, 3) := by decide +kernel
theorem dJ3_checkFromToIndex_8c36e_14 : decode cJ3_checkFromToIndex_8c36e 14 = .ok (.aload_n 3, 1) := by decide +kernel
theorem dJ3_checkFromToIndex_8c36e_15 : decode cJ3_checkFromToIndex_8c36e 15 = .ok (.iload_n 0, 1) := by decide +kernel
theorem dJ3_checkFromToIndex_8c36e_16 : decode cJ3_checkFromToIndex_8c36e 16 = .ok (.iload_n 1, 1) := by decide +kernel
theorem dJ3_checkFromToIndex_8c36e_17 : decode cJ3_checkFromToIndex_8c36e 17 = .ok (.iload_n 2, 1) := by decide +kernel
theorem dJ3_checkFromToIndex_8c36e_18 : decode cJ3_checkFromToIndex_8c36e 18 = .ok (.invokestatic 99, 3) := by decide +kernel
theorem dJ3_checkFromToIndex_8c36e_21 : decode cJ3_checkFromToIndex_8c36e 21 = .ok (.athrow, 1) := by decide +kernel
theorem dJ3_checkFromToIndex_8c36e_22 : decode cJ3_checkFromToIndex_8c36e 22 = .ok (.iload_n 0, 1) := by decide +kernel
theorem dJ3_checkFromToIndex_8c36e_23 : decode cJ3_checkFromToIndex_8c36e 23 = .ok (.ireturn, 1) := by decide +kernel
