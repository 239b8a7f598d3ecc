theorem dX8_numberAnew_64 : decode cX8_numberAnew 64 = .ok (.getfield 23, 3) := by decide +kernel
theorem dX8_numberAnew_67 : decode cX8_numberAnew 67 = .ok (.aload_n 0, 1) := by decide +kernel
theorem dX8_numberAnew_68 : decode cX8_numberAnew 68 = .ok (.getfield 27, 3) := by decide +kernel
theorem dX8_numberAnew_71 : decode cX8_numberAnew 71 = .ok (.iload_n 1, 1) := by decide +kernel
theorem dX8_numberAnew_72 : decode cX8_numberAnew 72 = .ok (.invokevirtual 149, 3) := by decide +kernel
theorem dX8_numberAnew_75 : decode cX8_numberAnew 75 = .ok (.iload_n 3, 1) := by decide +kernel
theorem dX8_numberAnew_76 : decode cX8_numberAnew 76 = .ok (.iload 4, 2) := by decide +kernel
theorem dX8_numberAnew_78 : decode cX8_numberAnew 78 = .ok (.invokevirtual 281, 3) := by decide +kernel
theorem dX8_numberAnew_81 : decode cX8_numberAnew 81 = .ok (.ireturn, 1) := by decide +kernel
set_option maxRecDepth 20000 in
theorem ggX9_init_X9_layTerms : GoodIn wsX9_init wsX9_layTerms := goodIn_r _ [31, 32, 11, 12, 33, 13, 34, 35, 36, 37, 30, 38, 7, 6, 16, 14, 15, 39, 40, 41, 42, 43, 44, 45, 46, 47, 48, 49, 50, 51, 52, 53, 54, 55, 56, 57, 58, 59, 60, 61, 62, 63, 64, 65, 66, 67, 68, 69, 70, 71, 72, 73, 74, 75, 76, 77, 78, 79, 80, 81, 82, 83, 84, 85, 86, 87, 88, 89, 90, 91, 92, 93] (by decide +kernel) (by decide +kernel)
set_option maxRecDepth 20000 in
theorem gX9_init_X9_layTerms : GoodIn wsX9_init (wsV RX9 74 RX9 yX9_layTerms wsX9_layTerms) := goodIn_app (goodIn_of _ (by decide +kernel)) ggX9_init_X9_layTerms
theorem dX9_init_0 : decode cX9_init 0 = .ok (.aload_n 0, 1) := by decide +kernel
theorem dX9_init_1 : decode cX9_init 1 = .ok (.invokespecial 1, 3) := by decide +kernel
theorem dX9_init_4 : decode cX9_init 4 = .ok (.aload_n 0, 1) := by decide +kernel
theorem dX9_init_5 : decode cX9_init 5 = .ok (.bipush 40, 2) := by decide +kernel
theorem dX9_init_7 : decode cX9_init 7 = .ok (.newarray .int, 2) := by decide +kernel
theorem dX9_init_9 : decode cX9_init 9 = .ok (.putfield 7, 3) := by decide +kernel
theorem dX9_init_12 : decode cX9_init 12 = .ok (.aload_n 0, 1) := by decide +kernel
theorem dX9_init_13 : decode cX9_init 13 = .ok (.sipush 400, 3) := by decide +kernel
theorem dX9_init_16 : decode cX9_init 16 = .ok (.newarray .int, 2) := by decide +kernel
theorem dX9_init_18 : decode cX9_init 18 = .ok (.putfield 13, 3) := by decide +kernel
theorem dX9_init_21 : decode cX9_init 21 = .ok (.aload_n 0, 1) := by decide +kernel
theorem dX9_init_22 : decode cX9_init 22 = .ok (.bipush 10, 2) := by decide +kernel
theorem dX9_init_24 : decode cX9_init 24 = .ok (.newarray .int, 2) := by decide +kernel
theorem dX9_init_26 : decode cX9_init 26 = .ok (.putfield 16, 3) := by decide +kernel
theorem dX9_init_29 : decode cX9_init 29 = .ok (.aload_n 0, 1) := by decide +kernel
theorem dX9_init_30 : decode cX9_init 30 = .ok (.bipush 10, 2) := by decide +kernel
theorem dX9_init_32 : decode cX9_init 32 = .ok (.newarray .int, 2) := by decide +kernel
theorem dX9_init_34 : decode cX9_init 34 = .ok (.putfield 19, 3) := by decide +kernel
theorem dX9_init_37 : decode cX9_init 37 = .ok (.aload_n 0, 1) := by decide +kernel
theorem dX9_init_38 : decode cX9_init 38 = .ok (.bipush 10, 2) := by decide +kernel
theorem dX9_init_40 : decode cX9_init 40 = .ok (.newarray .int, 2) := by decide +kernel
theorem dX9_init_42 : decode cX9_init 42 = .ok (.putfield 22, 3) := by decide +kernel
theorem dX9_init_45 : decode cX9_init 45 = .ok (.aload_n 0, 1) := by decide +kernel
theorem dX9_init_46 : decode cX9_init 46 = .ok (.bipush 40, 2) := by decide +kernel
theorem dX9_init_48 : decode cX9_init 48 = .ok (.newarray .int, 2) := by decide +kernel
theorem dX9_init_50 : decode cX9_init 50 = .ok (.putfield 25, 3) := by decide +kernel
theorem dX9_init_53 : decode cX9_init 53 = .ok (.aload_n 0, 1) := by decide +kernel
theorem dX9_init_54 : decode cX9_init 54 = .ok (.bipush 64, 2) := by decide +kernel
theorem dX9_init_56 : decode cX9_init 56 = .ok (.newarray .int, 2) := by decide +kernel
theorem dX9_init_58 : decode cX9_init 58 = .ok (.putfield 28, 3) := by decide +kernel
theorem dX9_init_61 : decode cX9_init 61 = .ok (.aload_n 0, 1) := by decide +kernel
theorem dX9_init_62 : decode cX9_init 62 = .ok (.bipush 64, 2) := by decide +kernel
theorem dX9_init_64 : decode cX9_init 64 = .ok (.newarray .int, 2) := by decide +kernel
theorem dX9_init_66 : decode cX9_init 66 = .ok (.putfield 31, 3) := by decide +kernel
theorem dX9_init_69 : decode cX9_init 69 = .ok (.aload_n 0, 1) := by decide +kernel
theorem dX9_init_70 : decode cX9_init 70 = .ok (.bipush 64, 2) := by decide +kernel
theorem dX9_init_72 : decode cX9_init 72 = .ok (.newarray .int, 2) := by decide +kernel
theorem dX9_init_74 : decode cX9_init 74 = .ok (.putfield 34, 3) := by decide +kernel
theorem dX9_init_77 : decode cX9_init 77 = .ok (.aload_n 0, 1) := by decide +kernel
theorem dX9_init_78 : decode cX9_init 78 = .ok (.bipush 10, 2) := by decide +kernel
theorem dX9_init_80 : decode cX9_init 80 = .ok (.newarray .int, 2) := by decide +kernel
theorem dX9_init_82 : decode cX9_init 82 = .ok (.putfield 37, 3) := by decide +kernel
theorem dX9_init_85 : decode cX9_init 85 = .ok (.aload_n 0, 1) := by decide +kernel
theorem dX9_init_86 : decode cX9_init 86 = .ok (.bipush 10, 2) := by decide +kernel
theorem dX9_init_88 : decode cX9_init 88 = .ok (.newarray .int, 2) := by decide +kernel
theorem dX9_init_90 : decode cX9_init 90 = .ok (.putfield 40, 3) := by decide +kernel
theorem dX9_init_93 : decode cX9_init 93 = .ok (.aload_n 0, 1) := by decide +kernel
theorem dX9_init_94 : decode cX9_init 94 = .ok (.bipush 40, 2) := by decide +kernel
theorem dX9_init_96 : decode cX9_init 96 = .ok (.newarray .int, 2) := by decide +kernel
theorem dX9_init_98 : decode cX9_init 98 = .ok (.putfield 43, 3) := by decide +kernel
theorem dX9_init_101 : decode cX9_init 101 = .ok (.aload_n 0, 1) := by decide +kernel
theorem dX9_init_102 : decode cX9_init 102 = .ok (.bipush 10, 2) := by decide +kernel
theorem dX9_init_104 : decode cX9_init 104 = .ok (.newarray .int, 2) := by decide +kernel
theorem dX9_init_106 : decode cX9_init 106 = .ok (.putfield 46, 3) := by decide +kernel
theorem dX9_init_109 : decode cX9_init 109 = .ok (.aload_n 0, 1) := by decide +kernel
theorem dX9_init_110 : decode cX9_init 110 = .ok (.bipush 100, 2) := by decide +kernel
theorem dX9_init_112 : decode cX9_init 112 = .ok (.newarray .long, 2) := by decide +kernel
theorem dX9_init_114 : decode cX9_init 114 = .ok (.putfield 49, 3) := by decide +kernel
theorem dX9_init_117 : decode cX9_init 117 = .ok (.aload_n 0, 1) := by decide +kernel
theorem dX9_init_118 : decode cX9_init 118 = .ok (.sipush 6400, 3) := by decide +kernel
theorem dX9_init_121 : decode cX9_init 121 = .ok (.newarray .long, 2) := by decide +kernel
theorem dX9_init_123 : decode cX9_init 123 = .ok (.putfield 53, 3) := by decide +kernel
theorem dX9_init_126 : decode cX9_init 126 = .ok (.aload_n 0, 1) := by decide +kernel
theorem dX9_init_127 : decode cX9_init 127 = .ok (.sipush 640, 3) := by decide +kernel
theorem dX9_init_130 : decode cX9_init 130 = .ok (.newarray .long, 2) := by decide +kernel
theorem dX9_init_132 : decode cX9_init 132 = .ok (.putfield 56, 3) := by decide +kernel
theorem dX9_init_135 : decode cX9_init 135 = .ok (.aload_n 0, 1) := by decide +kernel
theorem dX9_init_136 : decode cX9_init 136 = .ok (.bipush 64, 2) := by decide +kernel
theorem dX9_init_138 : decode cX9_init 138 = .ok (.newarray .int, 2) := by decide +kernel
theorem dX9_init_140 : decode cX9_init 140 = .ok (.putfield 59, 3) := by decide +kernel
theorem dX9_init_143 : decode cX9_init 143 = .ok (.aload_n 0, 1) := by decide +kernel
theorem dX9_init_144 : decode cX9_init 144 = .ok (.bipush 64, 2) := by decide +kernel
theorem dX9_init_146 : decode cX9_init 146 = .ok (.newarray .int, 2) := by decide +kernel
theorem dX9_init_148 : decode cX9_init 148 = .ok (.putfield 62, 3) := by decide +kernel
theorem dX9_init_151 : decode cX9_init 151 = .ok (.aload_n 0, 1) := by decide +kernel
theorem dX9_init_152 : decode cX9_init 152 = .ok (.bipush 64, 2) := by decide +kernel
theorem dX9_init_154 : decode cX9_init 154 = .ok (.newarray .int, 2) := by decide +kernel
theorem dX9_init_156 : decode cX9_init 156 = .ok (.putfield 65, 3) := by decide +kernel
theorem dX9_init_159 : decode cX9_init 159 = .ok (.aload_n 0, 1) := by decide +kernel
theorem dX9_init_160 : decode cX9_init 160 = .ok (.bipush 65, 2) := by decide +kernel
theorem dX9_init_162 : decode cX9_init 162 = .ok (.newarray .int, 2) := by decide +kernel
theorem dX9_init_164 : decode cX9_init 164 = .ok (.putfield 68, 3) := by decide +kernel
theorem dX9_init_167 : decode cX9_init 167 = .ok (.aload_n 0, 1) := by decide +kernel
theorem dX9_init_168 : decode cX9_init 168 = .ok (.bipush 10, 2) := by decide +kernel
theorem dX9_init_170 : decode cX9_init 170 = .ok (.newarray .int, 2) := by decide +kernel
theorem dX9_init_172 : decode cX9_init 172 = .ok (.putfield 71, 3) := by decide +kernel
theorem dX9_init_175 : decode cX9_init 175 = .ok (.aload_n 0, 1) := by decide +kernel
theorem dX9_init_176 : decode cX9_init 176 = .ok (.invokevirtual 74, 3) := by decide +kernel
theorem dX9_init_179 : decode cX9_init 179 = .ok (.return_, 1) := by decide +kernel
theorem dX9_within_0 : decode cX9_within 0 = .ok (.iload_n 0, 1) := by decide +kernel
theorem dX9_within_1 : decode cX9_within 1 = .ok (.iload_n 1, 1) := by decide +kernel
theorem dX9_within_2 : decode cX9_within 2 = .ok (.if_icmp .lt 12, 3) := by decide +kernel
theorem dX9_within_5 : decode cX9_within 5 = .ok (.iload_n 0, 1) := by decide +kernel
theorem dX9_within_6 : decode cX9_within 6 = .ok (.iload_n 2, 1) := by decide +kernel
theorem dX9_within_7 : decode cX9_within 7 = .ok (.if_icmp .gt 7, 3) := by decide +kernel
theorem dX9_within_10 : decode cX9_within 10 = .ok (.iconst 1, 1) := by decide +kernel
theorem dX9_within_11 : decode cX9_within 11 = .ok (.goto 4, 3) := by decide +kernel
theorem dX9_within_14 : decode cX9_within 14 = .ok (.iconst 0, 1) := by decide +kernel
theorem dX9_within_15 : decode cX9_within 15 = .ok (.ireturn, 1) := by decide +kernel
set_option maxRecDepth 20000 in
theorem ggX9_letter_X9_within : GoodIn wsX9_letter wsX9_within := goodIn_r _ [8] (by decide +kernel) (by decide +kernel)
set_option maxRecDepth 20000 in
theorem gX9_letter_X9_within : GoodIn wsX9_letter (va_wsS RX9 77 yX9_within wsX9_within) := goodIn_app (goodIn_of _ (by decide +kernel)) ggX9_letter_X9_within
theorem dX9_letter_0 : decode cX9_letter 0 = .ok (.iload_n 1, 1) := by decide +kernel
theorem dX9_letter_1 : decode cX9_letter 1 = .ok (.bipush 32, 2) := by decide +kernel
theorem dX9_letter_3 : decode cX9_letter 3 = .ok (.bipush 126, 2) := by decide +kernel
theorem dX9_letter_5 : decode cX9_letter 5 = .ok (.invokestatic 77, 3) := by decide +kernel
theorem dX9_letter_8 : decode cX9_letter 8 = .ok (.ifCond .ne 6, 3) := by decide +kernel
theorem dX9_letter_11 : decode cX9_letter 11 = .ok (.ldc 81, 2) := by decide +kernel
theorem dX9_letter_13 : decode cX9_letter 13 = .ok (.ireturn, 1) := by decide +kernel
theorem dX9_letter_14 : decode cX9_letter 14 = .ok (.aload_n 0, 1) := by decide +kernel
theorem dX9_letter_15 : decode cX9_letter 15 = .ok (.getfield 82, 3) := by decide +kernel
theorem dX9_letter_18 : decode cX9_letter 18 = .ok (.bipush 40, 2) := by decide +kernel
theorem dX9_letter_20 : decode cX9_letter 20 = .ok (.if_icmp .ne 6, 3) := by decide +kernel
theorem dX9_letter_23 : decode cX9_letter 23 = .ok (.ldc 86, 2) := by decide +kernel
theorem dX9_letter_25 : decode cX9_letter 25 = .ok (.ireturn, 1) := by decide +kernel
theorem dX9_letter_26 : decode cX9_letter 26 = .ok (.aload_n 0, 1) := by decide +kernel
theorem dX9_letter_27 : decode cX9_letter 27 = .ok (.getfield 7, 3) := by decide +kernel
theorem dX9_letter_30 : decode cX9_letter 30 = .ok (.aload_n 0, 1) := by decide +kernel
theorem dX9_letter_31 : decode cX9_letter 31 = .ok (.getfield 82, 3) := by decide +kernel
theorem dX9_letter_34 : decode cX9_letter 34 = .ok (.iload_n 1, 1) := by decide +kernel
theorem dX9_letter_35 : decode cX9_letter 35 = .ok (.iastore, 1) := by decide +kernel
theorem dX9_letter_36 : decode cX9_letter 36 = .ok (.aload_n 0, 1) := by decide +kernel
theorem dX9_letter_37 : decode cX9_letter 37 = .ok (.dup, 1) := by decide +kernel
theorem dX9_letter_38 : decode cX9_letter 38 = .ok (.getfield 82, 3) := by decide +kernel
theorem dX9_letter_41 : decode cX9_letter 41 = .ok (.iconst 1, 1) := by decide +kernel
theorem dX9_letter_42 : decode cX9_letter 42 = .ok (.iadd, 1) := by decide +kernel
theorem dX9_letter_43 : decode cX9_letter 43 = .ok (.putfield 82, 3) := by decide +kernel
theorem dX9_letter_46 : decode cX9_letter 46 = .ok (.aload_n 0, 1) := by decide +kernel
theorem dX9_letter_47 : decode cX9_letter 47 = .ok (.getfield 82, 3) := by decide +kernel
theorem dX9_letter_50 : decode cX9_letter 50 = .ok (.ireturn, 1) := by decide +kernel
theorem dX9_blank_0 : decode cX9_blank 0 = .ok (.aload_n 0, 1) := by decide +kernel
theorem dX9_blank_1 : decode cX9_blank 1 = .ok (.getfield 82, 3) := by decide +kernel
theorem dX9_blank_4 : decode cX9_blank 4 = .ok (.istore_n 1, 1) := by decide +kernel
theorem dX9_blank_5 : decode cX9_blank 5 = .ok (.aload_n 0, 1) := by decide +kernel
theorem dX9_blank_6 : decode cX9_blank 6 = .ok (.iconst 0, 1) := by decide +kernel
theorem dX9_blank_7 : decode cX9_blank 7 = .ok (.putfield 82, 3) := by decide +kernel
theorem dX9_blank_10 : decode cX9_blank 10 = .ok (.iload_n 1, 1) := by decide +kernel
theorem dX9_blank_11 : decode cX9_blank 11 = .ok (.ireturn, 1) := by decide +kernel
theorem dX9_begins_0 : decode cX9_begins 0 = .ok (.aload_n 0, 1) := by decide +kernel
theorem dX9_begins_1 : decode cX9_begins 1 = .ok (.iconst 0, 1) := by decide +kernel
theorem dX9_begins_2 : decode cX9_begins 2 = .ok (.putfield 87, 3) := by decide +kernel
theorem dX9_begins_5 : decode cX9_begins 5 = .ok (.aload_n 0, 1) := by decide +kernel
theorem dX9_begins_6 : decode cX9_begins 6 = .ok (.iconst 0, 1) := by decide +kernel
theorem dX9_begins_7 : decode cX9_begins 7 = .ok (.putfield 90, 3) := by decide +kernel
theorem dX9_begins_10 : decode cX9_begins 10 = .ok (.aload_n 0, 1) := by decide +kernel
theorem dX9_begins_11 : decode cX9_begins 11 = .ok (.iconst 0, 1) := by decide +kernel
theorem dX9_begins_12 : decode cX9_begins 12 = .ok (.putfield 93, 3) := by decide +kernel
theorem dX9_begins_15 : decode cX9_begins 15 = .ok (.aload_n 0, 1) := by decide +kernel
theorem dX9_begins_16 : decode cX9_begins 16 = .ok (.iconst 0, 1) := by decide +kernel
theorem dX9_begins_17 : decode cX9_begins 17 = .ok (.putfield 97, 3) := by decide +kernel
theorem dX9_begins_20 : decode cX9_begins 20 = .ok (.aload_n 0, 1) := by decide +kernel
theorem dX9_begins_21 : decode cX9_begins 21 = .ok (.iconst 0, 1) := by decide +kernel
theorem dX9_begins_22 : decode cX9_begins 22 = .ok (.putfield 100, 3) := by decide +kernel
theorem dX9_begins_25 : decode cX9_begins 25 = .ok (.aload_n 0, 1) := by decide +kernel
theorem dX9_begins_26 : decode cX9_begins 26 = .ok (.iconst 0, 1) := by decide +kernel
theorem dX9_begins_27 : decode cX9_begins 27 = .ok (.putfield 103, 3) := by decide +kernel
theorem dX9_begins_30 : decode cX9_begins 30 = .ok (.return_, 1) := by decide +kernel
set_option maxRecDepth 20000 in
theorem ggX9_takesTerm_X9_within : GoodIn wsX9_takesTerm wsX9_within := goodIn_r _ [7] (by decide +kernel) (by decide +kernel)
set_option maxRecDepth 20000 in
theorem gX9_takesTerm_X9_within : GoodIn wsX9_takesTerm (va_wsS RX9 77 yX9_within wsX9_within) := goodIn_app (goodIn_of _ (by decide +kernel)) ggX9_takesTerm_X9_within
theorem dX9_takesTerm_0 : decode cX9_takesTerm 0 = .ok (.iload_n 1, 1) := by decide +kernel
theorem dX9_takesTerm_1 : decode cX9_takesTerm 1 = .ok (.bipush 97, 2) := by decide +kernel
theorem dX9_takesTerm_3 : decode cX9_takesTerm 3 = .ok (.bipush 101, 2) := by decide +kernel
theorem dX9_takesTerm_5 : decode cX9_takesTerm 5 = .ok (.invokestatic 77, 3) := by decide +kernel
theorem dX9_takesTerm_8 : decode cX9_takesTerm 8 = .ok (.ifCond .eq 10, 3) := by decide +kernel
theorem dX9_takesTerm_11 : decode cX9_takesTerm 11 = .ok (.aload_n 0, 1) := by decide +kernel
theorem dX9_takesTerm_12 : decode cX9_takesTerm 12 = .ok (.iconst 2, 1) := by decide +kernel
theorem dX9_takesTerm_13 : decode cX9_takesTerm 13 = .ok (.putfield 87, 3) := by decide +kernel
theorem dX9_takesTerm_16 : decode cX9_takesTerm 16 = .ok (.iconst 1, 1) := by decide +kernel
theorem dX9_takesTerm_17 : decode cX9_takesTerm 17 = .ok (.ireturn, 1) := by decide +kernel
theorem dX9_takesTerm_18 : decode cX9_takesTerm 18 = .ok (.iload_n 1, 1) := by decide +kernel
theorem dX9_takesTerm_19 : decode cX9_takesTerm 19 = .ok (.bipush 102, 2) := by decide +kernel
theorem dX9_takesTerm_21 : decode cX9_takesTerm 21 = .ok (.if_icmp .eq 9, 3) := by decide +kernel
theorem dX9_takesTerm_24 : decode cX9_takesTerm 24 = .ok (.iload_n 1, 1) := by decide +kernel
theorem dX9_takesTerm_25 : decode cX9_takesTerm 25 = .ok (.bipush 103, 2) := by decide +kernel
theorem dX9_takesTerm_27 : decode cX9_takesTerm 27 = .ok (.if_icmp .ne 42, 3) := by decide +kernel
theorem dX9_takesTerm_30 : decode cX9_takesTerm 30 = .ok (.aload_n 0, 1) := by decide +kernel
theorem dX9_takesTerm_31 : decode cX9_takesTerm 31 = .ok (.getfield 25, 3) := by decide +kernel
theorem dX9_takesTerm_34 : decode cX9_takesTerm 34 = .ok (.aload_n 0, 1) := by decide +kernel
theorem dX9_takesTerm_35 : decode cX9_takesTerm 35 = .ok (.getfield 90, 3) := by decide +kernel
theorem dX9_takesTerm_38 : decode cX9_takesTerm 38 = .ok (.iload_n 1, 1) := by decide +kernel
theorem dX9_takesTerm_39 : decode cX9_takesTerm 39 = .ok (.bipush 102, 2) := by decide +kernel
theorem dX9_takesTerm_41 : decode cX9_takesTerm 41 = .ok (.if_icmp .ne 8, 3) := by decide +kernel
theorem dX9_takesTerm_44 : decode cX9_takesTerm 44 = .ok (.bipush 41, 2) := by decide +kernel
theorem dX9_takesTerm_46 : decode cX9_takesTerm 46 = .ok (.goto 5, 3) := by decide +kernel
theorem dX9_takesTerm_49 : decode cX9_takesTerm 49 = .ok (.bipush 44, 2) := by decide +kernel
theorem dX9_takesTerm_51 : decode cX9_takesTerm 51 = .ok (.iastore, 1) := by decide +kernel
theorem dX9_takesTerm_52 : decode cX9_takesTerm 52 = .ok (.aload_n 0, 1) := by decide +kernel
theorem dX9_takesTerm_53 : decode cX9_takesTerm 53 = .ok (.dup, 1) := by decide +kernel
theorem dX9_takesTerm_54 : decode cX9_takesTerm 54 = .ok (.getfield 90, 3) := by decide +kernel
theorem dX9_takesTerm_57 : decode cX9_takesTerm 57 = .ok (.iconst 1, 1) := by decide +kernel
theorem dX9_takesTerm_58 : decode cX9_takesTerm 58 = .ok (.iadd, 1) := by decide +kernel
theorem dX9_takesTerm_59 : decode cX9_takesTerm 59 = .ok (.putfield 90, 3) := by decide +kernel
theorem dX9_takesTerm_62 : decode cX9_takesTerm 62 = .ok (.aload_n 0, 1) := by decide +kernel
theorem dX9_takesTerm_63 : decode cX9_takesTerm 63 = .ok (.iconst 1, 1) := by decide +kernel
theorem dX9_takesTerm_64 : decode cX9_takesTerm 64 = .ok (.putfield 87, 3) := by decide +kernel
theorem dX9_takesTerm_67 : decode cX9_takesTerm 67 = .ok (.iconst 1, 1) := by decide +kernel
theorem dX9_takesTerm_68 : decode cX9_takesTerm 68 = .ok (.ireturn, 1) := by decide +kernel
theorem dX9_takesTerm_69 : decode cX9_takesTerm 69 = .ok (.iconst 0, 1) := by decide +kernel
theorem dX9_takesTerm_70 : decode cX9_takesTerm 70 = .ok (.ireturn, 1) := by decide +kernel
theorem dX9_takesSign_0 : decode cX9_takesSign 0 = .ok (.aload_n 0, 1) := by decide +kernel
theorem dX9_takesSign_1 : decode cX9_takesSign 1 = .ok (.getfield 93, 3) := by decide +kernel
theorem dX9_takesSign_4 : decode cX9_takesSign 4 = .ok (.ifCond .ne 25, 3) := by decide +kernel
theorem dX9_takesSign_7 : decode cX9_takesSign 7 = .ok (.iload_n 1, 1) := by decide +kernel
theorem dX9_takesSign_8 : decode cX9_takesSign 8 = .ok (.bipush 61, 2) := by decide +kernel
theorem dX9_takesSign_10 : decode cX9_takesSign 10 = .ok (.if_icmp .eq 15, 3) := by decide +kernel
theorem dX9_takesSign_13 : decode cX9_takesSign 13 = .ok (.iload_n 1, 1) := by decide +kernel
theorem dX9_takesSign_14 : decode cX9_takesSign 14 = .ok (.bipush 35, 2) := by decide +kernel
theorem dX9_takesSign_16 : decode cX9_takesSign 16 = .ok (.if_icmp .eq 9, 3) := by decide +kernel
theorem dX9_takesSign_19 : decode cX9_takesSign 19 = .ok (.iload_n 1, 1) := by decide +kernel
theorem dX9_takesSign_20 : decode cX9_takesSign 20 = .ok (.bipush 60, 2) := by decide +kernel
theorem dX9_takesSign_22 : decode cX9_takesSign 22 = .ok (.if_icmp .ne 7, 3) := by decide +kernel
theorem dX9_takesSign_25 : decode cX9_takesSign 25 = .ok (.iconst 1, 1) := by decide +kernel
theorem dX9_takesSign_26 : decode cX9_takesSign 26 = .ok (.goto 4, 3) := by decide +kernel
theorem dX9_takesSign_29 : decode cX9_takesSign 29 = .ok (.iconst 0, 1) := by decide +kernel
theorem dX9_takesSign_30 : decode cX9_takesSign 30 = .ok (.istore_n 2, 1) := by decide +kernel
theorem dX9_takesSign_31 : decode cX9_takesSign 31 = .ok (.iload_n 2, 1) := by decide +kernel
theorem dX9_takesSign_32 : decode cX9_takesSign 32 = .ok (.ifCond .eq 18, 3) := by decide +kernel
theorem dX9_takesSign_35 : decode cX9_takesSign 35 = .ok (.aload_n 0, 1) := by decide +kernel
theorem dX9_takesSign_36 : decode cX9_takesSign 36 = .ok (.iload_n 1, 1) := by decide +kernel
theorem dX9_takesSign_37 : decode cX9_takesSign 37 = .ok (.putfield 97, 3) := by decide +kernel
theorem dX9_takesSign_40 : decode cX9_takesSign 40 = .ok (.aload_n 0, 1) := by decide +kernel
theorem dX9_takesSign_41 : decode cX9_takesSign 41 = .ok (.iconst 1, 1) := by decide +kernel
theorem dX9_takesSign_42 : decode cX9_takesSign 42 = .ok (.putfield 93, 3) := by decide +kernel
theorem dX9_takesSign_45 : decode cX9_takesSign 45 = .ok (.aload_n 0, 1) := by decide +kernel
theorem dX9_takesSign_46 : decode cX9_takesSign 46 = .ok (.iconst 0, 1) := by decide +kernel
theorem dX9_takesSign_47 : decode cX9_takesSign 47 = .ok (.putfield 87, 3) := by decide +kernel
theorem dX9_takesSign_50 : decode cX9_takesSign 50 = .ok (.iload_n 2, 1) := by decide +kernel
theorem dX9_takesSign_51 : decode cX9_takesSign 51 = .ok (.ireturn, 1) := by decide +kernel
set_option maxRecDepth 20000 in
theorem ggX9_takesBehind_X9_takesSign : GoodIn wsX9_takesBehind wsX9_takesSign := goodIn_r _ [11, 4, 5, 3, 12, 13, 14, 15, 16, 17, 18, 19, 20, 21, 22, 23, 24, 25, 26, 27, 28, 29, 30, 31, 32, 33, 34, 35, 36, 37, 38, 39, 40, 41, 42, 43, 44, 45, 46, 47, 48, 49, 50, 51, 52, 53, 54, 55, 56, 57, 58, 59] (by decide +kernel) (by decide +kernel)
set_option maxRecDepth 20000 in
theorem gX9_takesBehind_X9_takesSign : GoodIn wsX9_takesBehind (wsV RX9 106 RX9 yX9_takesSign wsX9_takesSign) := goodIn_app (goodIn_of _ (by decide +kernel)) ggX9_takesBehind_X9_takesSign
theorem dX9_takesBehind_0 : decode cX9_takesBehind 0 = .ok (.aload_n 0, 1) := by decide +kernel
theorem dX9_takesBehind_1 : decode cX9_takesBehind 1 = .ok (.getfield 90, 3) := by decide +kernel
theorem dX9_takesBehind_4 : decode cX9_takesBehind 4 = .ok (.ifCond .le 59, 3) := by decide +kernel
theorem dX9_takesBehind_7 : decode cX9_takesBehind 7 = .ok (.iload_n 1, 1) := by decide +kernel
theorem dX9_takesBehind_8 : decode cX9_takesBehind 8 = .ok (.aload_n 0, 1) := by decide +kernel
theorem dX9_takesBehind_9 : decode cX9_takesBehind 9 = .ok (.getfield 25, 3) := by decide +kernel
theorem dX9_takesBehind_12 : decode cX9_takesBehind 12 = .ok (.aload_n 0, 1) := by decide +kernel
theorem dX9_takesBehind_13 : decode cX9_takesBehind 13 = .ok (.getfield 90, 3) := by decide +kernel
theorem dX9_takesBehind_16 : decode cX9_takesBehind 16 = .ok (.iconst 1, 1) := by decide +kernel
theorem dX9_takesBehind_17 : decode cX9_takesBehind 17 = .ok (.isub, 1) := by decide +kernel
theorem dX9_takesBehind_18 : decode cX9_takesBehind 18 = .ok (.iaload, 1) := by decide +kernel
theorem dX9_takesBehind_19 : decode cX9_takesBehind 19 = .ok (.if_icmp .eq 5, 3) := by decide +kernel
theorem dX9_takesBehind_22 : decode cX9_takesBehind 22 = .ok (.iconst 0, 1) := by decide +kernel
theorem dX9_takesBehind_23 : decode cX9_takesBehind 23 = .ok (.ireturn, 1) := by decide +kernel
theorem dX9_takesBehind_24 : decode cX9_takesBehind 24 = .ok (.iload_n 1, 1) := by decide +kernel
theorem dX9_takesBehind_25 : decode cX9_takesBehind 25 = .ok (.bipush 44, 2) := by decide +kernel
theorem dX9_takesBehind_27 : decode cX9_takesBehind 27 = .ok (.if_icmp .ne 24, 3) := by decide +kernel
theorem dX9_takesBehind_30 : decode cX9_takesBehind 30 = .ok (.aload_n 0, 1) := by decide +kernel
theorem dX9_takesBehind_31 : decode cX9_takesBehind 31 = .ok (.getfield 25, 3) := by decide +kernel
theorem dX9_takesBehind_34 : decode cX9_takesBehind 34 = .ok (.aload_n 0, 1) := by decide +kernel
theorem dX9_takesBehind_35 : decode cX9_takesBehind 35 = .ok (.getfield 90, 3) := by decide +kernel
theorem dX9_takesBehind_38 : decode cX9_takesBehind 38 = .ok (.iconst 1, 1) := by decide +kernel
theorem dX9_takesBehind_39 : decode cX9_takesBehind 39 = .ok (.isub, 1) := by decide +kernel
theorem dX9_takesBehind_40 : decode cX9_takesBehind 40 = .ok (.bipush 41, 2) := by decide +kernel
theorem dX9_takesBehind_42 : decode cX9_takesBehind 42 = .ok (.iastore, 1) := by decide +kernel
theorem dX9_takesBehind_43 : decode cX9_takesBehind 43 = .ok (.aload_n 0, 1) := by decide +kernel
theorem dX9_takesBehind_44 : decode cX9_takesBehind 44 = .ok (.iconst 0, 1) := by decide +kernel
theorem dX9_takesBehind_45 : decode cX9_takesBehind 45 = .ok (.putfield 87, 3) := by decide +kernel
theorem dX9_takesBehind_48 : decode cX9_takesBehind 48 = .ok (.goto 13, 3) := by decide +kernel
theorem dX9_takesBehind_51 : decode cX9_takesBehind 51 = .ok (.aload_n 0, 1) := by decide +kernel
theorem dX9_takesBehind_52 : decode cX9_takesBehind 52 = .ok (.dup, 1) := by decide +kernel
theorem dX9_takesBehind_53 : decode cX9_takesBehind 53 = .ok (.getfield 90, 3) := by decide +kernel
theorem dX9_takesBehind_56 : decode cX9_takesBehind 56 = .ok (.iconst 1, 1) := by decide +kernel
theorem dX9_takesBehind_57 : decode cX9_takesBehind 57 = .ok (.isub, 1) := by decide +kernel
theorem dX9_takesBehind_58 : decode cX9_takesBehind 58 = .ok (.putfield 90, 3) := by decide +kernel
theorem dX9_takesBehind_61 : decode cX9_takesBehind 61 = .ok (.iconst 1, 1) := by decide +kernel
theorem dX9_takesBehind_62 : decode cX9_takesBehind 62 = .ok (.ireturn, 1) := by decide +kernel
theorem dX9_takesBehind_63 : decode cX9_takesBehind 63 = .ok (.aload_n 0, 1) := by decide +kernel
theorem dX9_takesBehind_64 : decode cX9_takesBehind 64 = .ok (.getfield 93, 3) := by decide +kernel
theorem dX9_takesBehind_67 : decode cX9_takesBehind 67 = .ok (.ifCond .eq 46, 3) := by decide +kernel
theorem dX9_takesBehind_70 : decode cX9_takesBehind 70 = .ok (.aload_n 0, 1) := by decide +kernel
theorem dX9_takesBehind_71 : decode cX9_takesBehind 71 = .ok (.getfield 97, 3) := by decide +kernel
theorem dX9_takesBehind_74 : decode cX9_takesBehind 74 = .ok (.bipush 60, 2) := by decide +kernel
theorem dX9_takesBehind_76 : decode cX9_takesBehind 76 = .ok (.if_icmp .ne 37, 3) := by decide +kernel
theorem dX9_takesBehind_79 : decode cX9_takesBehind 79 = .ok (.iload_n 1, 1) := by decide +kernel
theorem dX9_takesBehind_80 : decode cX9_takesBehind 80 = .ok (.bipush 43, 2) := by decide +kernel
theorem dX9_takesBehind_82 : decode cX9_takesBehind 82 = .ok (.if_icmp .eq 9, 3) := by decide +kernel
theorem dX9_takesBehind_85 : decode cX9_takesBehind 85 = .ok (.iload_n 1, 1) := by decide +kernel
theorem dX9_takesBehind_86 : decode cX9_takesBehind 86 = .ok (.bipush 45, 2) := by decide +kernel
theorem dX9_takesBehind_88 : decode cX9_takesBehind 88 = .ok (.if_icmp .ne 25, 3) := by decide +kernel
theorem dX9_takesBehind_91 : decode cX9_takesBehind 91 = .ok (.aload_n 0, 1) := by decide +kernel
theorem dX9_takesBehind_92 : decode cX9_takesBehind 92 = .ok (.iload_n 1, 1) := by decide +kernel
theorem dX9_takesBehind_93 : decode cX9_takesBehind 93 = .ok (.bipush 45, 2) := by decide +kernel
theorem dX9_takesBehind_95 : decode cX9_takesBehind 95 = .ok (.if_icmp .ne 7, 3) := by decide +kernel
theorem dX9_takesBehind_98 : decode cX9_takesBehind 98 = .ok (.iconst 1, 1) := by decide +kernel
theorem dX9_takesBehind_99 : decode cX9_takesBehind 99 = .ok (.goto 4, 3) := by decide +kernel
theorem dX9_takesBehind_102 : decode cX9_takesBehind 102 = .ok (.iconst 0, 1) := by decide +kernel
theorem dX9_takesBehind_103 : decode cX9_takesBehind 103 = .ok (.putfield 103, 3) := by decide +kernel
theorem dX9_takesBehind_106 : decode cX9_takesBehind 106 = .ok (.aload_n 0, 1) := by decide +kernel
theorem dX9_takesBehind_107 : decode cX9_takesBehind 107 = .ok (.iconst 3, 1) := by decide +kernel
theorem dX9_takesBehind_108 : decode cX9_takesBehind 108 = .ok (.putfield 87, 3) := by decide +kernel
theorem dX9_takesBehind_111 : decode cX9_takesBehind 111 = .ok (.iconst 1, 1) := by decide +kernel
theorem dX9_takesBehind_112 : decode cX9_takesBehind 112 = .ok (.ireturn, 1) := by decide +kernel
theorem dX9_takesBehind_113 : decode cX9_takesBehind 113 = .ok (.aload_n 0, 1) := by decide +kernel
theorem dX9_takesBehind_114 : decode cX9_takesBehind 114 = .ok (.iload_n 1, 1) := by decide +kernel
theorem dX9_takesBehind_115 : decode cX9_takesBehind 115 = .ok (.invokevirtual 106, 3) := by decide +kernel
theorem dX9_takesBehind_118 : decode cX9_takesBehind 118 = .ok (.ireturn, 1) := by decide +kernel
set_option maxRecDepth 20000 in
theorem ggX9_takesFigure_X9_within : GoodIn wsX9_takesFigure wsX9_within := goodIn_r _ [6] (by decide +kernel) (by decide +kernel)
set_option maxRecDepth 20000 in
theorem gX9_takesFigure_X9_within : GoodIn wsX9_takesFigure (va_wsS RX9 77 yX9_within wsX9_within) := goodIn_app (goodIn_of _ (by decide +kernel)) ggX9_takesFigure_X9_within
theorem dX9_takesFigure_0 : decode cX9_takesFigure 0 = .ok (.iload_n 1, 1) := by decide +kernel
theorem dX9_takesFigure_1 : decode cX9_takesFigure 1 = .ok (.bipush 48, 2) := by decide +kernel
theorem dX9_takesFigure_3 : decode cX9_takesFigure 3 = .ok (.bipush 57, 2) := by decide +kernel
theorem dX9_takesFigure_5 : decode cX9_takesFigure 5 = .ok (.invokestatic 77, 3) := by decide +kernel
theorem dX9_takesFigure_8 : decode cX9_takesFigure 8 = .ok (.ifCond .eq 37, 3) := by decide +kernel
theorem dX9_takesFigure_11 : decode cX9_takesFigure 11 = .ok (.aload_n 0, 1) := by decide +kernel
theorem dX9_takesFigure_12 : decode cX9_takesFigure 12 = .ok (.getfield 100, 3) := by decide +kernel
theorem dX9_takesFigure_15 : decode cX9_takesFigure 15 = .ok (.ifCond .gt 9, 3) := by decide +kernel
theorem dX9_takesFigure_18 : decode cX9_takesFigure 18 = .ok (.iload_n 1, 1) := by decide +kernel
theorem dX9_takesFigure_19 : decode cX9_takesFigure 19 = .ok (.bipush 48, 2) := by decide +kernel
theorem dX9_takesFigure_21 : decode cX9_takesFigure 21 = .ok (.if_icmp .le 24, 3) := by decide +kernel
theorem dX9_takesFigure_24 : decode cX9_takesFigure 24 = .ok (.bipush 10, 2) := by decide +kernel
theorem dX9_takesFigure_26 : decode cX9_takesFigure 26 = .ok (.aload_n 0, 1) := by decide +kernel
theorem dX9_takesFigure_27 : decode cX9_takesFigure 27 = .ok (.getfield 100, 3) := by decide +kernel
theorem dX9_takesFigure_30 : decode cX9_takesFigure 30 = .ok (.imul, 1) := by decide +kernel
theorem dX9_takesFigure_31 : decode cX9_takesFigure 31 = .ok (.iload_n 1, 1) := by decide +kernel
theorem dX9_takesFigure_32 : decode cX9_takesFigure 32 = .ok (.iadd, 1) := by decide +kernel
theorem dX9_takesFigure_33 : decode cX9_takesFigure 33 = .ok (.bipush 48, 2) := by decide +kernel
theorem dX9_takesFigure_35 : decode cX9_takesFigure 35 = .ok (.isub, 1) := by decide +kernel
theorem dX9_takesFigure_36 : decode cX9_takesFigure 36 = .ok (.ldc 110, 2) := by decide +kernel
theorem dX9_takesFigure_38 : decode cX9_takesFigure 38 = .ok (.if_icmp .ge 7, 3) := by decide +kernel
theorem dX9_takesFigure_41 : decode cX9_takesFigure 41 = .ok (.iconst 1, 1) := by decide +kernel
theorem dX9_takesFigure_42 : decode cX9_takesFigure 42 = .ok (.goto 4, 3) := by decide +kernel
theorem dX9_takesFigure_45 : decode cX9_takesFigure 45 = .ok (.iconst 0, 1) := by decide +kernel
theorem dX9_takesFigure_46 : decode cX9_takesFigure 46 = .ok (.istore_n 2, 1) := by decide +kernel
theorem dX9_takesFigure_47 : decode cX9_takesFigure 47 = .ok (.aload_n 0, 1) := by decide +kernel
theorem dX9_takesFigure_48 : decode cX9_takesFigure 48 = .ok (.iload_n 2, 1) := by decide +kernel
theorem dX9_takesFigure_49 : decode cX9_takesFigure 49 = .ok (.ifCond .eq 18, 3) := by decide +kernel
theorem dX9_takesFigure_52 : decode cX9_takesFigure 52 = .ok (.bipush 10, 2) := by decide +kernel
theorem dX9_takesFigure_54 : decode cX9_takesFigure 54 = .ok (.aload_n 0, 1) := by decide +kernel
theorem dX9_takesFigure_55 : decode cX9_takesFigure 55 = .ok (.getfield 100, 3) := by decide +kernel
theorem dX9_takesFigure_58 : decode cX9_takesFigure 58 = .ok (.imul, 1) := by decide +kernel
theorem dX9_takesFigure_59 : decode cX9_takesFigure 59 = .ok (.iload_n 1, 1) := by decide +kernel
theorem dX9_takesFigure_60 : decode cX9_takesFigure 60 = .ok (.iadd, 1) := by decide +kernel
theorem dX9_takesFigure_61 : decode cX9_takesFigure 61 = .ok (.bipush 48, 2) := by decide +kernel
theorem dX9_takesFigure_63 : decode cX9_takesFigure 63 = .ok (.isub, 1) := by decide +kernel
theorem dX9_takesFigure_64 : decode cX9_takesFigure 64 = .ok (.goto 7, 3) := by decide +kernel
theorem dX9_takesFigure_67 : decode cX9_takesFigure 67 = .ok (.aload_n 0, 1) := by decide +kernel
theorem dX9_takesFigure_68 : decode cX9_takesFigure 68 = .ok (.getfield 100, 3) := by decide +kernel
theorem dX9_takesFigure_71 : decode cX9_takesFigure 71 = .ok (.putfield 100, 3) := by decide +kernel
theorem dX9_takesFigure_74 : decode cX9_takesFigure 74 = .ok (.iload_n 2, 1) := by decide +kernel
theorem dX9_takesFigure_75 : decode cX9_takesFigure 75 = .ok (.ireturn, 1) := by decide +kernel
set_option maxRecDepth 20000 in
theorem ggX9_takes_X9_takesTerm : GoodIn wsX9_takes wsX9_takesTerm := goodIn_r _ [6, 1, 7, 8, 9, 10, 5, 11, 29, 30, 31, 32, 33, 34, 35, 36, 37, 38, 39, 40, 41, 42, 43, 44, 45, 46, 47, 48, 49, 50, 51, 52, 53, 54, 55, 56, 57, 58, 59, 60, 61, 62, 63, 64, 65, 66, 67, 68, 69, 70, 71, 72, 73, 74, 75, 76] (by decide +kernel) (by decide +kernel)
set_option maxRecDepth 20000 in
theorem gX9_takes_X9_takesTerm : GoodIn wsX9_takes (wsV RX9 111 RX9 yX9_takesTerm wsX9_takesTerm) := goodIn_app (goodIn_of _ (by decide +kernel)) ggX9_takes_X9_takesTerm
set_option maxRecDepth 20000 in
theorem ggX9_takes_X9_takesBehind : GoodIn wsX9_takes wsX9_takesBehind := goodIn_r _ [15, 8, 7, 1, 16, 17, 18, 19, 20, 21, 5, 22, 29, 30, 31, 32, 33, 34, 35, 36, 37, 38, 39, 40, 41, 42, 43, 44, 45, 46, 47, 48, 49, 50, 51, 52, 53, 54, 55, 56, 57, 58, 59, 60, 61, 62, 63, 64, 65, 66, 67, 68, 69, 70, 71, 72, 73, 74, 75, 76] (by decide +kernel) (by decide +kernel)
set_option maxRecDepth 20000 in
theorem gX9_takes_X9_takesBehind : GoodIn wsX9_takes (wsV RX9 114 RX9 yX9_takesBehind wsX9_takesBehind) := goodIn_app (goodIn_of _ (by decide +kernel)) ggX9_takes_X9_takesBehind
set_option maxRecDepth 20000 in
theorem ggX9_takes_X9_takesFigure : GoodIn wsX9_takes wsX9_takesFigure := goodIn_r _ [26, 27, 28, 9, 10, 5, 11, 29, 30, 31, 32, 33, 34, 35, 36, 37, 38, 39, 40, 41, 42, 43, 44, 45, 46, 47, 48, 49, 50, 51, 52, 53, 54, 55, 56, 57, 58, 59, 60, 61, 62, 63, 64, 65, 66, 67, 68, 69, 70, 71, 72, 73, 74, 75, 76] (by decide +kernel) (by decide +kernel)
set_option maxRecDepth 20000 in
theorem gX9_takes_X9_takesFigure : GoodIn wsX9_takes (wsV RX9 117 RX9 yX9_takesFigure wsX9_takesFigure) := goodIn_app (goodIn_of _ (by decide +kernel)) ggX9_takes_X9_takesFigure
theorem dX9_takes_0 : decode cX9_takes 0 = .ok (.aload_n 0, 1) := by decide +kernel
theorem dX9_takes_1 : decode cX9_takes 1 = .ok (.getfield 87, 3) := by decide +kernel
theorem dX9_takes_4 : decode cX9_takes 4 = .ok (.ifCond .ne 9, 3) := by decide +kernel
theorem dX9_takes_7 : decode cX9_takes 7 = .ok (.aload_n 0, 1) := by decide +kernel
theorem dX9_takes_8 : decode cX9_takes 8 = .ok (.iload_n 1, 1) := by decide +kernel
theorem dX9_takes_9 : decode cX9_takes 9 = .ok (.invokevirtual 111, 3) := by decide +kernel
theorem dX9_takes_12 : decode cX9_takes 12 = .ok (.ireturn, 1) := by decide +kernel
theorem dX9_takes_13 : decode cX9_takes 13 = .ok (.aload_n 0, 1) := by decide +kernel
theorem dX9_takes_14 : decode cX9_takes 14 = .ok (.getfield 87, 3) := by decide +kernel
theorem dX9_takes_17 : decode cX9_takes 17 = .ok (.iconst 1, 1) := by decide +kernel
theorem dX9_takes_18 : decode cX9_takes 18 = .ok (.if_icmp .ne 33, 3) := by decide +kernel
theorem dX9_takes_21 : decode cX9_takes 21 = .ok (.aload_n 0, 1) := by decide +kernel
theorem dX9_takes_22 : decode cX9_takes 22 = .ok (.iload_n 1, 1) := by decide +kernel
theorem dX9_takes_23 : decode cX9_takes 23 = .ok (.bipush 40, 2) := by decide +kernel
theorem dX9_takes_25 : decode cX9_takes 25 = .ok (.if_icmp .ne 7, 3) := by decide +kernel
theorem dX9_takes_28 : decode cX9_takes 28 = .ok (.iconst 0, 1) := by decide +kernel
theorem dX9_takes_29 : decode cX9_takes 29 = .ok (.goto 7, 3) := by decide +kernel
theorem dX9_takes_32 : decode cX9_takes 32 = .ok (.aload_n 0, 1) := by decide +kernel
theorem dX9_takes_33 : decode cX9_takes 33 = .ok (.getfield 87, 3) := by decide +kernel
theorem dX9_takes_36 : decode cX9_takes 36 = .ok (.putfield 87, 3) := by decide +kernel
theorem dX9_takes_39 : decode cX9_takes 39 = .ok (.iload_n 1, 1) := by decide +kernel
theorem dX9_takes_40 : decode cX9_takes 40 = .ok (.bipush 40, 2) := by decide +kernel
theorem dX9_takes_42 : decode cX9_takes 42 = .ok (.if_icmp .ne 7, 3) := by decide +kernel
theorem dX9_takes_45 : decode cX9_takes 45 = .ok (.iconst 1, 1) := by decide +kernel
theorem dX9_takes_46 : decode cX9_takes 46 = .ok (.goto 4, 3) := by decide +kernel
theorem dX9_takes_49 : decode cX9_takes 49 = .ok (.iconst 0, 1) := by decide +kernel
theorem dX9_takes_50 : decode cX9_takes 50 = .ok (.ireturn, 1) := by decide +kernel
theorem dX9_takes_51 : decode cX9_takes 51 = .ok (.aload_n 0, 1) := by decide +kernel
theorem dX9_takes_52 : decode cX9_takes 52 = .ok (.getfield 87, 3) := by decide +kernel
theorem dX9_takes_55 : decode cX9_takes 55 = .ok (.iconst 2, 1) := by decide +kernel
theorem dX9_takes_56 : decode cX9_takes 56 = .ok (.if_icmp .ne 11, 3) := by decide +kernel
theorem dX9_takes_59 : decode cX9_takes 59 = .ok (.aload_n 0, 1) := by decide +kernel
theorem dX9_takes_60 : decode cX9_takes 60 = .ok (.iload_n 1, 1) := by decide +kernel
theorem dX9_takes_61 : decode cX9_takes 61 = .ok (.invokevirtual 114, 3) := by decide +kernel
theorem dX9_takes_64 : decode cX9_takes 64 = .ok (.goto 8, 3) := by decide +kernel
theorem dX9_takes_67 : decode cX9_takes 67 = .ok (.aload_n 0, 1) := by decide +kernel
theorem dX9_takes_68 : decode cX9_takes 68 = .ok (.iload_n 1, 1) := by decide +kernel
theorem dX9_takes_69 : decode cX9_takes 69 = .ok (.invokevirtual 117, 3) := by decide +kernel
theorem dX9_takes_72 : decode cX9_takes 72 = .ok (.ireturn, 1) := by decide +kernel
set_option maxRecDepth 20000 in
theorem ggX9_goAlong_X9_begins : GoodIn wsX9_goAlong wsX9_begins := goodIn_r _ [9, 4, 10, 11, 12, 13, 14, 40, 41, 42, 43, 44, 45, 46, 47, 48, 49, 50, 51, 52, 53, 54, 55, 56, 57, 58, 59, 60, 61, 62, 63, 64, 65, 66, 67, 68, 69, 70, 71, 72, 73, 74, 75, 76, 77, 78, 79, 80, 81, 82, 83, 84, 85, 86, 87] (by decide +kernel) (by decide +kernel)
set_option maxRecDepth 20000 in
theorem gX9_goAlong_X9_begins : GoodIn wsX9_goAlong (wsV RX9 120 RX9 yX9_begins wsX9_begins) := goodIn_app (goodIn_of _ (by decide +kernel)) ggX9_goAlong_X9_begins
set_option maxRecDepth 20000 in
theorem ggX9_goAlong_X9_takes : GoodIn wsX9_goAlong wsX9_takes := goodIn_r _ [18, 4, 19, 20, 21, 8, 22, 23, 10, 24, 25, 26, 27, 28, 29, 30, 11, 12, 14, 31, 32, 33, 34, 35, 36, 37, 38, 13, 39, 40, 41, 42, 43, 44, 45, 46, 47, 48, 49, 50, 51, 52, 53, 54, 55, 56, 57, 58, 59, 60, 61, 62, 63, 64, 65, 66, 67, 68, 69, 70, 71, 72, 73, 74, 75, 76, 77, 78, 79, 80, 81, 82, 83, 84, 85, 86, 87] (by decide +kernel) (by decide +kernel)
set_option maxRecDepth 20000 in
theorem gX9_goAlong_X9_takes : GoodIn wsX9_goAlong (wsV RX9 126 RX9 yX9_takes wsX9_takes) := goodIn_app (goodIn_of _ (by decide +kernel)) ggX9_goAlong_X9_takes
theorem dX9_goAlong_0 : decode cX9_goAlong 0 = .ok (.aload_n 0, 1) := by decide +kernel
theorem dX9_goAlong_1 : decode cX9_goAlong 1 = .ok (.invokevirtual 120, 3) := by decide +kernel
theorem dX9_goAlong_4 : decode cX9_goAlong 4 = .ok (.iconst 0, 1) := by decide +kernel
theorem dX9_goAlong_5 : decode cX9_goAlong 5 = .ok (.istore_n 1, 1) := by decide +kernel
theorem dX9_goAlong_6 : decode cX9_goAlong 6 = .ok (.aload_n 0, 1) := by decide +kernel
theorem dX9_goAlong_7 : decode cX9_goAlong 7 = .ok (.iconst 0, 1) := by decide +kernel
theorem dX9_goAlong_8 : decode cX9_goAlong 8 = .ok (.putfield 123, 3) := by decide +kernel
theorem dX9_goAlong_11 : decode cX9_goAlong 11 = .ok (.iload_n 1, 1) := by decide +kernel
theorem dX9_goAlong_12 : decode cX9_goAlong 12 = .ok (.aload_n 0, 1) := by decide +kernel
theorem dX9_goAlong_13 : decode cX9_goAlong 13 = .ok (.getfield 82, 3) := by decide +kernel
theorem dX9_goAlong_16 : decode cX9_goAlong 16 = .ok (.if_icmp .ge 42, 3) := by decide +kernel
theorem dX9_goAlong_19 : decode cX9_goAlong 19 = .ok (.aload_n 0, 1) := by decide +kernel
theorem dX9_goAlong_20 : decode cX9_goAlong 20 = .ok (.aload_n 0, 1) := by decide +kernel
theorem dX9_goAlong_21 : decode cX9_goAlong 21 = .ok (.getfield 7, 3) := by decide +kernel
theorem dX9_goAlong_24 : decode cX9_goAlong 24 = .ok (.iload_n 1, 1) := by decide +kernel
theorem dX9_goAlong_25 : decode cX9_goAlong 25 = .ok (.iaload, 1) := by decide +kernel
theorem dX9_goAlong_26 : decode cX9_goAlong 26 = .ok (.invokevirtual 126, 3) := by decide +kernel
theorem dX9_goAlong_29 : decode cX9_goAlong 29 = .ok (.ifCond .eq 29, 3) := by decide +kernel
theorem dX9_goAlong_32 : decode cX9_goAlong 32 = .ok (.iinc 1 1, 3) := by decide +kernel
theorem dX9_goAlong_35 : decode cX9_goAlong 35 = .ok (.aload_n 0, 1) := by decide +kernel
theorem dX9_goAlong_36 : decode cX9_goAlong 36 = .ok (.aload_n 0, 1) := by decide +kernel
theorem dX9_goAlong_37 : decode cX9_goAlong 37 = .ok (.getfield 87, 3) := by decide +kernel
theorem dX9_goAlong_40 : decode cX9_goAlong 40 = .ok (.iconst 3, 1) := by decide +kernel
theorem dX9_goAlong_41 : decode cX9_goAlong 41 = .ok (.if_icmp .ne 10, 3) := by decide +kernel
theorem dX9_goAlong_44 : decode cX9_goAlong 44 = .ok (.aload_n 0, 1) := by decide +kernel
theorem dX9_goAlong_45 : decode cX9_goAlong 45 = .ok (.getfield 123, 3) := by decide +kernel
theorem dX9_goAlong_48 : decode cX9_goAlong 48 = .ok (.goto 4, 3) := by decide +kernel
theorem dX9_goAlong_51 : decode cX9_goAlong 51 = .ok (.iload_n 1, 1) := by decide +kernel
theorem dX9_goAlong_52 : decode cX9_goAlong 52 = .ok (.putfield 123, 3) := by decide +kernel
theorem dX9_goAlong_55 : decode cX9_goAlong 55 = .ok (.goto (-44), 3) := by decide +kernel
theorem dX9_goAlong_58 : decode cX9_goAlong 58 = .ok (.iload_n 1, 1) := by decide +kernel
theorem dX9_goAlong_59 : decode cX9_goAlong 59 = .ok (.ireturn, 1) := by decide +kernel
set_option maxRecDepth 20000 in
theorem ggX9_fault_X9_goAlong : GoodIn wsX9_fault wsX9_goAlong := goodIn_r _ [5, 6, 7, 8, 9, 10, 11, 12, 4, 13, 14, 15, 16, 17, 18, 19, 20, 21, 22, 23, 24, 25, 26, 27, 28, 29, 30, 31, 32, 33, 34, 35, 36, 37, 38, 39, 40, 41, 42, 43, 44, 45, 46, 47, 48, 49, 50, 51, 52, 53, 54, 55, 56, 57, 58, 59, 60, 61, 62, 63, 64, 65, 66, 67, 68, 69, 70, 71, 72, 73, 74, 75, 76, 77, 78, 79, 80, 81, 82, 83, 84, 85, 86, 87, 88, 89, 90, 91] (by decide +kernel) (by decide +kernel)
set_option maxRecDepth 20000 in
theorem gX9_fault_X9_goAlong : GoodIn wsX9_fault (wsV RX9 129 RX9 yX9_goAlong wsX9_goAlong) := goodIn_app (goodIn_of _ (by decide +kernel)) ggX9_fault_X9_goAlong
theorem dX9_fault_0 : decode cX9_fault 0 = .ok (.aload_n 0, 1) := by decide +kernel
theorem dX9_fault_1 : decode cX9_fault 1 = .ok (.invokevirtual 129, 3) := by decide +kernel
theorem dX9_fault_4 : decode cX9_fault 4 = .ok (.ireturn, 1) := by decide +kernel
theorem dX9_isWhole_0 : decode cX9_isWhole 0 = .ok (.aload_n 0, 1) := by decide +kernel
theorem dX9_isWhole_1 : decode cX9_isWhole 1 = .ok (.getfield 93, 3) := by decide +kernel
theorem dX9_isWhole_4 : decode cX9_isWhole 4 = .ok (.ifCond .eq 37, 3) := by decide +kernel
theorem dX9_isWhole_7 : decode cX9_isWhole 7 = .ok (.aload_n 0, 1) := by decide +kernel
theorem dX9_isWhole_8 : decode cX9_isWhole 8 = .ok (.getfield 90, 3) := by decide +kernel
theorem dX9_isWhole_11 : decode cX9_isWhole 11 = .ok (.ifCond .ne 30, 3) := by decide +kernel
theorem dX9_isWhole_14 : decode cX9_isWhole 14 = .ok (.aload_n 0, 1) := by decide +kernel
theorem dX9_isWhole_15 : decode cX9_isWhole 15 = .ok (.getfield 87, 3) := by decide +kernel
theorem dX9_isWhole_18 : decode cX9_isWhole 18 = .ok (.iconst 2, 1) := by decide +kernel
theorem dX9_isWhole_19 : decode cX9_isWhole 19 = .ok (.if_icmp .eq 18, 3) := by decide +kernel
theorem dX9_isWhole_22 : decode cX9_isWhole 22 = .ok (.aload_n 0, 1) := by decide +kernel
theorem dX9_isWhole_23 : decode cX9_isWhole 23 = .ok (.getfield 87, 3) := by decide +kernel
theorem dX9_isWhole_26 : decode cX9_isWhole 26 = .ok (.iconst 3, 1) := by decide +kernel
theorem dX9_isWhole_27 : decode cX9_isWhole 27 = .ok (.if_icmp .ne 14, 3) := by decide +kernel
theorem dX9_isWhole_30 : decode cX9_isWhole 30 = .ok (.aload_n 0, 1) := by decide +kernel
theorem dX9_isWhole_31 : decode cX9_isWhole 31 = .ok (.getfield 100, 3) := by decide +kernel
theorem dX9_isWhole_34 : decode cX9_isWhole 34 = .ok (.ifCond .le 7, 3) := by decide +kernel
theorem dX9_isWhole_37 : decode cX9_isWhole 37 = .ok (.iconst 1, 1) := by decide +kernel
theorem dX9_isWhole_38 : decode cX9_isWhole 38 = .ok (.goto 4, 3) := by decide +kernel
theorem dX9_isWhole_41 : decode cX9_isWhole 41 = .ok (.iconst 0, 1) := by decide +kernel
theorem dX9_isWhole_42 : decode cX9_isWhole 42 = .ok (.ireturn, 1) := by decide +kernel
theorem dX9_termOf_0 : decode cX9_termOf 0 = .ok (.iconst 5, 1) := by decide +kernel
theorem dX9_termOf_1 : decode cX9_termOf 1 = .ok (.istore 4, 2) := by decide +kernel
theorem dX9_termOf_3 : decode cX9_termOf 3 = .ok (.iload 4, 2) := by decide +kernel
theorem dX9_termOf_5 : decode cX9_termOf 5 = .ok (.aload_n 0, 1) := by decide +kernel
theorem dX9_termOf_6 : decode cX9_termOf 6 = .ok (.getfield 133, 3) := by decide +kernel
theorem dX9_termOf_9 : decode cX9_termOf 9 = .ok (.if_icmp .ge 45, 3) := by decide +kernel
theorem dX9_termOf_12 : decode cX9_termOf 12 = .ok (.aload_n 0, 1) := by decide +kernel
theorem dX9_termOf_13 : decode cX9_termOf 13 = .ok (.getfield 28, 3) := by decide +kernel
theorem dX9_termOf_16 : decode cX9_termOf 16 = .ok (.iload 4, 2) := by decide +kernel
theorem dX9_termOf_18 : decode cX9_termOf 18 = .ok (.iaload, 1) := by decide +kernel
theorem dX9_termOf_19 : decode cX9_termOf 19 = .ok (.iload_n 1, 1) := by decide +kernel
theorem dX9_termOf_20 : decode cX9_termOf 20 = .ok (.if_icmp .ne 28, 3) := by decide +kernel
theorem dX9_termOf_23 : decode cX9_termOf 23 = .ok (.aload_n 0, 1) := by decide +kernel
theorem dX9_termOf_24 : decode cX9_termOf 24 = .ok (.getfield 31, 3) := by decide +kernel
theorem dX9_termOf_27 : decode cX9_termOf 27 = .ok (.iload 4, 2) := by decide +kernel
theorem dX9_termOf_29 : decode cX9_termOf 29 = .ok (.iaload, 1) := by decide +kernel
theorem dX9_termOf_30 : decode cX9_termOf 30 = .ok (.iload_n 2, 1) := by decide +kernel
theorem dX9_termOf_31 : decode cX9_termOf 31 = .ok (.if_icmp .ne 17, 3) := by decide +kernel
theorem dX9_termOf_34 : decode cX9_termOf 34 = .ok (.aload_n 0, 1) := by decide +kernel
theorem dX9_termOf_35 : decode cX9_termOf 35 = .ok (.getfield 34, 3) := by decide +kernel
theorem dX9_termOf_38 : decode cX9_termOf 38 = .ok (.iload 4, 2) := by decide +kernel
theorem dX9_termOf_40 : decode cX9_termOf 40 = .ok (.iaload, 1) := by decide +kernel
theorem dX9_termOf_41 : decode cX9_termOf 41 = .ok (.iload_n 3, 1) := by decide +kernel
theorem dX9_termOf_42 : decode cX9_termOf 42 = .ok (.if_icmp .ne 6, 3) := by decide +kernel
theorem dX9_termOf_45 : decode cX9_termOf 45 = .ok (.iload 4, 2) := by decide +kernel
theorem dX9_termOf_47 : decode cX9_termOf 47 = .ok (.ireturn, 1) := by decide +kernel
theorem dX9_termOf_48 : decode cX9_termOf 48 = .ok (.iinc 4 1, 3) := by decide +kernel
theorem dX9_termOf_51 : decode cX9_termOf 51 = .ok (.goto (-48), 3) := by decide +kernel
theorem dX9_termOf_54 : decode cX9_termOf 54 = .ok (.aload_n 0, 1) := by decide +kernel
theorem dX9_termOf_55 : decode cX9_termOf 55 = .ok (.getfield 28, 3) := by decide +kernel
theorem dX9_termOf_58 : decode cX9_termOf 58 = .ok (.aload_n 0, 1) := by decide +kernel
theorem dX9_termOf_59 : decode cX9_termOf 59 = .ok (.getfield 133, 3) := by decide +kernel
theorem dX9_termOf_62 : decode cX9_termOf 62 = .ok (.iload_n 1, 1) := by decide +kernel
theorem dX9_termOf_63 : decode cX9_termOf 63 = .ok (.iastore, 1) := by decide +kernel
theorem dX9_termOf_64 : decode cX9_termOf 64 = .ok (.aload_n 0, 1) := by decide +kernel
theorem dX9_termOf_65 : decode cX9_termOf 65 = .ok (.getfield 31, 3) := by decide +kernel
theorem dX9_termOf_68 : decode cX9_termOf 68 = .ok (.aload_n 0, 1) := by decide +kernel
theorem dX9_termOf_69 : decode cX9_termOf 69 = .ok (.getfield 133, 3) := by decide +kernel
theorem dX9_termOf_72 : decode cX9_termOf 72 = .ok (.iload_n 2, 1) := by decide +kernel
theorem dX9_termOf_73 : decode cX9_termOf 73 = .ok (.iastore, 1) := by decide +kernel
theorem dX9_termOf_74 : decode cX9_termOf 74 = .ok (.aload_n 0, 1) := by decide +kernel
theorem dX9_termOf_75 : decode cX9_termOf 75 = .ok (.getfield 34, 3) := by decide +kernel
theorem dX9_termOf_78 : decode cX9_termOf 78 = .ok (.aload_n 0, 1) := by decide +kernel
theorem dX9_termOf_79 : decode cX9_termOf 79 = .ok (.getfield 133, 3) := by decide +kernel
theorem dX9_termOf_82 : decode cX9_termOf 82 = .ok (.iload_n 3, 1) := by decide +kernel
theorem dX9_termOf_83 : decode cX9_termOf 83 = .ok (.iastore, 1) := by decide +kernel
theorem dX9_termOf_84 : decode cX9_termOf 84 = .ok (.aload_n 0, 1) := by decide +kernel
theorem dX9_termOf_85 : decode cX9_termOf 85 = .ok (.dup, 1) := by decide +kernel
theorem dX9_termOf_86 : decode cX9_termOf 86 = .ok (.getfield 133, 3) := by decide +kernel
theorem dX9_termOf_89 : decode cX9_termOf 89 = .ok (.iconst 1, 1) := by decide +kernel
theorem dX9_termOf_90 : decode cX9_termOf 90 = .ok (.iadd, 1) := by decide +kernel
theorem dX9_termOf_91 : decode cX9_termOf 91 = .ok (.putfield 133, 3) := by decide +kernel
theorem dX9_termOf_94 : decode cX9_termOf 94 = .ok (.aload_n 0, 1) := by decide +kernel
theorem dX9_termOf_95 : decode cX9_termOf 95 = .ok (.getfield 133, 3) := by decide +kernel
theorem dX9_termOf_98 : decode cX9_termOf 98 = .ok (.iconst 1, 1) := by decide +kernel
theorem dX9_termOf_99 : decode cX9_termOf 99 = .ok (.isub, 1) := by decide +kernel
theorem dX9_termOf_100 : decode cX9_termOf 100 = .ok (.ireturn, 1) := by decide +kernel
set_option maxRecDepth 20000 in
theorem ggX9_layLiteral_X9_within : GoodIn wsX9_layLiteral wsX9_within := goodIn_r _ [10] (by decide +kernel) (by decide +kernel)
set_option maxRecDepth 20000 in
theorem gX9_layLiteral_X9_within : GoodIn wsX9_layLiteral (va_wsS RX9 77 yX9_within wsX9_within) := goodIn_app (goodIn_of _ (by decide +kernel)) ggX9_layLiteral_X9_within
set_option maxRecDepth 20000 in
theorem ggX9_layLiteral_X9_termOf : GoodIn wsX9_layLiteral wsX9_termOf := goodIn_r _ [14, 15, 16, 17, 18, 19, 20, 21, 22, 23, 24, 25, 26, 27, 28, 29, 30, 31, 32, 33, 34, 35, 36, 37, 38, 39, 40, 41, 42, 43, 44, 45, 46, 47, 48, 49, 50, 51, 52, 53, 54, 55, 56, 57, 58, 59, 60, 61, 62, 63, 64, 65, 66] (by decide +kernel) (by decide +kernel)
set_option maxRecDepth 20000 in
theorem gX9_layLiteral_X9_termOf : GoodIn wsX9_layLiteral (wsV RX9 136 RX9 yX9_termOf wsX9_termOf) := goodIn_app (goodIn_of _ (by decide +kernel)) ggX9_layLiteral_X9_termOf
theorem dX9_layLiteral_0 : decode cX9_layLiteral 0 = .ok (.iconst 0, 1) := by decide +kernel
theorem dX9_layLiteral_1 : decode cX9_layLiteral 1 = .ok (.istore_n 2, 1) := by decide +kernel
theorem dX9_layLiteral_2 : decode cX9_layLiteral 2 = .ok (.iconst 0, 1) := by decide +kernel
theorem dX9_layLiteral_3 : decode cX9_layLiteral 3 = .ok (.istore_n 3, 1) := by decide +kernel
theorem dX9_layLiteral_4 : decode cX9_layLiteral 4 = .ok (.iload_n 3, 1) := by decide +kernel
theorem dX9_layLiteral_5 : decode cX9_layLiteral 5 = .ok (.aload_n 0, 1) := by decide +kernel
theorem dX9_layLiteral_6 : decode cX9_layLiteral 6 = .ok (.getfield 16, 3) := by decide +kernel
theorem dX9_layLiteral_9 : decode cX9_layLiteral 9 = .ok (.iload_n 1, 1) := by decide +kernel
theorem dX9_layLiteral_10 : decode cX9_layLiteral 10 = .ok (.iaload, 1) := by decide +kernel
theorem dX9_layLiteral_11 : decode cX9_layLiteral 11 = .ok (.if_icmp .ge 223, 3) := by decide +kernel
theorem dX9_layLiteral_14 : decode cX9_layLiteral 14 = .ok (.aload_n 0, 1) := by decide +kernel
theorem dX9_layLiteral_15 : decode cX9_layLiteral 15 = .ok (.getfield 13, 3) := by decide +kernel
theorem dX9_layLiteral_18 : decode cX9_layLiteral 18 = .ok (.bipush 40, 2) := by decide +kernel
theorem dX9_layLiteral_20 : decode cX9_layLiteral 20 = .ok (.iload_n 1, 1) := by decide +kernel
theorem dX9_layLiteral_21 : decode cX9_layLiteral 21 = .ok (.imul, 1) := by decide +kernel
theorem dX9_layLiteral_22 : decode cX9_layLiteral 22 = .ok (.iload_n 3, 1) := by decide +kernel
theorem dX9_layLiteral_23 : decode cX9_layLiteral 23 = .ok (.iadd, 1) := by decide +kernel
theorem dX9_layLiteral_24 : decode cX9_layLiteral 24 = .ok (.iaload, 1) := by decide +kernel
theorem dX9_layLiteral_25 : decode cX9_layLiteral 25 = .ok (.istore 4, 2) := by decide +kernel
theorem dX9_layLiteral_27 : decode cX9_layLiteral 27 = .ok (.iload 4, 2) := by decide +kernel
theorem dX9_layLiteral_29 : decode cX9_layLiteral 29 = .ok (.bipush 97, 2) := by decide +kernel
theorem dX9_layLiteral_31 : decode cX9_layLiteral 31 = .ok (.bipush 101, 2) := by decide +kernel
theorem dX9_layLiteral_33 : decode cX9_layLiteral 33 = .ok (.invokestatic 77, 3) := by decide +kernel
theorem dX9_layLiteral_36 : decode cX9_layLiteral 36 = .ok (.ifCond .eq 20, 3) := by decide +kernel
theorem dX9_layLiteral_39 : decode cX9_layLiteral 39 = .ok (.aload_n 0, 1) := by decide +kernel
theorem dX9_layLiteral_40 : decode cX9_layLiteral 40 = .ok (.getfield 43, 3) := by decide +kernel
theorem dX9_layLiteral_43 : decode cX9_layLiteral 43 = .ok (.iload_n 2, 1) := by decide +kernel
theorem dX9_layLiteral_44 : decode cX9_layLiteral 44 = .ok (.iload 4, 2) := by decide +kernel
theorem dX9_layLiteral_46 : decode cX9_layLiteral 46 = .ok (.bipush 97, 2) := by decide +kernel
theorem dX9_layLiteral_48 : decode cX9_layLiteral 48 = .ok (.isub, 1) := by decide +kernel
theorem dX9_layLiteral_49 : decode cX9_layLiteral 49 = .ok (.iastore, 1) := by decide +kernel
theorem dX9_layLiteral_50 : decode cX9_layLiteral 50 = .ok (.iinc 2 1, 3) := by decide +kernel
theorem dX9_layLiteral_53 : decode cX9_layLiteral 53 = .ok (.goto 175, 3) := by decide +kernel
theorem dX9_layLiteral_56 : decode cX9_layLiteral 56 = .ok (.iload 4, 2) := by decide +kernel
theorem dX9_layLiteral_58 : decode cX9_layLiteral 58 = .ok (.bipush 102, 2) := by decide +kernel
theorem dX9_layLiteral_60 : decode cX9_layLiteral 60 = .ok (.if_icmp .eq 10, 3) := by decide +kernel
theorem dX9_layLiteral_63 : decode cX9_layLiteral 63 = .ok (.iload 4, 2) := by decide +kernel
theorem dX9_layLiteral_65 : decode cX9_layLiteral 65 = .ok (.bipush 103, 2) := by decide +kernel
theorem dX9_layLiteral_67 : decode cX9_layLiteral 67 = .ok (.if_icmp .ne 28, 3) := by decide +kernel
theorem dX9_layLiteral_70 : decode cX9_layLiteral 70 = .ok (.aload_n 0, 1) := by decide +kernel
theorem dX9_layLiteral_71 : decode cX9_layLiteral 71 = .ok (.getfield 43, 3) := by decide +kernel
theorem dX9_layLiteral_74 : decode cX9_layLiteral 74 = .ok (.iload_n 2, 1) := by decide +kernel
theorem dX9_layLiteral_75 : decode cX9_layLiteral 75 = .ok (.iload 4, 2) := by decide +kernel
theorem dX9_layLiteral_77 : decode cX9_layLiteral 77 = .ok (.bipush 102, 2) := by decide +kernel
theorem dX9_layLiteral_79 : decode cX9_layLiteral 79 = .ok (.if_icmp .ne 7, 3) := by decide +kernel
theorem dX9_layLiteral_82 : decode cX9_layLiteral 82 = .ok (.iconst (-1), 1) := by decide +kernel
theorem dX9_layLiteral_83 : decode cX9_layLiteral 83 = .ok (.goto 5, 3) := by decide +kernel
theorem dX9_layLiteral_86 : decode cX9_layLiteral 86 = .ok (.bipush (-2), 2) := by decide +kernel
theorem dX9_layLiteral_88 : decode cX9_layLiteral 88 = .ok (.iastore, 1) := by decide +kernel
theorem dX9_layLiteral_89 : decode cX9_layLiteral 89 = .ok (.iinc 2 1, 3) := by decide +kernel
theorem dX9_layLiteral_92 : decode cX9_layLiteral 92 = .ok (.goto 136, 3) := by decide +kernel
theorem dX9_layLiteral_95 : decode cX9_layLiteral 95 = .ok (.iload 4, 2) := by decide +kernel
theorem dX9_layLiteral_97 : decode cX9_layLiteral 97 = .ok (.bipush 41, 2) := by decide +kernel
theorem dX9_layLiteral_99 : decode cX9_layLiteral 99 = .ok (.if_icmp .ne 94, 3) := by decide +kernel
theorem dX9_layLiteral_102 : decode cX9_layLiteral 102 = .ok (.aload_n 0, 1) := by decide +kernel
theorem dX9_layLiteral_103 : decode cX9_layLiteral 103 = .ok (.getfield 43, 3) := by decide +kernel
theorem dX9_layLiteral_106 : decode cX9_layLiteral 106 = .ok (.iload_n 2, 1) := by decide +kernel
theorem dX9_layLiteral_107 : decode cX9_layLiteral 107 = .ok (.iconst 2, 1) := by decide +kernel
theorem dX9_layLiteral_108 : decode cX9_layLiteral 108 = .ok (.isub, 1) := by decide +kernel
theorem dX9_layLiteral_109 : decode cX9_layLiteral 109 = .ok (.iaload, 1) := by decide +kernel
theorem dX9_layLiteral_110 : decode cX9_layLiteral 110 = .ok (.ifCond .lt 7, 3) := by decide +kernel
theorem dX9_layLiteral_113 : decode cX9_layLiteral 113 = .ok (.iconst 1, 1) := by decide +kernel
theorem dX9_layLiteral_114 : decode cX9_layLiteral 114 = .ok (.goto 4, 3) := by decide +kernel
theorem dX9_layLiteral_117 : decode cX9_layLiteral 117 = .ok (.iconst 0, 1) := by decide +kernel
theorem dX9_layLiteral_118 : decode cX9_layLiteral 118 = .ok (.istore 5, 2) := by decide +kernel
theorem dX9_layLiteral_120 : decode cX9_layLiteral 120 = .ok (.iload 5, 2) := by decide +kernel
theorem dX9_layLiteral_122 : decode cX9_layLiteral 122 = .ok (.ifCond .eq 27, 3) := by decide +kernel
theorem dX9_layLiteral_125 : decode cX9_layLiteral 125 = .ok (.aload_n 0, 1) := by decide +kernel
theorem dX9_layLiteral_126 : decode cX9_layLiteral 126 = .ok (.iconst 2, 1) := by decide +kernel
theorem dX9_layLiteral_127 : decode cX9_layLiteral 127 = .ok (.aload_n 0, 1) := by decide +kernel
theorem dX9_layLiteral_128 : decode cX9_layLiteral 128 = .ok (.getfield 43, 3) := by decide +kernel
theorem dX9_layLiteral_131 : decode cX9_layLiteral 131 = .ok (.iload_n 2, 1) := by decide +kernel
theorem dX9_layLiteral_132 : decode cX9_layLiteral 132 = .ok (.iconst 2, 1) := by decide +kernel
theorem dX9_layLiteral_133 : decode cX9_layLiteral 133 = .ok (.isub, 1) := by decide +kernel
theorem dX9_layLiteral_134 : decode cX9_layLiteral 134 = .ok (.iaload, 1) := by decide +kernel
theorem dX9_layLiteral_135 : decode cX9_layLiteral 135 = .ok (.aload_n 0, 1) := by decide +kernel
theorem dX9_layLiteral_136 : decode cX9_layLiteral 136 = .ok (.getfield 43, 3) := by decide +kernel
theorem dX9_layLiteral_139 : decode cX9_layLiteral 139 = .ok (.iload_n 2, 1) := by decide +kernel
theorem dX9_layLiteral_140 : decode cX9_layLiteral 140 = .ok (.iconst 1, 1) := by decide +kernel
theorem dX9_layLiteral_141 : decode cX9_layLiteral 141 = .ok (.isub, 1) := by decide +kernel
theorem dX9_layLiteral_142 : decode cX9_layLiteral 142 = .ok (.iaload, 1) := by decide +kernel
theorem dX9_layLiteral_143 : decode cX9_layLiteral 143 = .ok (.invokevirtual 136, 3) := by decide +kernel
theorem dX9_layLiteral_146 : decode cX9_layLiteral 146 = .ok (.goto 18, 3) := by decide +kernel
theorem dX9_layLiteral_149 : decode cX9_layLiteral 149 = .ok (.aload_n 0, 1) := by decide +kernel
theorem dX9_layLiteral_150 : decode cX9_layLiteral 150 = .ok (.iconst 1, 1) := by decide +kernel
theorem dX9_layLiteral_151 : decode cX9_layLiteral 151 = .ok (.aload_n 0, 1) := by decide +kernel
theorem dX9_layLiteral_152 : decode cX9_layLiteral 152 = .ok (.getfield 43, 3) := by decide +kernel
theorem dX9_layLiteral_155 : decode cX9_layLiteral 155 = .ok (.iload_n 2, 1) := by decide +kernel
theorem dX9_layLiteral_156 : decode cX9_layLiteral 156 = .ok (.iconst 1, 1) := by decide +kernel
theorem dX9_layLiteral_157 : decode cX9_layLiteral 157 = .ok (.isub, 1) := by decide +kernel
theorem dX9_layLiteral_158 : decode cX9_layLiteral 158 = .ok (.iaload, 1) := by decide +kernel
theorem dX9_layLiteral_159 : decode cX9_layLiteral 159 = .ok (.ldc 140, 2) := by decide +kernel
theorem dX9_layLiteral_161 : decode cX9_layLiteral 161 = .ok (.invokevirtual 136, 3) := by decide +kernel
theorem dX9_layLiteral_164 : decode cX9_layLiteral 164 = .ok (.istore 6, 2) := by decide +kernel
theorem dX9_layLiteral_166 : decode cX9_layLiteral 166 = .ok (.iload_n 2, 1) := by decide +kernel
theorem dX9_layLiteral_167 : decode cX9_layLiteral 167 = .ok (.iload 5, 2) := by decide +kernel
theorem dX9_layLiteral_169 : decode cX9_layLiteral 169 = .ok (.ifCond .eq 7, 3) := by decide +kernel
theorem dX9_layLiteral_172 : decode cX9_layLiteral 172 = .ok (.iconst 3, 1) := by decide +kernel
theorem dX9_layLiteral_173 : decode cX9_layLiteral 173 = .ok (.goto 4, 3) := by decide +kernel
theorem dX9_layLiteral_176 : decode cX9_layLiteral 176 = .ok (.iconst 2, 1) := by decide +kernel
theorem dX9_layLiteral_177 : decode cX9_layLiteral 177 = .ok (.isub, 1) := by decide +kernel
theorem dX9_layLiteral_178 : decode cX9_layLiteral 178 = .ok (.istore_n 2, 1) := by decide +kernel
theorem dX9_layLiteral_179 : decode cX9_layLiteral 179 = .ok (.aload_n 0, 1) := by decide +kernel
theorem dX9_layLiteral_180 : decode cX9_layLiteral 180 = .ok (.getfield 43, 3) := by decide +kernel
theorem dX9_layLiteral_183 : decode cX9_layLiteral 183 = .ok (.iload_n 2, 1) := by decide +kernel
theorem dX9_layLiteral_184 : decode cX9_layLiteral 184 = .ok (.iload 6, 2) := by decide +kernel
theorem dX9_layLiteral_186 : decode cX9_layLiteral 186 = .ok (.iastore, 1) := by decide +kernel
theorem dX9_layLiteral_187 : decode cX9_layLiteral 187 = .ok (.iinc 2 1, 3) := by decide +kernel
theorem dX9_layLiteral_190 : decode cX9_layLiteral 190 = .ok (.goto 38, 3) := by decide +kernel
theorem dX9_layLiteral_193 : decode cX9_layLiteral 193 = .ok (.iload 4, 2) := by decide +kernel
theorem dX9_layLiteral_195 : decode cX9_layLiteral 195 = .ok (.bipush 61, 2) := by decide +kernel
theorem dX9_layLiteral_197 : decode cX9_layLiteral 197 = .ok (.if_icmp .eq 17, 3) := by decide +kernel
theorem dX9_layLiteral_200 : decode cX9_layLiteral 200 = .ok (.iload 4, 2) := by decide +kernel
theorem dX9_layLiteral_202 : decode cX9_layLiteral 202 = .ok (.bipush 35, 2) := by decide +kernel
theorem dX9_layLiteral_204 : decode cX9_layLiteral 204 = .ok (.if_icmp .eq 10, 3) := by decide +kernel
theorem dX9_layLiteral_207 : decode cX9_layLiteral 207 = .ok (.iload 4, 2) := by decide +kernel
theorem dX9_layLiteral_209 : decode cX9_layLiteral 209 = .ok (.bipush 60, 2) := by decide +kernel
theorem dX9_layLiteral_211 : decode cX9_layLiteral 211 = .ok (.if_icmp .ne 17, 3) := by decide +kernel
theorem dX9_layLiteral_214 : decode cX9_layLiteral 214 = .ok (.aload_n 0, 1) := by decide +kernel
theorem dX9_layLiteral_215 : decode cX9_layLiteral 215 = .ok (.getfield 37, 3) := by decide +kernel
theorem dX9_layLiteral_218 : decode cX9_layLiteral 218 = .ok (.iload_n 1, 1) := by decide +kernel
theorem dX9_layLiteral_219 : decode cX9_layLiteral 219 = .ok (.aload_n 0, 1) := by decide +kernel
theorem dX9_layLiteral_220 : decode cX9_layLiteral 220 = .ok (.getfield 43, 3) := by decide +kernel
theorem dX9_layLiteral_223 : decode cX9_layLiteral 223 = .ok (.iconst 0, 1) := by decide +kernel
theorem dX9_layLiteral_224 : decode cX9_layLiteral 224 = .ok (.iaload, 1) := by decide +kernel
theorem dX9_layLiteral_225 : decode cX9_layLiteral 225 = .ok (.iastore, 1) := by decide +kernel
theorem dX9_layLiteral_226 : decode cX9_layLiteral 226 = .ok (.iconst 0, 1) := by decide +kernel
theorem dX9_layLiteral_227 : decode cX9_layLiteral 227 = .ok (.istore_n 2, 1) := by decide +kernel
theorem dX9_layLiteral_228 : decode cX9_layLiteral 228 = .ok (.iinc 3 1, 3) := by decide +kernel
theorem dX9_layLiteral_231 : decode cX9_layLiteral 231 = .ok (.goto (-227), 3) := by decide +kernel
theorem dX9_layLiteral_234 : decode cX9_layLiteral 234 = .ok (.aload_n 0, 1) := by decide +kernel
theorem dX9_layLiteral_235 : decode cX9_layLiteral 235 = .ok (.getfield 40, 3) := by decide +kernel
theorem dX9_layLiteral_238 : decode cX9_layLiteral 238 = .ok (.iload_n 1, 1) := by decide +kernel
theorem dX9_layLiteral_239 : decode cX9_layLiteral 239 = .ok (.aload_n 0, 1) := by decide +kernel
theorem dX9_layLiteral_240 : decode cX9_layLiteral 240 = .ok (.getfield 43, 3) := by decide +kernel
theorem dX9_layLiteral_243 : decode cX9_layLiteral 243 = .ok (.iconst 0, 1) := by decide +kernel
theorem dX9_layLiteral_244 : decode cX9_layLiteral 244 = .ok (.iaload, 1) := by decide +kernel
theorem dX9_layLiteral_245 : decode cX9_layLiteral 245 = .ok (.iastore, 1) := by decide +kernel
theorem dX9_layLiteral_246 : decode cX9_layLiteral 246 = .ok (.return_, 1) := by decide +kernel
set_option maxRecDepth 20000 in
theorem ggX9_layTerms_X9_layLiteral : GoodIn wsX9_layTerms wsX9_layLiteral := goodIn_r _ [11, 12, 13, 14, 4, 15, 16, 17, 18, 10, 19, 20, 21, 22, 23, 1, 2, 3, 5, 24, 25, 26, 27, 28, 29, 30, 31, 32, 33, 34, 35, 36, 37, 38, 39, 40, 41, 42, 43, 44, 45, 46, 47, 48, 49, 50, 51, 52, 53, 54, 55, 56, 57, 58, 59, 60, 61, 62, 63, 64, 65, 66, 67, 68, 69, 70, 71] (by decide +kernel) (by decide +kernel)
set_option maxRecDepth 20000 in
theorem gX9_layTerms_X9_layLiteral : GoodIn wsX9_layTerms (wsV RX9 144 RX9 yX9_layLiteral wsX9_layLiteral) := goodIn_app (goodIn_of _ (by decide +kernel)) ggX9_layTerms_X9_layLiteral
theorem dX9_layTerms_0 : decode cX9_layTerms 0 = .ok (.aload_n 0, 1) := by decide +kernel
theorem dX9_layTerms_1 : decode cX9_layTerms 1 = .ok (.iconst 5, 1) := by decide +kernel
theorem dX9_layTerms_2 : decode cX9_layTerms 2 = .ok (.putfield 133, 3) := by decide +kernel
theorem dX9_layTerms_5 : decode cX9_layTerms 5 = .ok (.iconst 0, 1) := by decide +kernel
theorem dX9_layTerms_6 : decode cX9_layTerms 6 = .ok (.istore_n 1, 1) := by decide +kernel
theorem dX9_layTerms_7 : decode cX9_layTerms 7 = .ok (.iload_n 1, 1) := by decide +kernel
theorem dX9_layTerms_8 : decode cX9_layTerms 8 = .ok (.iconst 5, 1) := by decide +kernel
theorem dX9_layTerms_9 : decode cX9_layTerms 9 = .ok (.if_icmp .ge 32, 3) := by decide +kernel
theorem dX9_layTerms_12 : decode cX9_layTerms 12 = .ok (.aload_n 0, 1) := by decide +kernel
theorem dX9_layTerms_13 : decode cX9_layTerms 13 = .ok (.getfield 28, 3) := by decide +kernel
theorem dX9_layTerms_16 : decode cX9_layTerms 16 = .ok (.iload_n 1, 1) := by decide +kernel
theorem dX9_layTerms_17 : decode cX9_layTerms 17 = .ok (.iconst 0, 1) := by decide +kernel
theorem dX9_layTerms_18 : decode cX9_layTerms 18 = .ok (.iastore, 1) := by decide +kernel
theorem dX9_layTerms_19 : decode cX9_layTerms 19 = .ok (.aload_n 0, 1) := by decide +kernel
theorem dX9_layTerms_20 : decode cX9_layTerms 20 = .ok (.getfield 31, 3) := by decide +kernel
theorem dX9_layTerms_23 : decode cX9_layTerms 23 = .ok (.iload_n 1, 1) := by decide +kernel
theorem dX9_layTerms_24 : decode cX9_layTerms 24 = .ok (.ldc 140, 2) := by decide +kernel
theorem dX9_layTerms_26 : decode cX9_layTerms 26 = .ok (.iastore, 1) := by decide +kernel
theorem dX9_layTerms_27 : decode cX9_layTerms 27 = .ok (.aload_n 0, 1) := by decide +kernel
theorem dX9_layTerms_28 : decode cX9_layTerms 28 = .ok (.getfield 34, 3) := by decide +kernel
theorem dX9_layTerms_31 : decode cX9_layTerms 31 = .ok (.iload_n 1, 1) := by decide +kernel
theorem dX9_layTerms_32 : decode cX9_layTerms 32 = .ok (.ldc 140, 2) := by decide +kernel
theorem dX9_layTerms_34 : decode cX9_layTerms 34 = .ok (.iastore, 1) := by decide +kernel
theorem dX9_layTerms_35 : decode cX9_layTerms 35 = .ok (.iinc 1 1, 3) := by decide +kernel
theorem dX9_layTerms_38 : decode cX9_layTerms 38 = .ok (.goto (-31), 3) := by decide +kernel
theorem dX9_layTerms_41 : decode cX9_layTerms 41 = .ok (.iconst 0, 1) := by decide +kernel
theorem dX9_layTerms_42 : decode cX9_layTerms 42 = .ok (.istore_n 1, 1) := by decide +kernel
theorem dX9_layTerms_43 : decode cX9_layTerms 43 = .ok (.iload_n 1, 1) := by decide +kernel
theorem dX9_layTerms_44 : decode cX9_layTerms 44 = .ok (.aload_n 0, 1) := by decide +kernel
theorem dX9_layTerms_45 : decode cX9_layTerms 45 = .ok (.getfield 141, 3) := by decide +kernel
theorem dX9_layTerms_48 : decode cX9_layTerms 48 = .ok (.if_icmp .ge 14, 3) := by decide +kernel
theorem dX9_layTerms_51 : decode cX9_layTerms 51 = .ok (.aload_n 0, 1) := by decide +kernel
theorem dX9_layTerms_52 : decode cX9_layTerms 52 = .ok (.iload_n 1, 1) := by decide +kernel
theorem dX9_layTerms_53 : decode cX9_layTerms 53 = .ok (.invokevirtual 144, 3) := by decide +kernel
theorem dX9_layTerms_56 : decode cX9_layTerms 56 = .ok (.iinc 1 1, 3) := by decide +kernel
theorem dX9_layTerms_59 : decode cX9_layTerms 59 = .ok (.goto (-16), 3) := by decide +kernel
theorem dX9_layTerms_62 : decode cX9_layTerms 62 = .ok (.return_, 1) := by decide +kernel
set_option maxRecDepth 20000 in
theorem ggX9_add_X9_goAlong : GoodIn wsX9_add wsX9_goAlong := goodIn_r _ [20, 5, 1, 7, 21, 22, 23, 24, 19, 25, 26, 27, 11, 14, 13, 28, 29, 30, 31, 32, 33, 34, 35, 36, 37, 38, 39, 40, 41, 42, 43, 44, 45, 46, 47, 48, 49, 50, 51, 52, 76, 77, 78, 79, 80, 81, 82, 83, 84, 85, 86, 87, 88, 89, 90, 91, 92, 93, 94, 95, 96, 97, 98, 99, 100, 101, 102, 103, 104, 105, 106, 107, 108, 109, 110, 111, 112, 113, 114, 115, 116, 117, 118, 119, 120, 121, 122, 123] (by decide +kernel) (by decide +kernel)
set_option maxRecDepth 20000 in
theorem gX9_add_X9_goAlong : GoodIn wsX9_add (wsV RX9 129 RX9 yX9_goAlong wsX9_goAlong) := goodIn_app (goodIn_of _ (by decide +kernel)) ggX9_add_X9_goAlong
set_option maxRecDepth 20000 in
theorem ggX9_add_X9_isWhole : GoodIn wsX9_add wsX9_isWhole := goodIn_r _ [56, 27, 26, 21, 14, 76, 77, 78, 79, 80, 81, 82, 83, 84, 85, 86, 87, 88, 89, 90, 91, 92, 93, 94, 95, 96, 97, 98, 99, 100, 101, 102, 103, 104, 105, 106, 107, 108, 109, 110, 111, 112, 113, 114, 115, 116, 117, 118, 119, 120, 121, 122, 123] (by decide +kernel) (by decide +kernel)
set_option maxRecDepth 20000 in
theorem gX9_add_X9_isWhole : GoodIn wsX9_add (wsV RX9 148 RX9 yX9_isWhole wsX9_isWhole) := goodIn_app (goodIn_of _ (by decide +kernel)) ggX9_add_X9_isWhole
set_option maxRecDepth 20000 in
theorem ggX9_add_X9_layLiteral : GoodIn wsX9_add wsX9_layLiteral := goodIn_r _ [60, 8, 6, 61, 62, 63, 64, 37, 38, 19, 39, 65, 66, 67, 68, 9, 69, 70, 71, 76, 77, 78, 79, 80, 81, 82, 83, 84, 85, 86, 87, 88, 89, 90, 91, 92, 93, 94, 95, 96, 97, 98, 99, 100, 101, 102, 103, 104, 105, 106, 107, 108, 109, 110, 111, 112, 113, 114, 115, 116, 117, 118, 119, 120, 121, 122, 123] (by decide +kernel) (by decide +kernel)
set_option maxRecDepth 20000 in
theorem gX9_add_X9_layLiteral : GoodIn wsX9_add (wsV RX9 144 RX9 yX9_layLiteral wsX9_layLiteral) := goodIn_app (goodIn_of _ (by decide +kernel)) ggX9_add_X9_layLiteral
set_option maxRecDepth 20000 in
theorem ggX9_add_X9_layTerms : GoodIn wsX9_add wsX9_layTerms := goodIn_r _ [75, 9, 69, 70, 62, 71, 3, 57, 58, 59, 19, 60, 8, 6, 61, 63, 64, 37, 38, 39, 65, 66, 67, 68, 76, 77, 78, 79, 80, 81, 82, 83, 84, 85, 86, 87, 88, 89, 90, 91, 92, 93, 94, 95, 96, 97, 98, 99, 100, 101, 102, 103, 104, 105, 106, 107, 108, 109, 110, 111, 112, 113, 114, 115, 116, 117, 118, 119, 120, 121, 122, 123] (by decide +kernel) (by decide +kernel)
set_option maxRecDepth 20000 in
theorem gX9_add_X9_layTerms : GoodIn wsX9_add (wsV RX9 74 RX9 yX9_layTerms wsX9_layTerms) := goodIn_app (goodIn_of _ (by decide +kernel)) ggX9_add_X9_layTerms
theorem dX9_add_0 : decode cX9_add 0 = .ok (.aload_n 0, 1) := by decide +kernel
theorem dX9_add_1 : decode cX9_add 1 = .ok (.invokevirtual 129, 3) := by decide +kernel
theorem dX9_add_4 : decode cX9_add 4 = .ok (.aload_n 0, 1) := by decide +kernel
theorem dX9_add_5 : decode cX9_add 5 = .ok (.getfield 82, 3) := by decide +kernel
theorem dX9_add_8 : decode cX9_add 8 = .ok (.if_icmp .lt 10, 3) := by decide +kernel
theorem dX9_add_11 : decode cX9_add 11 = .ok (.aload_n 0, 1) := by decide +kernel
theorem dX9_add_12 : decode cX9_add 12 = .ok (.invokevirtual 148, 3) := by decide +kernel
theorem dX9_add_15 : decode cX9_add 15 = .ok (.ifCond .ne 6, 3) := by decide +kernel
theorem dX9_add_18 : decode cX9_add 18 = .ok (.ldc 152, 2) := by decide +kernel
theorem dX9_add_20 : decode cX9_add 20 = .ok (.ireturn, 1) := by decide +kernel
theorem dX9_add_21 : decode cX9_add 21 = .ok (.aload_n 0, 1) := by decide +kernel
theorem dX9_add_22 : decode cX9_add 22 = .ok (.getfield 141, 3) := by decide +kernel
theorem dX9_add_25 : decode cX9_add 25 = .ok (.bipush 10, 2) := by decide +kernel
theorem dX9_add_27 : decode cX9_add 27 = .ok (.if_icmp .ne 6, 3) := by decide +kernel
theorem dX9_add_30 : decode cX9_add 30 = .ok (.ldc 86, 2) := by decide +kernel
theorem dX9_add_32 : decode cX9_add 32 = .ok (.ireturn, 1) := by decide +kernel
theorem dX9_add_33 : decode cX9_add 33 = .ok (.iconst 0, 1) := by decide +kernel
theorem dX9_add_34 : decode cX9_add 34 = .ok (.istore_n 1, 1) := by decide +kernel
theorem dX9_add_35 : decode cX9_add 35 = .ok (.iload_n 1, 1) := by decide +kernel
theorem dX9_add_36 : decode cX9_add 36 = .ok (.aload_n 0, 1) := by decide +kernel
theorem dX9_add_37 : decode cX9_add 37 = .ok (.getfield 123, 3) := by decide +kernel
theorem dX9_add_40 : decode cX9_add 40 = .ok (.if_icmp .ge 29, 3) := by decide +kernel
theorem dX9_add_43 : decode cX9_add 43 = .ok (.aload_n 0, 1) := by decide +kernel
theorem dX9_add_44 : decode cX9_add 44 = .ok (.getfield 13, 3) := by decide +kernel
theorem dX9_add_47 : decode cX9_add 47 = .ok (.bipush 40, 2) := by decide +kernel
theorem dX9_add_49 : decode cX9_add 49 = .ok (.aload_n 0, 1) := by decide +kernel
theorem dX9_add_50 : decode cX9_add 50 = .ok (.getfield 141, 3) := by decide +kernel
theorem dX9_add_53 : decode cX9_add 53 = .ok (.imul, 1) := by decide +kernel
theorem dX9_add_54 : decode cX9_add 54 = .ok (.iload_n 1, 1) := by decide +kernel
theorem dX9_add_55 : decode cX9_add 55 = .ok (.iadd, 1) := by decide +kernel
theorem dX9_add_56 : decode cX9_add 56 = .ok (.aload_n 0, 1) := by decide +kernel
theorem dX9_add_57 : decode cX9_add 57 = .ok (.getfield 7, 3) := by decide +kernel
theorem dX9_add_60 : decode cX9_add 60 = .ok (.iload_n 1, 1) := by decide +kernel
theorem dX9_add_61 : decode cX9_add 61 = .ok (.iaload, 1) := by decide +kernel
theorem dX9_add_62 : decode cX9_add 62 = .ok (.iastore, 1) := by decide +kernel
theorem dX9_add_63 : decode cX9_add 63 = .ok (.iinc 1 1, 3) := by decide +kernel
theorem dX9_add_66 : decode cX9_add 66 = .ok (.goto (-31), 3) := by decide +kernel
theorem dX9_add_69 : decode cX9_add 69 = .ok (.aload_n 0, 1) := by decide +kernel
theorem dX9_add_70 : decode cX9_add 70 = .ok (.getfield 16, 3) := by decide +kernel
theorem dX9_add_73 : decode cX9_add 73 = .ok (.aload_n 0, 1) := by decide +kernel
theorem dX9_add_74 : decode cX9_add 74 = .ok (.getfield 141, 3) := by decide +kernel
theorem dX9_add_77 : decode cX9_add 77 = .ok (.aload_n 0, 1) := by decide +kernel
theorem dX9_add_78 : decode cX9_add 78 = .ok (.getfield 123, 3) := by decide +kernel
theorem dX9_add_81 : decode cX9_add 81 = .ok (.iastore, 1) := by decide +kernel
theorem dX9_add_82 : decode cX9_add 82 = .ok (.aload_n 0, 1) := by decide +kernel
theorem dX9_add_83 : decode cX9_add 83 = .ok (.aload_n 0, 1) := by decide +kernel
theorem dX9_add_84 : decode cX9_add 84 = .ok (.getfield 141, 3) := by decide +kernel
theorem dX9_add_87 : decode cX9_add 87 = .ok (.invokevirtual 144, 3) := by decide +kernel
theorem dX9_add_90 : decode cX9_add 90 = .ok (.aload_n 0, 1) := by decide +kernel
theorem dX9_add_91 : decode cX9_add 91 = .ok (.getfield 133, 3) := by decide +kernel
theorem dX9_add_94 : decode cX9_add 94 = .ok (.bipush 10, 2) := by decide +kernel
theorem dX9_add_96 : decode cX9_add 96 = .ok (.if_icmp .le 10, 3) := by decide +kernel
theorem dX9_add_99 : decode cX9_add 99 = .ok (.aload_n 0, 1) := by decide +kernel
theorem dX9_add_100 : decode cX9_add 100 = .ok (.invokevirtual 74, 3) := by decide +kernel
theorem dX9_add_103 : decode cX9_add 103 = .ok (.ldc 86, 2) := by decide +kernel
theorem dX9_add_105 : decode cX9_add 105 = .ok (.ireturn, 1) := by decide +kernel
theorem dX9_add_106 : decode cX9_add 106 = .ok (.aload_n 0, 1) := by decide +kernel
theorem dX9_add_107 : decode cX9_add 107 = .ok (.getfield 19, 3) := by decide +kernel
theorem dX9_add_110 : decode cX9_add 110 = .ok (.aload_n 0, 1) := by decide +kernel
theorem dX9_add_111 : decode cX9_add 111 = .ok (.getfield 141, 3) := by decide +kernel
theorem dX9_add_114 : decode cX9_add 114 = .ok (.aload_n 0, 1) := by decide +kernel
theorem dX9_add_115 : decode cX9_add 115 = .ok (.getfield 97, 3) := by decide +kernel
theorem dX9_add_118 : decode cX9_add 118 = .ok (.bipush 61, 2) := by decide +kernel
theorem dX9_add_120 : decode cX9_add 120 = .ok (.if_icmp .ne 7, 3) := by decide +kernel
theorem dX9_add_123 : decode cX9_add 123 = .ok (.iconst 0, 1) := by decide +kernel
theorem dX9_add_124 : decode cX9_add 124 = .ok (.goto 17, 3) := by decide +kernel
theorem dX9_add_127 : decode cX9_add 127 = .ok (.aload_n 0, 1) := by decide +kernel
theorem dX9_add_128 : decode cX9_add 128 = .ok (.getfield 97, 3) := by decide +kernel
theorem dX9_add_131 : decode cX9_add 131 = .ok (.bipush 35, 2) := by decide +kernel
theorem dX9_add_133 : decode cX9_add 133 = .ok (.if_icmp .ne 7, 3) := by decide +kernel
theorem dX9_add_136 : decode cX9_add 136 = .ok (.iconst 1, 1) := by decide +kernel
theorem dX9_add_137 : decode cX9_add 137 = .ok (.goto 4, 3) := by decide +kernel
theorem dX9_add_140 : decode cX9_add 140 = .ok (.iconst 2, 1) := by decide +kernel
theorem dX9_add_141 : decode cX9_add 141 = .ok (.iastore, 1) := by decide +kernel
theorem dX9_add_142 : decode cX9_add 142 = .ok (.aload_n 0, 1) := by decide +kernel
theorem dX9_add_143 : decode cX9_add 143 = .ok (.getfield 22, 3) := by decide +kernel
theorem dX9_add_146 : decode cX9_add 146 = .ok (.aload_n 0, 1) := by decide +kernel
theorem dX9_add_147 : decode cX9_add 147 = .ok (.getfield 141, 3) := by decide +kernel
theorem dX9_add_150 : decode cX9_add 150 = .ok (.aload_n 0, 1) := by decide +kernel
theorem dX9_add_151 : decode cX9_add 151 = .ok (.getfield 103, 3) := by decide +kernel
theorem dX9_add_154 : decode cX9_add 154 = .ok (.ifCond .eq 11, 3) := by decide +kernel
theorem dX9_add_157 : decode cX9_add 157 = .ok (.aload_n 0, 1) := by decide +kernel
theorem dX9_add_158 : decode cX9_add 158 = .ok (.getfield 100, 3) := by decide +kernel
theorem dX9_add_161 : decode cX9_add 161 = .ok (.ineg, 1) := by decide +kernel
theorem dX9_add_162 : decode cX9_add 162 = .ok (.goto 7, 3) := by decide +kernel
theorem dX9_add_165 : decode cX9_add 165 = .ok (.aload_n 0, 1) := by decide +kernel
theorem dX9_add_166 : decode cX9_add 166 = .ok (.getfield 100, 3) := by decide +kernel
theorem dX9_add_169 : decode cX9_add 169 = .ok (.iastore, 1) := by decide +kernel
theorem dX9_add_170 : decode cX9_add 170 = .ok (.aload_n 0, 1) := by decide +kernel
theorem dX9_add_171 : decode cX9_add 171 = .ok (.dup, 1) := by decide +kernel
theorem dX9_add_172 : decode cX9_add 172 = .ok (.getfield 141, 3) := by decide +kernel
theorem dX9_add_175 : decode cX9_add 175 = .ok (.iconst 1, 1) := by decide +kernel
theorem dX9_add_176 : decode cX9_add 176 = .ok (.iadd, 1) := by decide +kernel
theorem dX9_add_177 : decode cX9_add 177 = .ok (.putfield 141, 3) := by decide +kernel
theorem dX9_add_180 : decode cX9_add 180 = .ok (.aload_n 0, 1) := by decide +kernel
theorem dX9_add_181 : decode cX9_add 181 = .ok (.dup, 1) := by decide +kernel
theorem dX9_add_182 : decode cX9_add 182 = .ok (.getfield 153, 3) := by decide +kernel
theorem dX9_add_185 : decode cX9_add 185 = .ok (.iconst 1, 1) := by decide +kernel
theorem dX9_add_186 : decode cX9_add 186 = .ok (.iadd, 1) := by decide +kernel
theorem dX9_add_187 : decode cX9_add 187 = .ok (.putfield 153, 3) := by decide +kernel
theorem dX9_add_190 : decode cX9_add 190 = .ok (.aload_n 0, 1) := by decide +kernel
theorem dX9_add_191 : decode cX9_add 191 = .ok (.iconst 0, 1) := by decide +kernel
theorem dX9_add_192 : decode cX9_add 192 = .ok (.putfield 82, 3) := by decide +kernel
theorem dX9_add_195 : decode cX9_add 195 = .ok (.aload_n 0, 1) := by decide +kernel
theorem dX9_add_196 : decode cX9_add 196 = .ok (.getfield 141, 3) := by decide +kernel
theorem dX9_add_199 : decode cX9_add 199 = .ok (.iconst 1, 1) := by decide +kernel
theorem dX9_add_200 : decode cX9_add 200 = .ok (.isub, 1) := by decide +kernel
theorem dX9_add_201 : decode cX9_add 201 = .ok (.ireturn, 1) := by decide +kernel
set_option maxRecDepth 20000 in
theorem ggX9_isLiteral_X9_within : GoodIn wsX9_isLiteral wsX9_within := goodIn_r _ [5] (by decide +kernel) (by decide +kernel)
set_option maxRecDepth 20000 in
theorem gX9_isLiteral_X9_within : GoodIn wsX9_isLiteral (va_wsS RX9 77 yX9_within wsX9_within) := goodIn_app (goodIn_of _ (by decide +kernel)) ggX9_isLiteral_X9_within
theorem dX9_isLiteral_0 : decode cX9_isLiteral 0 = .ok (.iload_n 1, 1) := by decide +kernel
theorem dX9_isLiteral_1 : decode cX9_isLiteral 1 = .ok (.iconst 0, 1) := by decide +kernel
theorem dX9_isLiteral_2 : decode cX9_isLiteral 2 = .ok (.aload_n 0, 1) := by decide +kernel
theorem dX9_isLiteral_3 : decode cX9_isLiteral 3 = .ok (.getfield 141, 3) := by decide +kernel
theorem dX9_isLiteral_6 : decode cX9_isLiteral 6 = .ok (.iconst 1, 1) := by decide +kernel
theorem dX9_isLiteral_7 : decode cX9_isLiteral 7 = .ok (.isub, 1) := by decide +kernel
theorem dX9_isLiteral_8 : decode cX9_isLiteral 8 = .ok (.invokestatic 77, 3) := by decide +kernel
theorem dX9_isLiteral_11 : decode cX9_isLiteral 11 = .ok (.ireturn, 1) := by decide +kernel
set_option maxRecDepth 20000 in
theorem ggX9_drop_X9_isLiteral : GoodIn wsX9_drop wsX9_isLiteral := goodIn_r _ [12, 2, 13, 14, 11, 15, 36, 37, 38, 39, 40, 41, 42, 43, 44, 45, 46, 47, 48, 49, 50, 51, 52, 53, 54, 55, 56, 57, 58, 59, 60, 61, 62, 63, 64, 65, 66, 67, 68, 69, 70, 71, 72, 73, 74, 75, 76, 77, 78, 79, 80, 81, 82, 83] (by decide +kernel) (by decide +kernel)
set_option maxRecDepth 20000 in
theorem gX9_drop_X9_isLiteral : GoodIn wsX9_drop (wsV RX9 156 RX9 yX9_isLiteral wsX9_isLiteral) := goodIn_app (goodIn_of _ (by decide +kernel)) ggX9_drop_X9_isLiteral
set_option maxRecDepth 20000 in
theorem ggX9_drop_X9_layTerms : GoodIn wsX9_drop wsX9_layTerms := goodIn_r _ [19, 20, 21, 22, 23, 24, 2, 25, 26, 27, 11, 28, 6, 7, 29, 30, 31, 13, 14, 15, 32, 33, 34, 35, 36, 37, 38, 39, 40, 41, 42, 43, 44, 45, 46, 47, 48, 49, 50, 51, 52, 53, 54, 55, 56, 57, 58, 59, 60, 61, 62, 63, 64, 65, 66, 67, 68, 69, 70, 71, 72, 73, 74, 75, 76, 77, 78, 79, 80, 81, 82, 83] (by decide +kernel) (by decide +kernel)
set_option maxRecDepth 20000 in
theorem gX9_drop_X9_layTerms : GoodIn wsX9_drop (wsV RX9 74 RX9 yX9_layTerms wsX9_layTerms) := goodIn_app (goodIn_of _ (by decide +kernel)) ggX9_drop_X9_layTerms
theorem dX9_drop_0 : decode cX9_drop 0 = .ok (.aload_n 0, 1) := by decide +kernel
theorem dX9_drop_1 : decode cX9_drop 1 = .ok (.iload_n 1, 1) := by decide +kernel
theorem dX9_drop_2 : decode cX9_drop 2 = .ok (.invokevirtual 156, 3) := by decide +kernel
theorem dX9_drop_5 : decode cX9_drop 5 = .ok (.ifCond .ne 6, 3) := by decide +kernel
theorem dX9_drop_8 : decode cX9_drop 8 = .ok (.ldc 159, 2) := by decide +kernel
theorem dX9_drop_10 : decode cX9_drop 10 = .ok (.ireturn, 1) := by decide +kernel
theorem dX9_drop_11 : decode cX9_drop 11 = .ok (.aload_n 0, 1) := by decide +kernel
theorem dX9_drop_12 : decode cX9_drop 12 = .ok (.dup, 1) := by decide +kernel
theorem dX9_drop_13 : decode cX9_drop 13 = .ok (.getfield 141, 3) := by decide +kernel
theorem dX9_drop_16 : decode cX9_drop 16 = .ok (.iconst 1, 1) := by decide +kernel
theorem dX9_drop_17 : decode cX9_drop 17 = .ok (.isub, 1) := by decide +kernel
theorem dX9_drop_18 : decode cX9_drop 18 = .ok (.putfield 141, 3) := by decide +kernel
theorem dX9_drop_21 : decode cX9_drop 21 = .ok (.aload_n 0, 1) := by decide +kernel
theorem dX9_drop_22 : decode cX9_drop 22 = .ok (.dup, 1) := by decide +kernel
theorem dX9_drop_23 : decode cX9_drop 23 = .ok (.getfield 160, 3) := by decide +kernel
theorem dX9_drop_26 : decode cX9_drop 26 = .ok (.iconst 1, 1) := by decide +kernel
theorem dX9_drop_27 : decode cX9_drop 27 = .ok (.iadd, 1) := by decide +kernel
theorem dX9_drop_28 : decode cX9_drop 28 = .ok (.putfield 160, 3) := by decide +kernel
theorem dX9_drop_31 : decode cX9_drop 31 = .ok (.iload_n 1, 1) := by decide +kernel
theorem dX9_drop_32 : decode cX9_drop 32 = .ok (.istore_n 2, 1) := by decide +kernel
theorem dX9_drop_33 : decode cX9_drop 33 = .ok (.iload_n 2, 1) := by decide +kernel
theorem dX9_drop_34 : decode cX9_drop 34 = .ok (.aload_n 0, 1) := by decide +kernel
theorem dX9_drop_35 : decode cX9_drop 35 = .ok (.getfield 141, 3) := by decide +kernel
theorem dX9_drop_38 : decode cX9_drop 38 = .ok (.if_icmp .ge 90, 3) := by decide +kernel
theorem dX9_drop_41 : decode cX9_drop 41 = .ok (.aload_n 0, 1) := by decide +kernel
theorem dX9_drop_42 : decode cX9_drop 42 = .ok (.getfield 19, 3) := by decide +kernel
theorem dX9_drop_45 : decode cX9_drop 45 = .ok (.iload_n 2, 1) := by decide +kernel
theorem dX9_drop_46 : decode cX9_drop 46 = .ok (.aload_n 0, 1) := by decide +kernel
theorem dX9_drop_47 : decode cX9_drop 47 = .ok (.getfield 19, 3) := by decide +kernel
theorem dX9_drop_50 : decode cX9_drop 50 = .ok (.iload_n 2, 1) := by decide +kernel
theorem dX9_drop_51 : decode cX9_drop 51 = .ok (.iconst 1, 1) := by decide +kernel
theorem dX9_drop_52 : decode cX9_drop 52 = .ok (.iadd, 1) := by decide +kernel
theorem dX9_drop_53 : decode cX9_drop 53 = .ok (.iaload, 1) := by decide +kernel
theorem dX9_drop_54 : decode cX9_drop 54 = .ok (.iastore, 1) := by decide +kernel
theorem dX9_drop_55 : decode cX9_drop 55 = .ok (.aload_n 0, 1) := by decide +kernel
theorem dX9_drop_56 : decode cX9_drop 56 = .ok (.getfield 22, 3) := by decide +kernel
theorem dX9_drop_59 : decode cX9_drop 59 = .ok (.iload_n 2, 1) := by decide +kernel
theorem dX9_drop_60 : decode cX9_drop 60 = .ok (.aload_n 0, 1) := by decide +kernel
theorem dX9_drop_61 : decode cX9_drop 61 = .ok (.getfield 22, 3) := by decide +kernel
theorem dX9_drop_64 : decode cX9_drop 64 = .ok (.iload_n 2, 1) := by decide +kernel
theorem dX9_drop_65 : decode cX9_drop 65 = .ok (.iconst 1, 1) := by decide +kernel
theorem dX9_drop_66 : decode cX9_drop 66 = .ok (.iadd, 1) := by decide +kernel
theorem dX9_drop_67 : decode cX9_drop 67 = .ok (.iaload, 1) := by decide +kernel
theorem dX9_drop_68 : decode cX9_drop 68 = .ok (.iastore, 1) := by decide +kernel
theorem dX9_drop_69 : decode cX9_drop 69 = .ok (.aload_n 0, 1) := by decide +kernel
theorem dX9_drop_70 : decode cX9_drop 70 = .ok (.getfield 16, 3) := by decide +kernel
theorem dX9_drop_73 : decode cX9_drop 73 = .ok (.iload_n 2, 1) := by decide +kernel
theorem dX9_drop_74 : decode cX9_drop 74 = .ok (.aload_n 0, 1) := by decide +kernel
theorem dX9_drop_75 : decode cX9_drop 75 = .ok (.getfield 16, 3) := by decide +kernel
theorem dX9_drop_78 : decode cX9_drop 78 = .ok (.iload_n 2, 1) := by decide +kernel
theorem dX9_drop_79 : decode cX9_drop 79 = .ok (.iconst 1, 1) := by decide +kernel
theorem dX9_drop_80 : decode cX9_drop 80 = .ok (.iadd, 1) := by decide +kernel
theorem dX9_drop_81 : decode cX9_drop 81 = .ok (.iaload, 1) := by decide +kernel
theorem dX9_drop_82 : decode cX9_drop 82 = .ok (.iastore, 1) := by decide +kernel
theorem dX9_drop_83 : decode cX9_drop 83 = .ok (.iconst 0, 1) := by decide +kernel
theorem dX9_drop_84 : decode cX9_drop 84 = .ok (.istore_n 3, 1) := by decide +kernel
theorem dX9_drop_85 : decode cX9_drop 85 = .ok (.iload_n 3, 1) := by decide +kernel
theorem dX9_drop_86 : decode cX9_drop 86 = .ok (.bipush 40, 2) := by decide +kernel
theorem dX9_drop_88 : decode cX9_drop 88 = .ok (.if_icmp .ge 34, 3) := by decide +kernel
theorem dX9_drop_91 : decode cX9_drop 91 = .ok (.aload_n 0, 1) := by decide +kernel
theorem dX9_drop_92 : decode cX9_drop 92 = .ok (.getfield 13, 3) := by decide +kernel
theorem dX9_drop_95 : decode cX9_drop 95 = .ok (.bipush 40, 2) := by decide +kernel
theorem dX9_drop_97 : decode cX9_drop 97 = .ok (.iload_n 2, 1) := by decide +kernel
theorem dX9_drop_98 : decode cX9_drop 98 = .ok (.imul, 1) := by decide +kernel
theorem dX9_drop_99 : decode cX9_drop 99 = .ok (.iload_n 3, 1) := by decide +kernel
theorem dX9_drop_100 : decode cX9_drop 100 = .ok (.iadd, 1) := by decide +kernel
theorem dX9_drop_101 : decode cX9_drop 101 = .ok (.aload_n 0, 1) := by decide +kernel
theorem dX9_drop_102 : decode cX9_drop 102 = .ok (.getfield 13, 3) := by decide +kernel
theorem dX9_drop_105 : decode cX9_drop 105 = .ok (.bipush 40, 2) := by decide +kernel
theorem dX9_drop_107 : decode cX9_drop 107 = .ok (.iload_n 2, 1) := by decide +kernel
theorem dX9_drop_108 : decode cX9_drop 108 = .ok (.imul, 1) := by decide +kernel
theorem dX9_drop_109 : decode cX9_drop 109 = .ok (.bipush 40, 2) := by decide +kernel
theorem dX9_drop_111 : decode cX9_drop 111 = .ok (.iadd, 1) := by decide +kernel
theorem dX9_drop_112 : decode cX9_drop 112 = .ok (.iload_n 3, 1) := by decide +kernel
theorem dX9_drop_113 : decode cX9_drop 113 = .ok (.iadd, 1) := by decide +kernel
theorem dX9_drop_114 : decode cX9_drop 114 = .ok (.iaload, 1) := by decide +kernel
theorem dX9_drop_115 : decode cX9_drop 115 = .ok (.iastore, 1) := by decide +kernel
theorem dX9_drop_116 : decode cX9_drop 116 = .ok (.iinc 3 1, 3) := by decide +kernel
theorem dX9_drop_119 : decode cX9_drop 119 = .ok (.goto (-34), 3) := by decide +kernel
theorem dX9_drop_122 : decode cX9_drop 122 = .ok (.iinc 2 1, 3) := by decide +kernel
theorem dX9_drop_125 : decode cX9_drop 125 = .ok (.goto (-92), 3) := by decide +kernel
theorem dX9_drop_128 : decode cX9_drop 128 = .ok (.aload_n 0, 1) := by decide +kernel
theorem dX9_drop_129 : decode cX9_drop 129 = .ok (.invokevirtual 74, 3) := by decide +kernel
theorem dX9_drop_132 : decode cX9_drop 132 = .ok (.aload_n 0, 1) := by decide +kernel
theorem dX9_drop_133 : decode cX9_drop 133 = .ok (.getfield 141, 3) := by decide +kernel
theorem dX9_drop_136 : decode cX9_drop 136 = .ok (.ireturn, 1) := by decide +kernel
set_option maxRecDepth 20000 in
theorem ggX9_scale_X9_within : GoodIn wsX9_scale wsX9_within := goodIn_r _ [10] (by decide +kernel) (by decide +kernel)
set_option maxRecDepth 20000 in
theorem gX9_scale_X9_within : GoodIn wsX9_scale (va_wsS RX9 77 yX9_within wsX9_within) := goodIn_app (goodIn_of _ (by decide +kernel)) ggX9_scale_X9_within
theorem dX9_scale_0 : decode cX9_scale 0 = .ok (.iload_n 1, 1) := by decide +kernel
theorem dX9_scale_1 : decode cX9_scale 1 = .ok (.sipush (-1000), 3) := by decide +kernel
theorem dX9_scale_4 : decode cX9_scale 4 = .ok (.sipush 1000, 3) := by decide +kernel
theorem dX9_scale_7 : decode cX9_scale 7 = .ok (.invokestatic 77, 3) := by decide +kernel
theorem dX9_scale_10 : decode cX9_scale 10 = .ok (.ifCond .ne 6, 3) := by decide +kernel
theorem dX9_scale_13 : decode cX9_scale 13 = .ok (.ldc 81, 2) := by decide +kernel
theorem dX9_scale_15 : decode cX9_scale 15 = .ok (.ireturn, 1) := by decide +kernel
theorem dX9_scale_16 : decode cX9_scale 16 = .ok (.iconst 0, 1) := by decide +kernel
theorem dX9_scale_17 : decode cX9_scale 17 = .ok (.istore_n 2, 1) := by decide +kernel
theorem dX9_scale_18 : decode cX9_scale 18 = .ok (.iconst 0, 1) := by decide +kernel
theorem dX9_scale_19 : decode cX9_scale 19 = .ok (.istore_n 3, 1) := by decide +kernel
theorem dX9_scale_20 : decode cX9_scale 20 = .ok (.iload_n 3, 1) := by decide +kernel
theorem dX9_scale_21 : decode cX9_scale 21 = .ok (.aload_n 0, 1) := by decide +kernel
theorem dX9_scale_22 : decode cX9_scale 22 = .ok (.getfield 141, 3) := by decide +kernel
theorem dX9_scale_25 : decode cX9_scale 25 = .ok (.if_icmp .ge 63, 3) := by decide +kernel
theorem dX9_scale_28 : decode cX9_scale 28 = .ok (.aload_n 0, 1) := by decide +kernel
theorem dX9_scale_29 : decode cX9_scale 29 = .ok (.getfield 22, 3) := by decide +kernel
theorem dX9_scale_32 : decode cX9_scale 32 = .ok (.iload_n 3, 1) := by decide +kernel
theorem dX9_scale_33 : decode cX9_scale 33 = .ok (.iaload, 1) := by decide +kernel
theorem dX9_scale_34 : decode cX9_scale 34 = .ok (.i2l, 1) := by decide +kernel
theorem dX9_scale_35 : decode cX9_scale 35 = .ok (.iload_n 1, 1) := by decide +kernel
theorem dX9_scale_36 : decode cX9_scale 36 = .ok (.i2l, 1) := by decide +kernel
theorem dX9_scale_37 : decode cX9_scale 37 = .ok (.lmul, 1) := by decide +kernel
theorem dX9_scale_38 : decode cX9_scale 38 = .ok (.lstore 4, 2) := by decide +kernel
theorem dX9_scale_40 : decode cX9_scale 40 = .ok (.lload 4, 2) := by decide +kernel
theorem dX9_scale_42 : decode cX9_scale 42 = .ok (.ldc2_w 163, 3) := by decide +kernel
theorem dX9_scale_45 : decode cX9_scale 45 = .ok (.lcmp, 1) := by decide +kernel
theorem dX9_scale_46 : decode cX9_scale 46 = .ok (.ifCond .gt 12, 3) := by decide +kernel
theorem dX9_scale_49 : decode cX9_scale 49 = .ok (.lload 4, 2) := by decide +kernel
theorem dX9_scale_51 : decode cX9_scale 51 = .ok (.ldc2_w 165, 3) := by decide +kernel
theorem dX9_scale_54 : decode cX9_scale 54 = .ok (.lcmp, 1) := by decide +kernel
theorem dX9_scale_55 : decode cX9_scale 55 = .ok (.ifCond .ge 6, 3) := by decide +kernel
theorem dX9_scale_58 : decode cX9_scale 58 = .ok (.ldc 167, 2) := by decide +kernel
theorem dX9_scale_60 : decode cX9_scale 60 = .ok (.ireturn, 1) := by decide +kernel
theorem dX9_scale_61 : decode cX9_scale 61 = .ok (.iload_n 2, 1) := by decide +kernel
theorem dX9_scale_62 : decode cX9_scale 62 = .ok (.lload 4, 2) := by decide +kernel
theorem dX9_scale_64 : decode cX9_scale 64 = .ok (.aload_n 0, 1) := by decide +kernel
theorem dX9_scale_65 : decode cX9_scale 65 = .ok (.getfield 22, 3) := by decide +kernel
theorem dX9_scale_68 : decode cX9_scale 68 = .ok (.iload_n 3, 1) := by decide +kernel
theorem dX9_scale_69 : decode cX9_scale 69 = .ok (.iaload, 1) := by decide +kernel
theorem dX9_scale_70 : decode cX9_scale 70 = .ok (.i2l, 1) := by decide +kernel
theorem dX9_scale_71 : decode cX9_scale 71 = .ok (.lcmp, 1) := by decide +kernel
theorem dX9_scale_72 : decode cX9_scale 72 = .ok (.ifCond .eq 7, 3) := by decide +kernel
theorem dX9_scale_75 : decode cX9_scale 75 = .ok (.iconst 1, 1) := by decide +kernel
theorem dX9_scale_76 : decode cX9_scale 76 = .ok (.goto 4, 3) := by decide +kernel
theorem dX9_scale_79 : decode cX9_scale 79 = .ok (.iconst 0, 1) := by decide +kernel
theorem dX9_scale_80 : decode cX9_scale 80 = .ok (.iadd, 1) := by decide +kernel
theorem dX9_scale_81 : decode cX9_scale 81 = .ok (.istore_n 2, 1) := by decide +kernel
theorem dX9_scale_82 : decode cX9_scale 82 = .ok (.iinc 3 1, 3) := by decide +kernel
theorem dX9_scale_85 : decode cX9_scale 85 = .ok (.goto (-65), 3) := by decide +kernel
theorem dX9_scale_88 : decode cX9_scale 88 = .ok (.iconst 0, 1) := by decide +kernel
theorem dX9_scale_89 : decode cX9_scale 89 = .ok (.istore_n 3, 1) := by decide +kernel
theorem dX9_scale_90 : decode cX9_scale 90 = .ok (.iload_n 3, 1) := by decide +kernel
theorem dX9_scale_91 : decode cX9_scale 91 = .ok (.aload_n 0, 1) := by decide +kernel
theorem dX9_scale_92 : decode cX9_scale 92 = .ok (.getfield 141, 3) := by decide +kernel
theorem dX9_scale_95 : decode cX9_scale 95 = .ok (.if_icmp .ge 19, 3) := by decide +kernel
theorem dX9_scale_98 : decode cX9_scale 98 = .ok (.aload_n 0, 1) := by decide +kernel
theorem dX9_scale_99 : decode cX9_scale 99 = .ok (.getfield 22, 3) := by decide +kernel
theorem dX9_scale_102 : decode cX9_scale 102 = .ok (.iload_n 3, 1) := by decide +kernel
theorem dX9_scale_103 : decode cX9_scale 103 = .ok (.dup2, 1) := by decide +kernel
theorem dX9_scale_104 : decode cX9_scale 104 = .ok (.iaload, 1) := by decide +kernel
theorem dX9_scale_105 : decode cX9_scale 105 = .ok (.iload_n 1, 1) := by decide +kernel
theorem dX9_scale_106 : decode cX9_scale 106 = .ok (.imul, 1) := by decide +kernel
theorem dX9_scale_107 : decode cX9_scale 107 = .ok (.iastore, 1) := by decide +kernel
theorem dX9_scale_108 : decode cX9_scale 108 = .ok (.iinc 3 1, 3) := by decide +kernel
theorem dX9_scale_111 : decode cX9_scale 111 = .ok (.goto (-21), 3) := by decide +kernel
theorem dX9_scale_114 : decode cX9_scale 114 = .ok (.iload_n 2, 1) := by decide +kernel
theorem dX9_scale_115 : decode cX9_scale 115 = .ok (.ireturn, 1) := by decide +kernel
theorem dX9_join_0 : decode cX9_join 0 = .ok (.aload_n 0, 1) := by decide +kernel
theorem dX9_join_1 : decode cX9_join 1 = .ok (.getfield 46, 3) := by decide +kernel
theorem dX9_join_4 : decode cX9_join 4 = .ok (.iload_n 1, 1) := by decide +kernel
theorem dX9_join_5 : decode cX9_join 5 = .ok (.iaload, 1) := by decide +kernel
theorem dX9_join_6 : decode cX9_join 6 = .ok (.aload_n 0, 1) := by decide +kernel
theorem dX9_join_7 : decode cX9_join 7 = .ok (.getfield 46, 3) := by decide +kernel
theorem dX9_join_10 : decode cX9_join 10 = .ok (.iload_n 2, 1) := by decide +kernel
theorem dX9_join_11 : decode cX9_join 11 = .ok (.iaload, 1) := by decide +kernel
theorem dX9_join_12 : decode cX9_join 12 = .ok (.if_icmp .ge 12, 3) := by decide +kernel
theorem dX9_join_15 : decode cX9_join 15 = .ok (.aload_n 0, 1) := by decide +kernel
theorem dX9_join_16 : decode cX9_join 16 = .ok (.getfield 46, 3) := by decide +kernel
theorem dX9_join_19 : decode cX9_join 19 = .ok (.iload_n 1, 1) := by decide +kernel
theorem dX9_join_20 : decode cX9_join 20 = .ok (.iaload, 1) := by decide +kernel
theorem dX9_join_21 : decode cX9_join 21 = .ok (.goto 9, 3) := by decide +kernel
theorem dX9_join_24 : decode cX9_join 24 = .ok (.aload_n 0, 1) := by decide +kernel
theorem dX9_join_25 : decode cX9_join 25 = .ok (.getfield 46, 3) := by decide +kernel
theorem dX9_join_28 : decode cX9_join 28 = .ok (.iload_n 2, 1) := by decide +kernel
theorem dX9_join_29 : decode cX9_join 29 = .ok (.iaload, 1) := by decide +kernel
theorem dX9_join_30 : decode cX9_join 30 = .ok (.istore_n 3, 1) := by decide +kernel
theorem dX9_join_31 : decode cX9_join 31 = .ok (.aload_n 0, 1) := by decide +kernel
theorem dX9_join_32 : decode cX9_join 32 = .ok (.getfield 46, 3) := by decide +kernel
theorem dX9_join_35 : decode cX9_join 35 = .ok (.iload_n 1, 1) := by decide +kernel
theorem dX9_join_36 : decode cX9_join 36 = .ok (.iaload, 1) := by decide +kernel
theorem dX9_join_37 : decode cX9_join 37 = .ok (.aload_n 0, 1) := by decide +kernel
theorem dX9_join_38 : decode cX9_join 38 = .ok (.getfield 46, 3) := by decide +kernel
theorem dX9_join_41 : decode cX9_join 41 = .ok (.iload_n 2, 1) := by decide +kernel
theorem dX9_join_42 : decode cX9_join 42 = .ok (.iaload, 1) := by decide +kernel
theorem dX9_join_43 : decode cX9_join 43 = .ok (.if_icmp .ge 12, 3) := by decide +kernel
theorem dX9_join_46 : decode cX9_join 46 = .ok (.aload_n 0, 1) := by decide +kernel
theorem dX9_join_47 : decode cX9_join 47 = .ok (.getfield 46, 3) := by decide +kernel
theorem dX9_join_50 : decode cX9_join 50 = .ok (.iload_n 2, 1) := by decide +kernel
theorem dX9_join_51 : decode cX9_join 51 = .ok (.iaload, 1) := by decide +kernel
theorem dX9_join_52 : decode cX9_join 52 = .ok (.goto 9, 3) := by decide +kernel
theorem dX9_join_55 : decode cX9_join 55 = .ok (.aload_n 0, 1) := by decide +kernel
theorem dX9_join_56 : decode cX9_join 56 = .ok (.getfield 46, 3) := by decide +kernel
theorem dX9_join_59 : decode cX9_join 59 = .ok (.iload_n 1, 1) := by decide +kernel
theorem dX9_join_60 : decode cX9_join 60 = .ok (.iaload, 1) := by decide +kernel
theorem dX9_join_61 : decode cX9_join 61 = .ok (.istore 4, 2) := by decide +kernel
theorem dX9_join_63 : decode cX9_join 63 = .ok (.iconst 0, 1) := by decide +kernel
theorem dX9_join_64 : decode cX9_join 64 = .ok (.istore 5, 2) := by decide +kernel
theorem dX9_join_66 : decode cX9_join 66 = .ok (.iload 5, 2) := by decide +kernel
theorem dX9_join_68 : decode cX9_join 68 = .ok (.aload_n 0, 1) := by decide +kernel
theorem dX9_join_69 : decode cX9_join 69 = .ok (.getfield 133, 3) := by decide +kernel
theorem dX9_join_72 : decode cX9_join 72 = .ok (.if_icmp .ge 39, 3) := by decide +kernel
theorem dX9_join_75 : decode cX9_join 75 = .ok (.aload_n 0, 1) := by decide +kernel
theorem dX9_join_76 : decode cX9_join 76 = .ok (.getfield 46, 3) := by decide +kernel
theorem dX9_join_79 : decode cX9_join 79 = .ok (.iload 5, 2) := by decide +kernel
theorem dX9_join_81 : decode cX9_join 81 = .ok (.aload_n 0, 1) := by decide +kernel
theorem dX9_join_82 : decode cX9_join 82 = .ok (.getfield 46, 3) := by decide +kernel
theorem dX9_join_85 : decode cX9_join 85 = .ok (.iload 5, 2) := by decide +kernel
theorem dX9_join_87 : decode cX9_join 87 = .ok (.iaload, 1) := by decide +kernel
theorem dX9_join_88 : decode cX9_join 88 = .ok (.iload 4, 2) := by decide +kernel
theorem dX9_join_90 : decode cX9_join 90 = .ok (.if_icmp .ne 7, 3) := by decide +kernel
theorem dX9_join_93 : decode cX9_join 93 = .ok (.iload_n 3, 1) := by decide +kernel
theorem dX9_join_94 : decode cX9_join 94 = .ok (.goto 10, 3) := by decide +kernel
theorem dX9_join_97 : decode cX9_join 97 = .ok (.aload_n 0, 1) := by decide +kernel
theorem dX9_join_98 : decode cX9_join 98 = .ok (.getfield 46, 3) := by decide +kernel
theorem dX9_join_101 : decode cX9_join 101 = .ok (.iload 5, 2) := by decide +kernel
theorem dX9_join_103 : decode cX9_join 103 = .ok (.iaload, 1) := by decide +kernel
theorem dX9_join_104 : decode cX9_join 104 = .ok (.iastore, 1) := by decide +kernel
theorem dX9_join_105 : decode cX9_join 105 = .ok (.iinc 5 1, 3) := by decide +kernel
theorem dX9_join_108 : decode cX9_join 108 = .ok (.goto (-42), 3) := by decide +kernel
theorem dX9_join_111 : decode cX9_join 111 = .ok (.return_, 1) := by decide +kernel
theorem dX9_areAlike_0 : decode cX9_areAlike 0 = .ok (.aload_n 0, 1) := by decide +kernel
theorem dX9_areAlike_1 : decode cX9_areAlike 1 = .ok (.getfield 28, 3) := by decide +kernel
theorem dX9_areAlike_4 : decode cX9_areAlike 4 = .ok (.iload_n 1, 1) := by decide +kernel
theorem dX9_areAlike_5 : decode cX9_areAlike 5 = .ok (.iaload, 1) := by decide +kernel
theorem dX9_areAlike_6 : decode cX9_areAlike 6 = .ok (.ifCond .le 47, 3) := by decide +kernel
theorem dX9_areAlike_9 : decode cX9_areAlike 9 = .ok (.aload_n 0, 1) := by decide +kernel
theorem dX9_areAlike_10 : decode cX9_areAlike 10 = .ok (.getfield 28, 3) := by decide +kernel
theorem dX9_areAlike_13 : decode cX9_areAlike 13 = .ok (.iload_n 1, 1) := by decide +kernel
theorem dX9_areAlike_14 : decode cX9_areAlike 14 = .ok (.iaload, 1) := by decide +kernel
theorem dX9_areAlike_15 : decode cX9_areAlike 15 = .ok (.aload_n 0, 1) := by decide +kernel
theorem dX9_areAlike_16 : decode cX9_areAlike 16 = .ok (.getfield 28, 3) := by decide +kernel
theorem dX9_areAlike_19 : decode cX9_areAlike 19 = .ok (.iload_n 2, 1) := by decide +kernel
theorem dX9_areAlike_20 : decode cX9_areAlike 20 = .ok (.iaload, 1) := by decide +kernel
theorem dX9_areAlike_21 : decode cX9_areAlike 21 = .ok (.if_icmp .ne 32, 3) := by decide +kernel
theorem dX9_areAlike_24 : decode cX9_areAlike 24 = .ok (.aload_n 0, 1) := by decide +kernel
theorem dX9_areAlike_25 : decode cX9_areAlike 25 = .ok (.getfield 46, 3) := by decide +kernel
theorem dX9_areAlike_28 : decode cX9_areAlike 28 = .ok (.aload_n 0, 1) := by decide +kernel
theorem dX9_areAlike_29 : decode cX9_areAlike 29 = .ok (.getfield 31, 3) := by decide +kernel
theorem dX9_areAlike_32 : decode cX9_areAlike 32 = .ok (.iload_n 1, 1) := by decide +kernel
theorem dX9_areAlike_33 : decode cX9_areAlike 33 = .ok (.iaload, 1) := by decide +kernel
theorem dX9_areAlike_34 : decode cX9_areAlike 34 = .ok (.iaload, 1) := by decide +kernel
theorem dX9_areAlike_35 : decode cX9_areAlike 35 = .ok (.aload_n 0, 1) := by decide +kernel
theorem dX9_areAlike_36 : decode cX9_areAlike 36 = .ok (.getfield 46, 3) := by decide +kernel
theorem dX9_areAlike_39 : decode cX9_areAlike 39 = .ok (.aload_n 0, 1) := by decide +kernel
theorem dX9_areAlike_40 : decode cX9_areAlike 40 = .ok (.getfield 31, 3) := by decide +kernel
theorem dX9_areAlike_43 : decode cX9_areAlike 43 = .ok (.iload_n 2, 1) := by decide +kernel
theorem dX9_areAlike_44 : decode cX9_areAlike 44 = .ok (.iaload, 1) := by decide +kernel
theorem dX9_areAlike_45 : decode cX9_areAlike 45 = .ok (.iaload, 1) := by decide +kernel
theorem dX9_areAlike_46 : decode cX9_areAlike 46 = .ok (.if_icmp .ne 7, 3) := by decide +kernel
theorem dX9_areAlike_49 : decode cX9_areAlike 49 = .ok (.iconst 1, 1) := by decide +kernel
theorem dX9_areAlike_50 : decode cX9_areAlike 50 = .ok (.goto 4, 3) := by decide +kernel
theorem dX9_areAlike_53 : decode cX9_areAlike 53 = .ok (.iconst 0, 1) := by decide +kernel
theorem dX9_areAlike_54 : decode cX9_areAlike 54 = .ok (.istore_n 3, 1) := by decide +kernel
theorem dX9_areAlike_55 : decode cX9_areAlike 55 = .ok (.iload_n 3, 1) := by decide +kernel
theorem dX9_areAlike_56 : decode cX9_areAlike 56 = .ok (.ifCond .eq 42, 3) := by decide +kernel
theorem dX9_areAlike_59 : decode cX9_areAlike 59 = .ok (.aload_n 0, 1) := by decide +kernel
theorem dX9_areAlike_60 : decode cX9_areAlike 60 = .ok (.getfield 28, 3) := by decide +kernel
theorem dX9_areAlike_63 : decode cX9_areAlike 63 = .ok (.iload_n 1, 1) := by decide +kernel
theorem dX9_areAlike_64 : decode cX9_areAlike 64 = .ok (.iaload, 1) := by decide +kernel
theorem dX9_areAlike_65 : decode cX9_areAlike 65 = .ok (.iconst 1, 1) := by decide +kernel
theorem dX9_areAlike_66 : decode cX9_areAlike 66 = .ok (.if_icmp .eq 28, 3) := by decide +kernel
theorem dX9_areAlike_69 : decode cX9_areAlike 69 = .ok (.aload_n 0, 1) := by decide +kernel
theorem dX9_areAlike_70 : decode cX9_areAlike 70 = .ok (.getfield 46, 3) := by decide +kernel
theorem dX9_areAlike_73 : decode cX9_areAlike 73 = .ok (.aload_n 0, 1) := by decide +kernel
theorem dX9_areAlike_74 : decode cX9_areAlike 74 = .ok (.getfield 34, 3) := by decide +kernel
theorem dX9_areAlike_77 : decode cX9_areAlike 77 = .ok (.iload_n 1, 1) := by decide +kernel
theorem dX9_areAlike_78 : decode cX9_areAlike 78 = .ok (.iaload, 1) := by decide +kernel
theorem dX9_areAlike_79 : decode cX9_areAlike 79 = .ok (.iaload, 1) := by decide +kernel
theorem dX9_areAlike_80 : decode cX9_areAlike 80 = .ok (.aload_n 0, 1) := by decide +kernel
theorem dX9_areAlike_81 : decode cX9_areAlike 81 = .ok (.getfield 46, 3) := by decide +kernel
theorem dX9_areAlike_84 : decode cX9_areAlike 84 = .ok (.aload_n 0, 1) := by decide +kernel
theorem dX9_areAlike_85 : decode cX9_areAlike 85 = .ok (.getfield 34, 3) := by decide +kernel
theorem dX9_areAlike_88 : decode cX9_areAlike 88 = .ok (.iload_n 2, 1) := by decide +kernel
theorem dX9_areAlike_89 : decode cX9_areAlike 89 = .ok (.iaload, 1) := by decide +kernel
theorem dX9_areAlike_90 : decode cX9_areAlike 90 = .ok (.iaload, 1) := by decide +kernel
theorem dX9_areAlike_91 : decode cX9_areAlike 91 = .ok (.if_icmp .ne 7, 3) := by decide +kernel
theorem dX9_areAlike_94 : decode cX9_areAlike 94 = .ok (.iconst 1, 1) := by decide +kernel
theorem dX9_areAlike_95 : decode cX9_areAlike 95 = .ok (.goto 4, 3) := by decide +kernel
theorem dX9_areAlike_98 : decode cX9_areAlike 98 = .ok (.iconst 0, 1) := by decide +kernel
theorem dX9_areAlike_99 : decode cX9_areAlike 99 = .ok (.ireturn, 1) := by decide +kernel
set_option maxRecDepth 20000 in
theorem ggX9_growSame_X9_areAlike : GoodIn wsX9_growSame wsX9_areAlike := goodIn_r _ [7, 8, 2, 9, 10, 15, 16, 17, 18, 19, 20, 21, 22, 23, 24, 25, 26, 27, 28, 29, 30, 31, 32, 33, 34, 35, 36, 37, 38, 39, 40, 41, 42, 43, 44, 45, 46, 47, 48, 49, 50, 51, 52, 53, 54, 55, 56, 57, 58, 59, 60, 61, 62] (by decide +kernel) (by decide +kernel)
set_option maxRecDepth 20000 in
theorem gX9_growSame_X9_areAlike : GoodIn wsX9_growSame (wsV RX9 168 RX9 yX9_areAlike wsX9_areAlike) := goodIn_app (goodIn_of _ (by decide +kernel)) ggX9_growSame_X9_areAlike
set_option maxRecDepth 20000 in
theorem ggX9_growSame_X9_join : GoodIn wsX9_growSame wsX9_join := goodIn_r _ [14, 2, 1, 15, 16, 17, 18, 19, 20, 21, 22, 23, 24, 25, 26, 27, 28, 29, 30, 31, 32, 33, 34, 35, 36, 37, 38, 39, 40, 41, 42, 43, 44, 45, 46, 47, 48, 49, 50, 51, 52, 53, 54, 55, 56, 57, 58, 59, 60, 61, 62] (by decide +kernel) (by decide +kernel)
set_option maxRecDepth 20000 in
theorem gX9_growSame_X9_join : GoodIn wsX9_growSame (wsV RX9 172 RX9 yX9_join wsX9_join) := goodIn_app (goodIn_of _ (by decide +kernel)) ggX9_growSame_X9_join
theorem dX9_growSame_0 : decode cX9_growSame 0 = .ok (.iconst 1, 1) := by decide +kernel
theorem dX9_growSame_1 : decode cX9_growSame 1 = .ok (.istore_n 1, 1) := by decide +kernel
theorem dX9_growSame_2 : decode cX9_growSame 2 = .ok (.iload_n 1, 1) := by decide +kernel
theorem dX9_growSame_3 : decode cX9_growSame 3 = .ok (.ifCond .eq 69, 3) := by decide +kernel
theorem dX9_growSame_6 : decode cX9_growSame 6 = .ok (.iconst 0, 1) := by decide +kernel
theorem dX9_growSame_7 : decode cX9_growSame 7 = .ok (.istore_n 1, 1) := by decide +kernel
theorem dX9_growSame_8 : decode cX9_growSame 8 = .ok (.iconst 5, 1) := by decide +kernel
theorem dX9_growSame_9 : decode cX9_growSame 9 = .ok (.istore_n 2, 1) := by decide +kernel
theorem dX9_growSame_10 : decode cX9_growSame 10 = .ok (.iload_n 2, 1) := by decide +kernel
theorem dX9_growSame_11 : decode cX9_growSame 11 = .ok (.aload_n 0, 1) := by decide +kernel
theorem dX9_growSame_12 : decode cX9_growSame 12 = .ok (.getfield 133, 3) := by decide +kernel
theorem dX9_growSame_15 : decode cX9_growSame 15 = .ok (.if_icmp .ge 54, 3) := by decide +kernel
theorem dX9_growSame_18 : decode cX9_growSame 18 = .ok (.iconst 5, 1) := by decide +kernel
theorem dX9_growSame_19 : decode cX9_growSame 19 = .ok (.istore_n 3, 1) := by decide +kernel
theorem dX9_growSame_20 : decode cX9_growSame 20 = .ok (.iload_n 3, 1) := by decide +kernel
theorem dX9_growSame_21 : decode cX9_growSame 21 = .ok (.iload_n 2, 1) := by decide +kernel
theorem dX9_growSame_22 : decode cX9_growSame 22 = .ok (.if_icmp .ge 41, 3) := by decide +kernel
theorem dX9_growSame_25 : decode cX9_growSame 25 = .ok (.aload_n 0, 1) := by decide +kernel
theorem dX9_growSame_26 : decode cX9_growSame 26 = .ok (.getfield 46, 3) := by decide +kernel
theorem dX9_growSame_29 : decode cX9_growSame 29 = .ok (.iload_n 2, 1) := by decide +kernel
theorem dX9_growSame_30 : decode cX9_growSame 30 = .ok (.iaload, 1) := by decide +kernel
theorem dX9_growSame_31 : decode cX9_growSame 31 = .ok (.aload_n 0, 1) := by decide +kernel
theorem dX9_growSame_32 : decode cX9_growSame 32 = .ok (.getfield 46, 3) := by decide +kernel
theorem dX9_growSame_35 : decode cX9_growSame 35 = .ok (.iload_n 3, 1) := by decide +kernel
theorem dX9_growSame_36 : decode cX9_growSame 36 = .ok (.iaload, 1) := by decide +kernel
theorem dX9_growSame_37 : decode cX9_growSame 37 = .ok (.if_icmp .eq 20, 3) := by decide +kernel
theorem dX9_growSame_40 : decode cX9_growSame 40 = .ok (.aload_n 0, 1) := by decide +kernel
theorem dX9_growSame_41 : decode cX9_growSame 41 = .ok (.iload_n 2, 1) := by decide +kernel
theorem dX9_growSame_42 : decode cX9_growSame 42 = .ok (.iload_n 3, 1) := by decide +kernel
theorem dX9_growSame_43 : decode cX9_growSame 43 = .ok (.invokevirtual 168, 3) := by decide +kernel
theorem dX9_growSame_46 : decode cX9_growSame 46 = .ok (.ifCond .eq 11, 3) := by decide +kernel
theorem dX9_growSame_49 : decode cX9_growSame 49 = .ok (.aload_n 0, 1) := by decide +kernel
theorem dX9_growSame_50 : decode cX9_growSame 50 = .ok (.iload_n 2, 1) := by decide +kernel
theorem dX9_growSame_51 : decode cX9_growSame 51 = .ok (.iload_n 3, 1) := by decide +kernel
theorem dX9_growSame_52 : decode cX9_growSame 52 = .ok (.invokevirtual 172, 3) := by decide +kernel
theorem dX9_growSame_55 : decode cX9_growSame 55 = .ok (.iconst 1, 1) := by decide +kernel
theorem dX9_growSame_56 : decode cX9_growSame 56 = .ok (.istore_n 1, 1) := by decide +kernel
theorem dX9_growSame_57 : decode cX9_growSame 57 = .ok (.iinc 3 1, 3) := by decide +kernel
theorem dX9_growSame_60 : decode cX9_growSame 60 = .ok (.goto (-40), 3) := by decide +kernel
theorem dX9_growSame_63 : decode cX9_growSame 63 = .ok (.iinc 2 1, 3) := by decide +kernel
theorem dX9_growSame_66 : decode cX9_growSame 66 = .ok (.goto (-56), 3) := by decide +kernel
theorem dX9_growSame_69 : decode cX9_growSame 69 = .ok (.goto (-67), 3) := by decide +kernel
theorem dX9_growSame_72 : decode cX9_growSame 72 = .ok (.return_, 1) := by decide +kernel
theorem dX9_least_0 : decode cX9_least 0 = .ok (.lload_n 0, 1) := by decide +kernel
theorem dX9_least_1 : decode cX9_least 1 = .ok (.lload_n 2, 1) := by decide +kernel
theorem dX9_least_2 : decode cX9_least 2 = .ok (.lcmp, 1) := by decide +kernel
theorem dX9_least_3 : decode cX9_least 3 = .ok (.ifCond .ge 7, 3) := by decide +kernel
theorem dX9_least_6 : decode cX9_least 6 = .ok (.lload_n 0, 1) := by decide +kernel
theorem dX9_least_7 : decode cX9_least 7 = .ok (.goto 4, 3) := by decide +kernel
theorem dX9_least_10 : decode cX9_least 10 = .ok (.lload_n 2, 1) := by decide +kernel
theorem dX9_least_11 : decode cX9_least 11 = .ok (.lreturn, 1) := by decide +kernel
set_option maxRecDepth 20000 in
theorem ggX9_layWays_X9_least : GoodIn wsX9_layWays wsX9_least := goodIn_r _ [13] (by decide +kernel) (by decide +kernel)
set_option maxRecDepth 20000 in
theorem gX9_layWays_X9_least : GoodIn wsX9_layWays (va_wsS RX9 178 yX9_least wsX9_least) := goodIn_app (goodIn_of _ (by decide +kernel)) ggX9_layWays_X9_least
set_option maxRecDepth 20000 in
theorem ggX9_layWays_X9_isBelowSomewhere : GoodIn wsX9_layWays wsX9_isBelowSomewhere := goodIn_r _ [17, 1, 2, 18, 19, 20, 21, 22, 23, 24, 25, 26, 27, 28, 29, 30, 31, 32, 33, 34, 35, 36, 37, 38, 39, 40, 41, 42, 43, 44, 45, 46, 47, 48, 49, 50, 51, 52, 53, 54, 55, 56, 57, 58, 59, 60, 61, 62, 63, 64, 65] (by decide +kernel) (by decide +kernel)
set_option maxRecDepth 20000 in
theorem gX9_layWays_X9_isBelowSomewhere : GoodIn wsX9_layWays (wsV RX9 182 RX9 yX9_isBelowSomewhere wsX9_isBelowSomewhere) := goodIn_app (goodIn_of _ (by decide +kernel)) ggX9_layWays_X9_isBelowSomewhere
theorem dX9_layWays_0 : decode cX9_layWays 0 = .ok (.iconst 0, 1) := by decide +kernel
theorem dX9_layWays_1 : decode cX9_layWays 1 = .ok (.istore_n 1, 1) := by decide +kernel
theorem dX9_layWays_2 : decode cX9_layWays 2 = .ok (.iload_n 1, 1) := by decide +kernel
theorem dX9_layWays_3 : decode cX9_layWays 3 = .ok (.aload_n 0, 1) := by decide +kernel
theorem dX9_layWays_4 : decode cX9_layWays 4 = .ok (.getfield 133, 3) := by decide +kernel
theorem dX9_layWays_7 : decode cX9_layWays 7 = .ok (.if_icmp .ge 58, 3) := by decide +kernel
theorem dX9_layWays_10 : decode cX9_layWays 10 = .ok (.iconst 0, 1) := by decide +kernel
theorem dX9_layWays_11 : decode cX9_layWays 11 = .ok (.istore_n 2, 1) := by decide +kernel
theorem dX9_layWays_12 : decode cX9_layWays 12 = .ok (.iload_n 2, 1) := by decide +kernel
theorem dX9_layWays_13 : decode cX9_layWays 13 = .ok (.aload_n 0, 1) := by decide +kernel
theorem dX9_layWays_14 : decode cX9_layWays 14 = .ok (.getfield 133, 3) := by decide +kernel
theorem dX9_layWays_17 : decode cX9_layWays 17 = .ok (.if_icmp .ge 42, 3) := by decide +kernel
theorem dX9_layWays_20 : decode cX9_layWays 20 = .ok (.aload_n 0, 1) := by decide +kernel
theorem dX9_layWays_21 : decode cX9_layWays 21 = .ok (.getfield 49, 3) := by decide +kernel
theorem dX9_layWays_24 : decode cX9_layWays 24 = .ok (.bipush 10, 2) := by decide +kernel
theorem dX9_layWays_26 : decode cX9_layWays 26 = .ok (.iload_n 1, 1) := by decide +kernel
theorem dX9_layWays_27 : decode cX9_layWays 27 = .ok (.imul, 1) := by decide +kernel
theorem dX9_layWays_28 : decode cX9_layWays 28 = .ok (.iload_n 2, 1) := by decide +kernel
theorem dX9_layWays_29 : decode cX9_layWays 29 = .ok (.iadd, 1) := by decide +kernel
theorem dX9_layWays_30 : decode cX9_layWays 30 = .ok (.aload_n 0, 1) := by decide +kernel
theorem dX9_layWays_31 : decode cX9_layWays 31 = .ok (.getfield 46, 3) := by decide +kernel
theorem dX9_layWays_34 : decode cX9_layWays 34 = .ok (.iload_n 1, 1) := by decide +kernel
theorem dX9_layWays_35 : decode cX9_layWays 35 = .ok (.iaload, 1) := by decide +kernel
theorem dX9_layWays_36 : decode cX9_layWays 36 = .ok (.aload_n 0, 1) := by decide +kernel
theorem dX9_layWays_37 : decode cX9_layWays 37 = .ok (.getfield 46, 3) := by decide +kernel
theorem dX9_layWays_40 : decode cX9_layWays 40 = .ok (.iload_n 2, 1) := by decide +kernel
theorem dX9_layWays_41 : decode cX9_layWays 41 = .ok (.iaload, 1) := by decide +kernel
theorem dX9_layWays_42 : decode cX9_layWays 42 = .ok (.if_icmp .ne 7, 3) := by decide +kernel
theorem dX9_layWays_45 : decode cX9_layWays 45 = .ok (.lconst 0, 1) := by decide +kernel
theorem dX9_layWays_46 : decode cX9_layWays 46 = .ok (.goto 6, 3) := by decide +kernel
theorem dX9_layWays_49 : decode cX9_layWays 49 = .ok (.ldc2_w 176, 3) := by decide +kernel
theorem dX9_layWays_52 : decode cX9_layWays 52 = .ok (.lastore, 1) := by decide +kernel
theorem dX9_layWays_53 : decode cX9_layWays 53 = .ok (.iinc 2 1, 3) := by decide +kernel
theorem dX9_layWays_56 : decode cX9_layWays 56 = .ok (.goto (-44), 3) := by decide +kernel
theorem dX9_layWays_59 : decode cX9_layWays 59 = .ok (.iinc 1 1, 3) := by decide +kernel
theorem dX9_layWays_62 : decode cX9_layWays 62 = .ok (.goto (-60), 3) := by decide +kernel
theorem dX9_layWays_65 : decode cX9_layWays 65 = .ok (.iconst 0, 1) := by decide +kernel
theorem dX9_layWays_66 : decode cX9_layWays 66 = .ok (.istore_n 1, 1) := by decide +kernel
theorem dX9_layWays_67 : decode cX9_layWays 67 = .ok (.iload_n 1, 1) := by decide +kernel
theorem dX9_layWays_68 : decode cX9_layWays 68 = .ok (.aload_n 0, 1) := by decide +kernel
theorem dX9_layWays_69 : decode cX9_layWays 69 = .ok (.getfield 141, 3) := by decide +kernel
theorem dX9_layWays_72 : decode cX9_layWays 72 = .ok (.if_icmp .ge 67, 3) := by decide +kernel
theorem dX9_layWays_75 : decode cX9_layWays 75 = .ok (.bipush 10, 2) := by decide +kernel
theorem dX9_layWays_77 : decode cX9_layWays 77 = .ok (.aload_n 0, 1) := by decide +kernel
theorem dX9_layWays_78 : decode cX9_layWays 78 = .ok (.getfield 37, 3) := by decide +kernel
theorem dX9_layWays_81 : decode cX9_layWays 81 = .ok (.iload_n 1, 1) := by decide +kernel
theorem dX9_layWays_82 : decode cX9_layWays 82 = .ok (.iaload, 1) := by decide +kernel
theorem dX9_layWays_83 : decode cX9_layWays 83 = .ok (.imul, 1) := by decide +kernel
theorem dX9_layWays_84 : decode cX9_layWays 84 = .ok (.aload_n 0, 1) := by decide +kernel
theorem dX9_layWays_85 : decode cX9_layWays 85 = .ok (.getfield 40, 3) := by decide +kernel
theorem dX9_layWays_88 : decode cX9_layWays 88 = .ok (.iload_n 1, 1) := by decide +kernel
theorem dX9_layWays_89 : decode cX9_layWays 89 = .ok (.iaload, 1) := by decide +kernel
theorem dX9_layWays_90 : decode cX9_layWays 90 = .ok (.iadd, 1) := by decide +kernel
theorem dX9_layWays_91 : decode cX9_layWays 91 = .ok (.istore_n 2, 1) := by decide +kernel
theorem dX9_layWays_92 : decode cX9_layWays 92 = .ok (.aload_n 0, 1) := by decide +kernel
theorem dX9_layWays_93 : decode cX9_layWays 93 = .ok (.getfield 49, 3) := by decide +kernel
theorem dX9_layWays_96 : decode cX9_layWays 96 = .ok (.iload_n 2, 1) := by decide +kernel
theorem dX9_layWays_97 : decode cX9_layWays 97 = .ok (.aload_n 0, 1) := by decide +kernel
theorem dX9_layWays_98 : decode cX9_layWays 98 = .ok (.getfield 19, 3) := by decide +kernel
theorem dX9_layWays_101 : decode cX9_layWays 101 = .ok (.iload_n 1, 1) := by decide +kernel
theorem dX9_layWays_102 : decode cX9_layWays 102 = .ok (.iaload, 1) := by decide +kernel
theorem dX9_layWays_103 : decode cX9_layWays 103 = .ok (.iconst 2, 1) := by decide +kernel
theorem dX9_layWays_104 : decode cX9_layWays 104 = .ok (.if_icmp .ne 22, 3) := by decide +kernel
theorem dX9_layWays_107 : decode cX9_layWays 107 = .ok (.aload_n 0, 1) := by decide +kernel
theorem dX9_layWays_108 : decode cX9_layWays 108 = .ok (.getfield 49, 3) := by decide +kernel
theorem dX9_layWays_111 : decode cX9_layWays 111 = .ok (.iload_n 2, 1) := by decide +kernel
theorem dX9_layWays_112 : decode cX9_layWays 112 = .ok (.laload, 1) := by decide +kernel
theorem dX9_layWays_113 : decode cX9_layWays 113 = .ok (.aload_n 0, 1) := by decide +kernel
theorem dX9_layWays_114 : decode cX9_layWays 114 = .ok (.getfield 22, 3) := by decide +kernel
theorem dX9_layWays_117 : decode cX9_layWays 117 = .ok (.iload_n 1, 1) := by decide +kernel
theorem dX9_layWays_118 : decode cX9_layWays 118 = .ok (.iaload, 1) := by decide +kernel
theorem dX9_layWays_119 : decode cX9_layWays 119 = .ok (.i2l, 1) := by decide +kernel
theorem dX9_layWays_120 : decode cX9_layWays 120 = .ok (.invokestatic 178, 3) := by decide +kernel
theorem dX9_layWays_123 : decode cX9_layWays 123 = .ok (.goto 9, 3) := by decide +kernel
theorem dX9_layWays_126 : decode cX9_layWays 126 = .ok (.aload_n 0, 1) := by decide +kernel
theorem dX9_layWays_127 : decode cX9_layWays 127 = .ok (.getfield 49, 3) := by decide +kernel
theorem dX9_layWays_130 : decode cX9_layWays 130 = .ok (.iload_n 2, 1) := by decide +kernel
theorem dX9_layWays_131 : decode cX9_layWays 131 = .ok (.laload, 1) := by decide +kernel
theorem dX9_layWays_132 : decode cX9_layWays 132 = .ok (.lastore, 1) := by decide +kernel
theorem dX9_layWays_133 : decode cX9_layWays 133 = .ok (.iinc 1 1, 3) := by decide +kernel
theorem dX9_layWays_136 : decode cX9_layWays 136 = .ok (.goto (-69), 3) := by decide +kernel
theorem dX9_layWays_139 : decode cX9_layWays 139 = .ok (.iconst 0, 1) := by decide +kernel
theorem dX9_layWays_140 : decode cX9_layWays 140 = .ok (.istore_n 1, 1) := by decide +kernel
theorem dX9_layWays_141 : decode cX9_layWays 141 = .ok (.iload_n 1, 1) := by decide +kernel
theorem dX9_layWays_142 : decode cX9_layWays 142 = .ok (.aload_n 0, 1) := by decide +kernel
theorem dX9_layWays_143 : decode cX9_layWays 143 = .ok (.getfield 133, 3) := by decide +kernel
theorem dX9_layWays_146 : decode cX9_layWays 146 = .ok (.if_icmp .ge 160, 3) := by decide +kernel
theorem dX9_layWays_149 : decode cX9_layWays 149 = .ok (.iconst 0, 1) := by decide +kernel
theorem dX9_layWays_150 : decode cX9_layWays 150 = .ok (.istore_n 2, 1) := by decide +kernel
theorem dX9_layWays_151 : decode cX9_layWays 151 = .ok (.iload_n 2, 1) := by decide +kernel
theorem dX9_layWays_152 : decode cX9_layWays 152 = .ok (.aload_n 0, 1) := by decide +kernel
theorem dX9_layWays_153 : decode cX9_layWays 153 = .ok (.getfield 133, 3) := by decide +kernel
theorem dX9_layWays_156 : decode cX9_layWays 156 = .ok (.if_icmp .ge 135, 3) := by decide +kernel
theorem dX9_layWays_159 : decode cX9_layWays 159 = .ok (.iconst 0, 1) := by decide +kernel
theorem dX9_layWays_160 : decode cX9_layWays 160 = .ok (.istore_n 3, 1) := by decide +kernel
theorem dX9_layWays_161 : decode cX9_layWays 161 = .ok (.iload_n 3, 1) := by decide +kernel
theorem dX9_layWays_162 : decode cX9_layWays 162 = .ok (.aload_n 0, 1) := by decide +kernel
theorem dX9_layWays_163 : decode cX9_layWays 163 = .ok (.getfield 133, 3) := by decide +kernel
theorem dX9_layWays_166 : decode cX9_layWays 166 = .ok (.if_icmp .ge 119, 3) := by decide +kernel
theorem dX9_layWays_169 : decode cX9_layWays 169 = .ok (.aload_n 0, 1) := by decide +kernel
theorem dX9_layWays_170 : decode cX9_layWays 170 = .ok (.getfield 49, 3) := by decide +kernel
theorem dX9_layWays_173 : decode cX9_layWays 173 = .ok (.bipush 10, 2) := by decide +kernel
theorem dX9_layWays_175 : decode cX9_layWays 175 = .ok (.iload_n 2, 1) := by decide +kernel
theorem dX9_layWays_176 : decode cX9_layWays 176 = .ok (.imul, 1) := by decide +kernel
theorem dX9_layWays_177 : decode cX9_layWays 177 = .ok (.iload_n 1, 1) := by decide +kernel
theorem dX9_layWays_178 : decode cX9_layWays 178 = .ok (.iadd, 1) := by decide +kernel
theorem dX9_layWays_179 : decode cX9_layWays 179 = .ok (.laload, 1) := by decide +kernel
theorem dX9_layWays_180 : decode cX9_layWays 180 = .ok (.ldc2_w 176, 3) := by decide +kernel
theorem dX9_layWays_183 : decode cX9_layWays 183 = .ok (.lcmp, 1) := by decide +kernel
theorem dX9_layWays_184 : decode cX9_layWays 184 = .ok (.ifCond .ge 25, 3) := by decide +kernel
theorem dX9_layWays_187 : decode cX9_layWays 187 = .ok (.aload_n 0, 1) := by decide +kernel
theorem dX9_layWays_188 : decode cX9_layWays 188 = .ok (.getfield 49, 3) := by decide +kernel
theorem dX9_layWays_191 : decode cX9_layWays 191 = .ok (.bipush 10, 2) := by decide +kernel
theorem dX9_layWays_193 : decode cX9_layWays 193 = .ok (.iload_n 1, 1) := by decide +kernel
theorem dX9_layWays_194 : decode cX9_layWays 194 = .ok (.imul, 1) := by decide +kernel
theorem dX9_layWays_195 : decode cX9_layWays 195 = .ok (.iload_n 3, 1) := by decide +kernel
theorem dX9_layWays_196 : decode cX9_layWays 196 = .ok (.iadd, 1) := by decide +kernel
theorem dX9_layWays_197 : decode cX9_layWays 197 = .ok (.laload, 1) := by decide +kernel
theorem dX9_layWays_198 : decode cX9_layWays 198 = .ok (.ldc2_w 176, 3) := by decide +kernel
theorem dX9_layWays_201 : decode cX9_layWays 201 = .ok (.lcmp, 1) := by decide +kernel
theorem dX9_layWays_202 : decode cX9_layWays 202 = .ok (.ifCond .ge 7, 3) := by decide +kernel
theorem dX9_layWays_205 : decode cX9_layWays 205 = .ok (.iconst 1, 1) := by decide +kernel
theorem dX9_layWays_206 : decode cX9_layWays 206 = .ok (.goto 4, 3) := by decide +kernel
theorem dX9_layWays_209 : decode cX9_layWays 209 = .ok (.iconst 0, 1) := by decide +kernel
theorem dX9_layWays_210 : decode cX9_layWays 210 = .ok (.istore 4, 2) := by decide +kernel
theorem dX9_layWays_212 : decode cX9_layWays 212 = .ok (.aload_n 0, 1) := by decide +kernel
theorem dX9_layWays_213 : decode cX9_layWays 213 = .ok (.getfield 49, 3) := by decide +kernel
theorem dX9_layWays_216 : decode cX9_layWays 216 = .ok (.bipush 10, 2) := by decide +kernel
theorem dX9_layWays_218 : decode cX9_layWays 218 = .ok (.iload_n 2, 1) := by decide +kernel
theorem dX9_layWays_219 : decode cX9_layWays 219 = .ok (.imul, 1) := by decide +kernel
theorem dX9_layWays_220 : decode cX9_layWays 220 = .ok (.iload_n 3, 1) := by decide +kernel
theorem dX9_layWays_221 : decode cX9_layWays 221 = .ok (.iadd, 1) := by decide +kernel
theorem dX9_layWays_222 : decode cX9_layWays 222 = .ok (.iload 4, 2) := by decide +kernel
theorem dX9_layWays_224 : decode cX9_layWays 224 = .ok (.ifCond .eq 43, 3) := by decide +kernel
theorem dX9_layWays_227 : decode cX9_layWays 227 = .ok (.aload_n 0, 1) := by decide +kernel
theorem dX9_layWays_228 : decode cX9_layWays 228 = .ok (.getfield 49, 3) := by decide +kernel
theorem dX9_layWays_231 : decode cX9_layWays 231 = .ok (.bipush 10, 2) := by decide +kernel
theorem dX9_layWays_233 : decode cX9_layWays 233 = .ok (.iload_n 2, 1) := by decide +kernel
theorem dX9_layWays_234 : decode cX9_layWays 234 = .ok (.imul, 1) := by decide +kernel
theorem dX9_layWays_235 : decode cX9_layWays 235 = .ok (.iload_n 3, 1) := by decide +kernel
theorem dX9_layWays_236 : decode cX9_layWays 236 = .ok (.iadd, 1) := by decide +kernel
theorem dX9_layWays_237 : decode cX9_layWays 237 = .ok (.laload, 1) := by decide +kernel
theorem dX9_layWays_238 : decode cX9_layWays 238 = .ok (.aload_n 0, 1) := by decide +kernel
theorem dX9_layWays_239 : decode cX9_layWays 239 = .ok (.getfield 49, 3) := by decide +kernel
theorem dX9_layWays_242 : decode cX9_layWays 242 = .ok (.bipush 10, 2) := by decide +kernel
theorem dX9_layWays_244 : decode cX9_layWays 244 = .ok (.iload_n 2, 1) := by decide +kernel
theorem dX9_layWays_245 : decode cX9_layWays 245 = .ok (.imul, 1) := by decide +kernel
theorem dX9_layWays_246 : decode cX9_layWays 246 = .ok (.iload_n 1, 1) := by decide +kernel
theorem dX9_layWays_247 : decode cX9_layWays 247 = .ok (.iadd, 1) := by decide +kernel
theorem dX9_layWays_248 : decode cX9_layWays 248 = .ok (.laload, 1) := by decide +kernel
theorem dX9_layWays_249 : decode cX9_layWays 249 = .ok (.aload_n 0, 1) := by decide +kernel
theorem dX9_layWays_250 : decode cX9_layWays 250 = .ok (.getfield 49, 3) := by decide +kernel
theorem dX9_layWays_253 : decode cX9_layWays 253 = .ok (.bipush 10, 2) := by decide +kernel
theorem dX9_layWays_255 : decode cX9_layWays 255 = .ok (.iload_n 1, 1) := by decide +kernel
theorem dX9_layWays_256 : decode cX9_layWays 256 = .ok (.imul, 1) := by decide +kernel
theorem dX9_layWays_257 : decode cX9_layWays 257 = .ok (.iload_n 3, 1) := by decide +kernel
theorem dX9_layWays_258 : decode cX9_layWays 258 = .ok (.iadd, 1) := by decide +kernel
theorem dX9_layWays_259 : decode cX9_layWays 259 = .ok (.laload, 1) := by decide +kernel
theorem dX9_layWays_260 : decode cX9_layWays 260 = .ok (.ladd, 1) := by decide +kernel
theorem dX9_layWays_261 : decode cX9_layWays 261 = .ok (.invokestatic 178, 3) := by decide +kernel
theorem dX9_layWays_264 : decode cX9_layWays 264 = .ok (.goto 14, 3) := by decide +kernel
theorem dX9_layWays_267 : decode cX9_layWays 267 = .ok (.aload_n 0, 1) := by decide +kernel
theorem dX9_layWays_268 : decode cX9_layWays 268 = .ok (.getfield 49, 3) := by decide +kernel
theorem dX9_layWays_271 : decode cX9_layWays 271 = .ok (.bipush 10, 2) := by decide +kernel
theorem dX9_layWays_273 : decode cX9_layWays 273 = .ok (.iload_n 2, 1) := by decide +kernel
theorem dX9_layWays_274 : decode cX9_layWays 274 = .ok (.imul, 1) := by decide +kernel
theorem dX9_layWays_275 : decode cX9_layWays 275 = .ok (.iload_n 3, 1) := by decide +kernel
theorem dX9_layWays_276 : decode cX9_layWays 276 = .ok (.iadd, 1) := by decide +kernel
theorem dX9_layWays_277 : decode cX9_layWays 277 = .ok (.laload, 1) := by decide +kernel
theorem dX9_layWays_278 : decode cX9_layWays 278 = .ok (.lastore, 1) := by decide +kernel
theorem dX9_layWays_279 : decode cX9_layWays 279 = .ok (.iinc 3 1, 3) := by decide +kernel
theorem dX9_layWays_282 : decode cX9_layWays 282 = .ok (.goto (-121), 3) := by decide +kernel
theorem dX9_layWays_285 : decode cX9_layWays 285 = .ok (.iinc 2 1, 3) := by decide +kernel
theorem dX9_layWays_288 : decode cX9_layWays 288 = .ok (.goto (-137), 3) := by decide +kernel
theorem dX9_layWays_291 : decode cX9_layWays 291 = .ok (.aload_n 0, 1) := by decide +kernel
theorem dX9_layWays_292 : decode cX9_layWays 292 = .ok (.invokevirtual 182, 3) := by decide +kernel
theorem dX9_layWays_295 : decode cX9_layWays 295 = .ok (.ifCond .eq 5, 3) := by decide +kernel
theorem dX9_layWays_298 : decode cX9_layWays 298 = .ok (.iconst 1, 1) := by decide +kernel
theorem dX9_layWays_299 : decode cX9_layWays 299 = .ok (.ireturn, 1) := by decide +kernel
theorem dX9_layWays_300 : decode cX9_layWays 300 = .ok (.iinc 1 1, 3) := by decide +kernel
theorem dX9_layWays_303 : decode cX9_layWays 303 = .ok (.goto (-162), 3) := by decide +kernel
theorem dX9_layWays_306 : decode cX9_layWays 306 = .ok (.iconst 0, 1) := by decide +kernel
theorem dX9_layWays_307 : decode cX9_layWays 307 = .ok (.ireturn, 1) := by decide +kernel
theorem dX9_isBelowSomewhere_0 : decode cX9_isBelowSomewhere 0 = .ok (.iconst 0, 1) := by decide +kernel
theorem dX9_isBelowSomewhere_1 : decode cX9_isBelowSomewhere 1 = .ok (.istore_n 1, 1) := by decide +kernel
theorem dX9_isBelowSomewhere_2 : decode cX9_isBelowSomewhere 2 = .ok (.iconst 0, 1) := by decide +kernel
theorem dX9_isBelowSomewhere_3 : decode cX9_isBelowSomewhere 3 = .ok (.istore_n 2, 1) := by decide +kernel
theorem dX9_isBelowSomewhere_4 : decode cX9_isBelowSomewhere 4 = .ok (.iload_n 2, 1) := by decide +kernel
theorem dX9_isBelowSomewhere_5 : decode cX9_isBelowSomewhere 5 = .ok (.aload_n 0, 1) := by decide +kernel
theorem dX9_isBelowSomewhere_6 : decode cX9_isBelowSomewhere 6 = .ok (.getfield 133, 3) := by decide +kernel
theorem dX9_isBelowSomewhere_9 : decode cX9_isBelowSomewhere 9 = .ok (.if_icmp .ge 35, 3) := by decide +kernel
theorem dX9_isBelowSomewhere_12 : decode cX9_isBelowSomewhere 12 = .ok (.iload_n 1, 1) := by decide +kernel
theorem dX9_isBelowSomewhere_13 : decode cX9_isBelowSomewhere 13 = .ok (.ifCond .ne 19, 3) := by decide +kernel
theorem dX9_isBelowSomewhere_16 : decode cX9_isBelowSomewhere 16 = .ok (.aload_n 0, 1) := by decide +kernel
theorem dX9_isBelowSomewhere_17 : decode cX9_isBelowSomewhere 17 = .ok (.getfield 49, 3) := by decide +kernel
theorem dX9_isBelowSomewhere_20 : decode cX9_isBelowSomewhere 20 = .ok (.bipush 10, 2) := by decide +kernel
theorem dX9_isBelowSomewhere_22 : decode cX9_isBelowSomewhere 22 = .ok (.iload_n 2, 1) := by decide +kernel
theorem dX9_isBelowSomewhere_23 : decode cX9_isBelowSomewhere 23 = .ok (.imul, 1) := by decide +kernel
theorem dX9_isBelowSomewhere_24 : decode cX9_isBelowSomewhere 24 = .ok (.iload_n 2, 1) := by decide +kernel
theorem dX9_isBelowSomewhere_25 : decode cX9_isBelowSomewhere 25 = .ok (.iadd, 1) := by decide +kernel
theorem dX9_isBelowSomewhere_26 : decode cX9_isBelowSomewhere 26 = .ok (.laload, 1) := by decide +kernel
theorem dX9_isBelowSomewhere_27 : decode cX9_isBelowSomewhere 27 = .ok (.lconst 0, 1) := by decide +kernel
theorem dX9_isBelowSomewhere_28 : decode cX9_isBelowSomewhere 28 = .ok (.lcmp, 1) := by decide +kernel
theorem dX9_isBelowSomewhere_29 : decode cX9_isBelowSomewhere 29 = .ok (.ifCond .ge 7, 3) := by decide +kernel
theorem dX9_isBelowSomewhere_32 : decode cX9_isBelowSomewhere 32 = .ok (.iconst 1, 1) := by decide +kernel
theorem dX9_isBelowSomewhere_33 : decode cX9_isBelowSomewhere 33 = .ok (.goto 4, 3) := by decide +kernel
theorem dX9_isBelowSomewhere_36 : decode cX9_isBelowSomewhere 36 = .ok (.iconst 0, 1) := by decide +kernel
theorem dX9_isBelowSomewhere_37 : decode cX9_isBelowSomewhere 37 = .ok (.istore_n 1, 1) := by decide +kernel
theorem dX9_isBelowSomewhere_38 : decode cX9_isBelowSomewhere 38 = .ok (.iinc 2 1, 3) := by decide +kernel
theorem dX9_isBelowSomewhere_41 : decode cX9_isBelowSomewhere 41 = .ok (.goto (-37), 3) := by decide +kernel
theorem dX9_isBelowSomewhere_44 : decode cX9_isBelowSomewhere 44 = .ok (.iload_n 1, 1) := by decide +kernel
theorem dX9_isBelowSomewhere_45 : decode cX9_isBelowSomewhere 45 = .ok (.ireturn, 1) := by decide +kernel
set_option maxRecDepth 20000 in
theorem ggX9_joinTight_X9_join : GoodIn wsX9_joinTight wsX9_join := goodIn_r _ [9, 4, 1, 10, 11, 12, 13, 14, 15, 16, 17, 18, 19, 20, 21, 22, 23, 24, 25, 26, 27, 28, 29, 30, 31, 32, 33, 34, 35, 36, 37, 38, 39, 40, 41, 42, 43, 44, 45, 46, 47, 48, 49, 50, 51, 52, 53, 54, 55, 56, 57] (by decide +kernel) (by decide +kernel)
set_option maxRecDepth 20000 in
theorem gX9_joinTight_X9_join : GoodIn wsX9_joinTight (wsV RX9 172 RX9 yX9_join wsX9_join) := goodIn_app (goodIn_of _ (by decide +kernel)) ggX9_joinTight_X9_join
theorem dX9_joinTight_0 : decode cX9_joinTight 0 = .ok (.iconst 0, 1) := by decide +kernel
theorem dX9_joinTight_1 : decode cX9_joinTight 1 = .ok (.istore_n 1, 1) := by decide +kernel
theorem dX9_joinTight_2 : decode cX9_joinTight 2 = .ok (.iconst 0, 1) := by decide +kernel
theorem dX9_joinTight_3 : decode cX9_joinTight 3 = .ok (.istore_n 2, 1) := by decide +kernel
theorem dX9_joinTight_4 : decode cX9_joinTight 4 = .ok (.iload_n 2, 1) := by decide +kernel
theorem dX9_joinTight_5 : decode cX9_joinTight 5 = .ok (.aload_n 0, 1) := by decide +kernel
theorem dX9_joinTight_6 : decode cX9_joinTight 6 = .ok (.getfield 133, 3) := by decide +kernel
theorem dX9_joinTight_9 : decode cX9_joinTight 9 = .ok (.if_icmp .ge 137, 3) := by decide +kernel
theorem dX9_joinTight_12 : decode cX9_joinTight 12 = .ok (.iconst 0, 1) := by decide +kernel
theorem dX9_joinTight_13 : decode cX9_joinTight 13 = .ok (.istore_n 3, 1) := by decide +kernel
theorem dX9_joinTight_14 : decode cX9_joinTight 14 = .ok (.iload_n 3, 1) := by decide +kernel
theorem dX9_joinTight_15 : decode cX9_joinTight 15 = .ok (.iload_n 2, 1) := by decide +kernel
theorem dX9_joinTight_16 : decode cX9_joinTight 16 = .ok (.if_icmp .ge 124, 3) := by decide +kernel
theorem dX9_joinTight_19 : decode cX9_joinTight 19 = .ok (.aload_n 0, 1) := by decide +kernel
theorem dX9_joinTight_20 : decode cX9_joinTight 20 = .ok (.getfield 49, 3) := by decide +kernel
theorem dX9_joinTight_23 : decode cX9_joinTight 23 = .ok (.bipush 10, 2) := by decide +kernel
theorem dX9_joinTight_25 : decode cX9_joinTight 25 = .ok (.iload_n 2, 1) := by decide +kernel
theorem dX9_joinTight_26 : decode cX9_joinTight 26 = .ok (.imul, 1) := by decide +kernel
theorem dX9_joinTight_27 : decode cX9_joinTight 27 = .ok (.iload_n 3, 1) := by decide +kernel
theorem dX9_joinTight_28 : decode cX9_joinTight 28 = .ok (.iadd, 1) := by decide +kernel
theorem dX9_joinTight_29 : decode cX9_joinTight 29 = .ok (.laload, 1) := by decide +kernel
theorem dX9_joinTight_30 : decode cX9_joinTight 30 = .ok (.ldc2_w 176, 3) := by decide +kernel
theorem dX9_joinTight_33 : decode cX9_joinTight 33 = .ok (.lcmp, 1) := by decide +kernel
theorem dX9_joinTight_34 : decode cX9_joinTight 34 = .ok (.ifCond .ge 25, 3) := by decide +kernel
theorem dX9_joinTight_37 : decode cX9_joinTight 37 = .ok (.aload_n 0, 1) := by decide +kernel
theorem dX9_joinTight_38 : decode cX9_joinTight 38 = .ok (.getfield 49, 3) := by decide +kernel
theorem dX9_joinTight_41 : decode cX9_joinTight 41 = .ok (.bipush 10, 2) := by decide +kernel
theorem dX9_joinTight_43 : decode cX9_joinTight 43 = .ok (.iload_n 3, 1) := by decide +kernel
theorem dX9_joinTight_44 : decode cX9_joinTight 44 = .ok (.imul, 1) := by decide +kernel
theorem dX9_joinTight_45 : decode cX9_joinTight 45 = .ok (.iload_n 2, 1) := by decide +kernel
theorem dX9_joinTight_46 : decode cX9_joinTight 46 = .ok (.iadd, 1) := by decide +kernel
theorem dX9_joinTight_47 : decode cX9_joinTight 47 = .ok (.laload, 1) := by decide +kernel
theorem dX9_joinTight_48 : decode cX9_joinTight 48 = .ok (.ldc2_w 176, 3) := by decide +kernel
theorem dX9_joinTight_51 : decode cX9_joinTight 51 = .ok (.lcmp, 1) := by decide +kernel
theorem dX9_joinTight_52 : decode cX9_joinTight 52 = .ok (.ifCond .ge 7, 3) := by decide +kernel
theorem dX9_joinTight_55 : decode cX9_joinTight 55 = .ok (.iconst 1, 1) := by decide +kernel
theorem dX9_joinTight_56 : decode cX9_joinTight 56 = .ok (.goto 4, 3) := by decide +kernel
theorem dX9_joinTight_59 : decode cX9_joinTight 59 = .ok (.iconst 0, 1) := by decide +kernel
theorem dX9_joinTight_60 : decode cX9_joinTight 60 = .ok (.istore 4, 2) := by decide +kernel
theorem dX9_joinTight_62 : decode cX9_joinTight 62 = .ok (.iload 4, 2) := by decide +kernel
theorem dX9_joinTight_64 : decode cX9_joinTight 64 = .ok (.ifCond .eq 70, 3) := by decide +kernel
theorem dX9_joinTight_67 : decode cX9_joinTight 67 = .ok (.aload_n 0, 1) := by decide +kernel
theorem dX9_joinTight_68 : decode cX9_joinTight 68 = .ok (.getfield 46, 3) := by decide +kernel
theorem dX9_joinTight_71 : decode cX9_joinTight 71 = .ok (.iload_n 2, 1) := by decide +kernel
theorem dX9_joinTight_72 : decode cX9_joinTight 72 = .ok (.iaload, 1) := by decide +kernel
theorem dX9_joinTight_73 : decode cX9_joinTight 73 = .ok (.aload_n 0, 1) := by decide +kernel
theorem dX9_joinTight_74 : decode cX9_joinTight 74 = .ok (.getfield 46, 3) := by decide +kernel
theorem dX9_joinTight_77 : decode cX9_joinTight 77 = .ok (.iload_n 3, 1) := by decide +kernel
theorem dX9_joinTight_78 : decode cX9_joinTight 78 = .ok (.iaload, 1) := by decide +kernel
theorem dX9_joinTight_79 : decode cX9_joinTight 79 = .ok (.if_icmp .eq 55, 3) := by decide +kernel
theorem dX9_joinTight_82 : decode cX9_joinTight 82 = .ok (.aload_n 0, 1) := by decide +kernel
theorem dX9_joinTight_83 : decode cX9_joinTight 83 = .ok (.getfield 49, 3) := by decide +kernel
theorem dX9_joinTight_86 : decode cX9_joinTight 86 = .ok (.bipush 10, 2) := by decide +kernel
theorem dX9_joinTight_88 : decode cX9_joinTight 88 = .ok (.iload_n 2, 1) := by decide +kernel
theorem dX9_joinTight_89 : decode cX9_joinTight 89 = .ok (.imul, 1) := by decide +kernel
theorem dX9_joinTight_90 : decode cX9_joinTight 90 = .ok (.iload_n 3, 1) := by decide +kernel
theorem dX9_joinTight_91 : decode cX9_joinTight 91 = .ok (.iadd, 1) := by decide +kernel
theorem dX9_joinTight_92 : decode cX9_joinTight 92 = .ok (.laload, 1) := by decide +kernel
theorem dX9_joinTight_93 : decode cX9_joinTight 93 = .ok (.aload_n 0, 1) := by decide +kernel
theorem dX9_joinTight_94 : decode cX9_joinTight 94 = .ok (.getfield 49, 3) := by decide +kernel
theorem dX9_joinTight_97 : decode cX9_joinTight 97 = .ok (.bipush 10, 2) := by decide +kernel
theorem dX9_joinTight_99 : decode cX9_joinTight 99 = .ok (.iload_n 3, 1) := by decide +kernel
theorem dX9_joinTight_100 : decode cX9_joinTight 100 = .ok (.imul, 1) := by decide +kernel
theorem dX9_joinTight_101 : decode cX9_joinTight 101 = .ok (.iload_n 2, 1) := by decide +kernel
theorem dX9_joinTight_102 : decode cX9_joinTight 102 = .ok (.iadd, 1) := by decide +kernel
theorem dX9_joinTight_103 : decode cX9_joinTight 103 = .ok (.laload, 1) := by decide +kernel
theorem dX9_joinTight_104 : decode cX9_joinTight 104 = .ok (.ladd, 1) := by decide +kernel
theorem dX9_joinTight_105 : decode cX9_joinTight 105 = .ok (.lconst 0, 1) := by decide +kernel
theorem dX9_joinTight_106 : decode cX9_joinTight 106 = .ok (.lcmp, 1) := by decide +kernel
theorem dX9_joinTight_107 : decode cX9_joinTight 107 = .ok (.ifCond .ne 27, 3) := by decide +kernel
theorem dX9_joinTight_110 : decode cX9_joinTight 110 = .ok (.aload_n 0, 1) := by decide +kernel
theorem dX9_joinTight_111 : decode cX9_joinTight 111 = .ok (.getfield 49, 3) := by decide +kernel
theorem dX9_joinTight_114 : decode cX9_joinTight 114 = .ok (.bipush 10, 2) := by decide +kernel
theorem dX9_joinTight_116 : decode cX9_joinTight 116 = .ok (.iload_n 2, 1) := by decide +kernel
theorem dX9_joinTight_117 : decode cX9_joinTight 117 = .ok (.imul, 1) := by decide +kernel
theorem dX9_joinTight_118 : decode cX9_joinTight 118 = .ok (.iload_n 3, 1) := by decide +kernel
theorem dX9_joinTight_119 : decode cX9_joinTight 119 = .ok (.iadd, 1) := by decide +kernel
theorem dX9_joinTight_120 : decode cX9_joinTight 120 = .ok (.laload, 1) := by decide +kernel
theorem dX9_joinTight_121 : decode cX9_joinTight 121 = .ok (.lconst 0, 1) := by decide +kernel
theorem dX9_joinTight_122 : decode cX9_joinTight 122 = .ok (.lcmp, 1) := by decide +kernel
theorem dX9_joinTight_123 : decode cX9_joinTight 123 = .ok (.ifCond .ne 11, 3) := by decide +kernel
theorem dX9_joinTight_126 : decode cX9_joinTight 126 = .ok (.aload_n 0, 1) := by decide +kernel
theorem dX9_joinTight_127 : decode cX9_joinTight 127 = .ok (.iload_n 2, 1) := by decide +kernel
theorem dX9_joinTight_128 : decode cX9_joinTight 128 = .ok (.iload_n 3, 1) := by decide +kernel
theorem dX9_joinTight_129 : decode cX9_joinTight 129 = .ok (.invokevirtual 172, 3) := by decide +kernel
theorem dX9_joinTight_132 : decode cX9_joinTight 132 = .ok (.iconst 1, 1) := by decide +kernel
theorem dX9_joinTight_133 : decode cX9_joinTight 133 = .ok (.istore_n 1, 1) := by decide +kernel
theorem dX9_joinTight_134 : decode cX9_joinTight 134 = .ok (.iinc 3 1, 3) := by decide +kernel
theorem dX9_joinTight_137 : decode cX9_joinTight 137 = .ok (.goto (-123), 3) := by decide +kernel
theorem dX9_joinTight_140 : decode cX9_joinTight 140 = .ok (.iinc 2 1, 3) := by decide +kernel
theorem dX9_joinTight_143 : decode cX9_joinTight 143 = .ok (.goto (-139), 3) := by decide +kernel
theorem dX9_joinTight_146 : decode cX9_joinTight 146 = .ok (.iload_n 1, 1) := by decide +kernel
theorem dX9_joinTight_147 : decode cX9_joinTight 147 = .ok (.ireturn, 1) := by decide +kernel
set_option maxRecDepth 20000 in
theorem ggX9_layExchange_X9_join : GoodIn wsX9_layExchange wsX9_join := goodIn_r _ [13, 4, 3, 43, 44, 45, 46, 47, 48, 49, 50, 51, 52, 53, 54, 55, 56, 57, 58, 59, 60, 61, 62, 63, 64, 65, 66, 67, 68, 69, 70, 71, 72, 73, 74, 75, 76, 77, 78, 79, 80, 81, 82, 83, 84, 85, 86, 87, 88, 89, 90] (by decide +kernel) (by decide +kernel)
set_option maxRecDepth 20000 in
theorem gX9_layExchange_X9_join : GoodIn wsX9_layExchange (wsV RX9 172 RX9 yX9_join wsX9_join) := goodIn_app (goodIn_of _ (by decide +kernel)) ggX9_layExchange_X9_join
set_option maxRecDepth 20000 in
theorem ggX9_layExchange_X9_growSame : GoodIn wsX9_layExchange wsX9_growSame := goodIn_r _ [17, 3, 4, 18, 19, 20, 12, 21, 22, 23, 24, 9, 10, 11, 13, 43, 44, 45, 46, 47, 48, 49, 50, 51, 52, 53, 54, 55, 56, 57, 58, 59, 60, 61, 62, 63, 64, 65, 66, 67, 68, 69, 70, 71, 72, 73, 74, 75, 76, 77, 78, 79, 80, 81, 82, 83, 84, 85, 86, 87, 88, 89, 90] (by decide +kernel) (by decide +kernel)
set_option maxRecDepth 20000 in
theorem gX9_layExchange_X9_growSame : GoodIn wsX9_layExchange (wsV RX9 191 RX9 yX9_growSame wsX9_growSame) := goodIn_app (goodIn_of _ (by decide +kernel)) ggX9_layExchange_X9_growSame
set_option maxRecDepth 20000 in
theorem ggX9_layExchange_X9_layWays : GoodIn wsX9_layExchange wsX9_layWays := goodIn_r _ [28, 3, 29, 4, 30, 5, 7, 8, 6, 31, 32, 33, 12, 34, 35, 36, 37, 38, 43, 44, 45, 46, 47, 48, 49, 50, 51, 52, 53, 54, 55, 56, 57, 58, 59, 60, 61, 62, 63, 64, 65, 66, 67, 68, 69, 70, 71, 72, 73, 74, 75, 76, 77, 78, 79, 80, 81, 82, 83, 84, 85, 86, 87, 88, 89, 90] (by decide +kernel) (by decide +kernel)
set_option maxRecDepth 20000 in
theorem gX9_layExchange_X9_layWays : GoodIn wsX9_layExchange (wsV RX9 194 RX9 yX9_layWays wsX9_layWays) := goodIn_app (goodIn_of _ (by decide +kernel)) ggX9_layExchange_X9_layWays
set_option maxRecDepth 20000 in
theorem ggX9_layExchange_X9_joinTight : GoodIn wsX9_layExchange wsX9_joinTight := goodIn_r _ [42, 3, 29, 30, 4, 9, 10, 11, 12, 13, 43, 44, 45, 46, 47, 48, 49, 50, 51, 52, 53, 54, 55, 56, 57, 58, 59, 60, 61, 62, 63, 64, 65, 66, 67, 68, 69, 70, 71, 72, 73, 74, 75, 76, 77, 78, 79, 80, 81, 82, 83, 84, 85, 86, 87, 88, 89, 90] (by decide +kernel) (by decide +kernel)
set_option maxRecDepth 20000 in
theorem gX9_layExchange_X9_joinTight : GoodIn wsX9_layExchange (wsV RX9 197 RX9 yX9_joinTight wsX9_joinTight) := goodIn_app (goodIn_of _ (by decide +kernel)) ggX9_layExchange_X9_joinTight
theorem dX9_layExchange_0 : decode cX9_layExchange 0 = .ok (.aload_n 0, 1) := by decide +kernel
theorem dX9_layExchange_1 : decode cX9_layExchange 1 = .ok (.iconst 0, 1) := by decide +kernel
theorem dX9_layExchange_2 : decode cX9_layExchange 2 = .ok (.putfield 185, 3) := by decide +kernel
theorem dX9_layExchange_5 : decode cX9_layExchange 5 = .ok (.aload_n 0, 1) := by decide +kernel
theorem dX9_layExchange_6 : decode cX9_layExchange 6 = .ok (.iconst 0, 1) := by decide +kernel
theorem dX9_layExchange_7 : decode cX9_layExchange 7 = .ok (.putfield 188, 3) := by decide +kernel
theorem dX9_layExchange_10 : decode cX9_layExchange 10 = .ok (.iconst 0, 1) := by decide +kernel
theorem dX9_layExchange_11 : decode cX9_layExchange 11 = .ok (.istore_n 1, 1) := by decide +kernel
theorem dX9_layExchange_12 : decode cX9_layExchange 12 = .ok (.iload_n 1, 1) := by decide +kernel
theorem dX9_layExchange_13 : decode cX9_layExchange 13 = .ok (.aload_n 0, 1) := by decide +kernel
theorem dX9_layExchange_14 : decode cX9_layExchange 14 = .ok (.getfield 133, 3) := by decide +kernel
theorem dX9_layExchange_17 : decode cX9_layExchange 17 = .ok (.if_icmp .ge 16, 3) := by decide +kernel
theorem dX9_layExchange_20 : decode cX9_layExchange 20 = .ok (.aload_n 0, 1) := by decide +kernel
theorem dX9_layExchange_21 : decode cX9_layExchange 21 = .ok (.getfield 46, 3) := by decide +kernel
theorem dX9_layExchange_24 : decode cX9_layExchange 24 = .ok (.iload_n 1, 1) := by decide +kernel
theorem dX9_layExchange_25 : decode cX9_layExchange 25 = .ok (.iload_n 1, 1) := by decide +kernel
theorem dX9_layExchange_26 : decode cX9_layExchange 26 = .ok (.iastore, 1) := by decide +kernel
theorem dX9_layExchange_27 : decode cX9_layExchange 27 = .ok (.iinc 1 1, 3) := by decide +kernel
theorem dX9_layExchange_30 : decode cX9_layExchange 30 = .ok (.goto (-18), 3) := by decide +kernel
theorem dX9_layExchange_33 : decode cX9_layExchange 33 = .ok (.iconst 0, 1) := by decide +kernel
theorem dX9_layExchange_34 : decode cX9_layExchange 34 = .ok (.istore_n 1, 1) := by decide +kernel
theorem dX9_layExchange_35 : decode cX9_layExchange 35 = .ok (.iload_n 1, 1) := by decide +kernel
theorem dX9_layExchange_36 : decode cX9_layExchange 36 = .ok (.aload_n 0, 1) := by decide +kernel
theorem dX9_layExchange_37 : decode cX9_layExchange 37 = .ok (.getfield 141, 3) := by decide +kernel
theorem dX9_layExchange_40 : decode cX9_layExchange 40 = .ok (.if_icmp .ge 34, 3) := by decide +kernel
theorem dX9_layExchange_43 : decode cX9_layExchange 43 = .ok (.aload_n 0, 1) := by decide +kernel
theorem dX9_layExchange_44 : decode cX9_layExchange 44 = .ok (.getfield 19, 3) := by decide +kernel
theorem dX9_layExchange_47 : decode cX9_layExchange 47 = .ok (.iload_n 1, 1) := by decide +kernel
theorem dX9_layExchange_48 : decode cX9_layExchange 48 = .ok (.iaload, 1) := by decide +kernel
theorem dX9_layExchange_49 : decode cX9_layExchange 49 = .ok (.ifCond .ne 19, 3) := by decide +kernel
theorem dX9_layExchange_52 : decode cX9_layExchange 52 = .ok (.aload_n 0, 1) := by decide +kernel
theorem dX9_layExchange_53 : decode cX9_layExchange 53 = .ok (.aload_n 0, 1) := by decide +kernel
theorem dX9_layExchange_54 : decode cX9_layExchange 54 = .ok (.getfield 37, 3) := by decide +kernel
theorem dX9_layExchange_57 : decode cX9_layExchange 57 = .ok (.iload_n 1, 1) := by decide +kernel
theorem dX9_layExchange_58 : decode cX9_layExchange 58 = .ok (.iaload, 1) := by decide +kernel
theorem dX9_layExchange_59 : decode cX9_layExchange 59 = .ok (.aload_n 0, 1) := by decide +kernel
theorem dX9_layExchange_60 : decode cX9_layExchange 60 = .ok (.getfield 40, 3) := by decide +kernel
theorem dX9_layExchange_63 : decode cX9_layExchange 63 = .ok (.iload_n 1, 1) := by decide +kernel
theorem dX9_layExchange_64 : decode cX9_layExchange 64 = .ok (.iaload, 1) := by decide +kernel
theorem dX9_layExchange_65 : decode cX9_layExchange 65 = .ok (.invokevirtual 172, 3) := by decide +kernel
theorem dX9_layExchange_68 : decode cX9_layExchange 68 = .ok (.iinc 1 1, 3) := by decide +kernel
theorem dX9_layExchange_71 : decode cX9_layExchange 71 = .ok (.goto (-36), 3) := by decide +kernel
theorem dX9_layExchange_74 : decode cX9_layExchange 74 = .ok (.iconst 1, 1) := by decide +kernel
theorem dX9_layExchange_75 : decode cX9_layExchange 75 = .ok (.istore_n 1, 1) := by decide +kernel
theorem dX9_layExchange_76 : decode cX9_layExchange 76 = .ok (.iload_n 1, 1) := by decide +kernel
theorem dX9_layExchange_77 : decode cX9_layExchange 77 = .ok (.ifCond .eq 48, 3) := by decide +kernel
theorem dX9_layExchange_80 : decode cX9_layExchange 80 = .ok (.aload_n 0, 1) := by decide +kernel
theorem dX9_layExchange_81 : decode cX9_layExchange 81 = .ok (.dup, 1) := by decide +kernel
theorem dX9_layExchange_82 : decode cX9_layExchange 82 = .ok (.getfield 185, 3) := by decide +kernel
theorem dX9_layExchange_85 : decode cX9_layExchange 85 = .ok (.iconst 1, 1) := by decide +kernel
theorem dX9_layExchange_86 : decode cX9_layExchange 86 = .ok (.iadd, 1) := by decide +kernel
theorem dX9_layExchange_87 : decode cX9_layExchange 87 = .ok (.putfield 185, 3) := by decide +kernel
theorem dX9_layExchange_90 : decode cX9_layExchange 90 = .ok (.aload_n 0, 1) := by decide +kernel
theorem dX9_layExchange_91 : decode cX9_layExchange 91 = .ok (.invokevirtual 191, 3) := by decide +kernel
theorem dX9_layExchange_94 : decode cX9_layExchange 94 = .ok (.aload_n 0, 1) := by decide +kernel
theorem dX9_layExchange_95 : decode cX9_layExchange 95 = .ok (.aload_n 0, 1) := by decide +kernel
theorem dX9_layExchange_96 : decode cX9_layExchange 96 = .ok (.invokevirtual 194, 3) := by decide +kernel
theorem dX9_layExchange_99 : decode cX9_layExchange 99 = .ok (.putfield 188, 3) := by decide +kernel
theorem dX9_layExchange_102 : decode cX9_layExchange 102 = .ok (.aload_n 0, 1) := by decide +kernel
theorem dX9_layExchange_103 : decode cX9_layExchange 103 = .ok (.getfield 188, 3) := by decide +kernel
theorem dX9_layExchange_106 : decode cX9_layExchange 106 = .ok (.ifCond .ne 14, 3) := by decide +kernel
theorem dX9_layExchange_109 : decode cX9_layExchange 109 = .ok (.aload_n 0, 1) := by decide +kernel
theorem dX9_layExchange_110 : decode cX9_layExchange 110 = .ok (.invokevirtual 197, 3) := by decide +kernel
theorem dX9_layExchange_113 : decode cX9_layExchange 113 = .ok (.ifCond .eq 7, 3) := by decide +kernel
theorem dX9_layExchange_116 : decode cX9_layExchange 116 = .ok (.iconst 1, 1) := by decide +kernel
theorem dX9_layExchange_117 : decode cX9_layExchange 117 = .ok (.goto 4, 3) := by decide +kernel
theorem dX9_layExchange_120 : decode cX9_layExchange 120 = .ok (.iconst 0, 1) := by decide +kernel
theorem dX9_layExchange_121 : decode cX9_layExchange 121 = .ok (.istore_n 1, 1) := by decide +kernel
theorem dX9_layExchange_122 : decode cX9_layExchange 122 = .ok (.goto (-46), 3) := by decide +kernel
theorem dX9_layExchange_125 : decode cX9_layExchange 125 = .ok (.iconst 0, 1) := by decide +kernel
theorem dX9_layExchange_126 : decode cX9_layExchange 126 = .ok (.istore_n 2, 1) := by decide +kernel
theorem dX9_layExchange_127 : decode cX9_layExchange 127 = .ok (.iload_n 2, 1) := by decide +kernel
theorem dX9_layExchange_128 : decode cX9_layExchange 128 = .ok (.aload_n 0, 1) := by decide +kernel
theorem dX9_layExchange_129 : decode cX9_layExchange 129 = .ok (.getfield 141, 3) := by decide +kernel
theorem dX9_layExchange_132 : decode cX9_layExchange 132 = .ok (.if_icmp .ge 60, 3) := by decide +kernel
theorem dX9_layExchange_135 : decode cX9_layExchange 135 = .ok (.aload_n 0, 1) := by decide +kernel
theorem dX9_layExchange_136 : decode cX9_layExchange 136 = .ok (.aload_n 0, 1) := by decide +kernel
theorem dX9_layExchange_137 : decode cX9_layExchange 137 = .ok (.getfield 188, 3) := by decide +kernel
theorem dX9_layExchange_140 : decode cX9_layExchange 140 = .ok (.ifCond .ne 38, 3) := by decide +kernel
theorem dX9_layExchange_143 : decode cX9_layExchange 143 = .ok (.aload_n 0, 1) := by decide +kernel
theorem dX9_layExchange_144 : decode cX9_layExchange 144 = .ok (.getfield 19, 3) := by decide +kernel
theorem dX9_layExchange_147 : decode cX9_layExchange 147 = .ok (.iload_n 2, 1) := by decide +kernel
theorem dX9_layExchange_148 : decode cX9_layExchange 148 = .ok (.iaload, 1) := by decide +kernel
theorem dX9_layExchange_149 : decode cX9_layExchange 149 = .ok (.iconst 1, 1) := by decide +kernel
theorem dX9_layExchange_150 : decode cX9_layExchange 150 = .ok (.if_icmp .ne 32, 3) := by decide +kernel
theorem dX9_layExchange_153 : decode cX9_layExchange 153 = .ok (.aload_n 0, 1) := by decide +kernel
theorem dX9_layExchange_154 : decode cX9_layExchange 154 = .ok (.getfield 46, 3) := by decide +kernel
theorem dX9_layExchange_157 : decode cX9_layExchange 157 = .ok (.aload_n 0, 1) := by decide +kernel
theorem dX9_layExchange_158 : decode cX9_layExchange 158 = .ok (.getfield 37, 3) := by decide +kernel
theorem dX9_layExchange_161 : decode cX9_layExchange 161 = .ok (.iload_n 2, 1) := by decide +kernel
theorem dX9_layExchange_162 : decode cX9_layExchange 162 = .ok (.iaload, 1) := by decide +kernel
theorem dX9_layExchange_163 : decode cX9_layExchange 163 = .ok (.iaload, 1) := by decide +kernel
theorem dX9_layExchange_164 : decode cX9_layExchange 164 = .ok (.aload_n 0, 1) := by decide +kernel
theorem dX9_layExchange_165 : decode cX9_layExchange 165 = .ok (.getfield 46, 3) := by decide +kernel
theorem dX9_layExchange_168 : decode cX9_layExchange 168 = .ok (.aload_n 0, 1) := by decide +kernel
theorem dX9_layExchange_169 : decode cX9_layExchange 169 = .ok (.getfield 40, 3) := by decide +kernel
theorem dX9_layExchange_172 : decode cX9_layExchange 172 = .ok (.iload_n 2, 1) := by decide +kernel
theorem dX9_layExchange_173 : decode cX9_layExchange 173 = .ok (.iaload, 1) := by decide +kernel
theorem dX9_layExchange_174 : decode cX9_layExchange 174 = .ok (.iaload, 1) := by decide +kernel
theorem dX9_layExchange_175 : decode cX9_layExchange 175 = .ok (.if_icmp .ne 7, 3) := by decide +kernel
theorem dX9_layExchange_178 : decode cX9_layExchange 178 = .ok (.iconst 1, 1) := by decide +kernel
theorem dX9_layExchange_179 : decode cX9_layExchange 179 = .ok (.goto 4, 3) := by decide +kernel
theorem dX9_layExchange_182 : decode cX9_layExchange 182 = .ok (.iconst 0, 1) := by decide +kernel
theorem dX9_layExchange_183 : decode cX9_layExchange 183 = .ok (.putfield 188, 3) := by decide +kernel
theorem dX9_layExchange_186 : decode cX9_layExchange 186 = .ok (.iinc 2 1, 3) := by decide +kernel
theorem dX9_layExchange_189 : decode cX9_layExchange 189 = .ok (.goto (-62), 3) := by decide +kernel
theorem dX9_layExchange_192 : decode cX9_layExchange 192 = .ok (.return_, 1) := by decide +kernel
theorem dX9_sameSets_0 : decode cX9_sameSets 0 = .ok (.iconst 0, 1) := by decide +kernel
theorem dX9_sameSets_1 : decode cX9_sameSets 1 = .ok (.istore_n 1, 1) := by decide +kernel
theorem dX9_sameSets_2 : decode cX9_sameSets 2 = .ok (.iconst 0, 1) := by decide +kernel
theorem dX9_sameSets_3 : decode cX9_sameSets 3 = .ok (.istore_n 2, 1) := by decide +kernel
theorem dX9_sameSets_4 : decode cX9_sameSets 4 = .ok (.iload_n 2, 1) := by decide +kernel
theorem dX9_sameSets_5 : decode cX9_sameSets 5 = .ok (.aload_n 0, 1) := by decide +kernel
theorem dX9_sameSets_6 : decode cX9_sameSets 6 = .ok (.getfield 133, 3) := by decide +kernel
theorem dX9_sameSets_9 : decode cX9_sameSets 9 = .ok (.if_icmp .ge 27, 3) := by decide +kernel
theorem dX9_sameSets_12 : decode cX9_sameSets 12 = .ok (.iload_n 1, 1) := by decide +kernel
theorem dX9_sameSets_13 : decode cX9_sameSets 13 = .ok (.aload_n 0, 1) := by decide +kernel
theorem dX9_sameSets_14 : decode cX9_sameSets 14 = .ok (.getfield 46, 3) := by decide +kernel
theorem dX9_sameSets_17 : decode cX9_sameSets 17 = .ok (.iload_n 2, 1) := by decide +kernel
theorem dX9_sameSets_18 : decode cX9_sameSets 18 = .ok (.iaload, 1) := by decide +kernel
theorem dX9_sameSets_19 : decode cX9_sameSets 19 = .ok (.iload_n 2, 1) := by decide +kernel
theorem dX9_sameSets_20 : decode cX9_sameSets 20 = .ok (.if_icmp .ne 7, 3) := by decide +kernel
theorem dX9_sameSets_23 : decode cX9_sameSets 23 = .ok (.iconst 1, 1) := by decide +kernel
theorem dX9_sameSets_24 : decode cX9_sameSets 24 = .ok (.goto 4, 3) := by decide +kernel
theorem dX9_sameSets_27 : decode cX9_sameSets 27 = .ok (.iconst 0, 1) := by decide +kernel
theorem dX9_sameSets_28 : decode cX9_sameSets 28 = .ok (.iadd, 1) := by decide +kernel
theorem dX9_sameSets_29 : decode cX9_sameSets 29 = .ok (.istore_n 1, 1) := by decide +kernel
theorem dX9_sameSets_30 : decode cX9_sameSets 30 = .ok (.iinc 2 1, 3) := by decide +kernel
theorem dX9_sameSets_33 : decode cX9_sameSets 33 = .ok (.goto (-29), 3) := by decide +kernel
theorem dX9_sameSets_36 : decode cX9_sameSets 36 = .ok (.iload_n 1, 1) := by decide +kernel
theorem dX9_sameSets_37 : decode cX9_sameSets 37 = .ok (.ireturn, 1) := by decide +kernel
set_option maxRecDepth 20000 in
theorem ggX9_exchangeNow_X9_layExchange : GoodIn wsX9_exchangeNow wsX9_layExchange := goodIn_r _ [7, 2, 1, 8, 9, 10, 11, 12, 13, 14, 15, 16, 6, 17, 18, 19, 20, 21, 22, 23, 24, 25, 26, 27, 28, 29, 30, 31, 32, 33, 34, 35, 36, 37, 38, 39, 40, 41, 42, 43, 44, 45, 46, 51, 52, 53, 54, 55, 56, 57, 58, 59, 60, 61, 62, 63, 64, 65, 66, 67, 68, 69, 70, 71, 72, 73, 74, 75, 76, 77, 78, 79, 80, 81, 82, 83, 84, 85, 86, 87, 88, 89, 90, 91, 92, 93, 94, 95, 96, 97, 98] (by decide +kernel) (by decide +kernel)
set_option maxRecDepth 20000 in
theorem gX9_exchangeNow_X9_layExchange : GoodIn wsX9_exchangeNow (wsV RX9 200 RX9 yX9_layExchange wsX9_layExchange) := goodIn_app (goodIn_of _ (by decide +kernel)) ggX9_exchangeNow_X9_layExchange
set_option maxRecDepth 20000 in
theorem ggX9_exchangeNow_X9_sameSets : GoodIn wsX9_exchangeNow wsX9_sameSets := goodIn_r _ [50, 8, 9, 51, 52, 53, 54, 55, 56, 57, 58, 59, 60, 61, 62, 63, 64, 65, 66, 67, 68, 69, 70, 71, 72, 73, 74, 75, 76, 77, 78, 79, 80, 81, 82, 83, 84, 85, 86, 87, 88, 89, 90, 91, 92, 93, 94, 95, 96, 97, 98] (by decide +kernel) (by decide +kernel)
set_option maxRecDepth 20000 in
theorem gX9_exchangeNow_X9_sameSets : GoodIn wsX9_exchangeNow (wsV RX9 203 RX9 yX9_sameSets wsX9_sameSets) := goodIn_app (goodIn_of _ (by decide +kernel)) ggX9_exchangeNow_X9_sameSets
theorem dX9_exchangeNow_0 : decode cX9_exchangeNow 0 = .ok (.aload_n 0, 1) := by decide +kernel
theorem dX9_exchangeNow_1 : decode cX9_exchangeNow 1 = .ok (.invokevirtual 200, 3) := by decide +kernel
theorem dX9_exchangeNow_4 : decode cX9_exchangeNow 4 = .ok (.iload_n 1, 1) := by decide +kernel
theorem dX9_exchangeNow_5 : decode cX9_exchangeNow 5 = .ok (.ifCond .ne 18, 3) := by decide +kernel
theorem dX9_exchangeNow_8 : decode cX9_exchangeNow 8 = .ok (.aload_n 0, 1) := by decide +kernel
theorem dX9_exchangeNow_9 : decode cX9_exchangeNow 9 = .ok (.getfield 188, 3) := by decide +kernel
theorem dX9_exchangeNow_12 : decode cX9_exchangeNow 12 = .ok (.ifCond .eq 7, 3) := by decide +kernel
theorem dX9_exchangeNow_15 : decode cX9_exchangeNow 15 = .ok (.iconst 1, 1) := by decide +kernel
theorem dX9_exchangeNow_16 : decode cX9_exchangeNow 16 = .ok (.goto 23, 3) := by decide +kernel
theorem dX9_exchangeNow_19 : decode cX9_exchangeNow 19 = .ok (.iconst 0, 1) := by decide +kernel
theorem dX9_exchangeNow_20 : decode cX9_exchangeNow 20 = .ok (.goto 19, 3) := by decide +kernel
theorem dX9_exchangeNow_23 : decode cX9_exchangeNow 23 = .ok (.iload_n 1, 1) := by decide +kernel
theorem dX9_exchangeNow_24 : decode cX9_exchangeNow 24 = .ok (.iconst 1, 1) := by decide +kernel
theorem dX9_exchangeNow_25 : decode cX9_exchangeNow 25 = .ok (.if_icmp .ne 10, 3) := by decide +kernel
theorem dX9_exchangeNow_28 : decode cX9_exchangeNow 28 = .ok (.aload_n 0, 1) := by decide +kernel
theorem dX9_exchangeNow_29 : decode cX9_exchangeNow 29 = .ok (.getfield 185, 3) := by decide +kernel
theorem dX9_exchangeNow_32 : decode cX9_exchangeNow 32 = .ok (.goto 7, 3) := by decide +kernel
theorem dX9_exchangeNow_35 : decode cX9_exchangeNow 35 = .ok (.aload_n 0, 1) := by decide +kernel
theorem dX9_exchangeNow_36 : decode cX9_exchangeNow 36 = .ok (.invokevirtual 203, 3) := by decide +kernel
theorem dX9_exchangeNow_39 : decode cX9_exchangeNow 39 = .ok (.ireturn, 1) := by decide +kernel
set_option maxRecDepth 20000 in
theorem ggX9_exchange_X9_within : GoodIn wsX9_exchange wsX9_within := goodIn_r _ [5] (by decide +kernel) (by decide +kernel)
set_option maxRecDepth 20000 in
theorem gX9_exchange_X9_within : GoodIn wsX9_exchange (va_wsS RX9 77 yX9_within wsX9_within) := goodIn_app (goodIn_of _ (by decide +kernel)) ggX9_exchange_X9_within
set_option maxRecDepth 20000 in
theorem ggX9_exchange_X9_exchangeNow : GoodIn wsX9_exchange wsX9_exchangeNow := goodIn_r _ [9, 10, 11, 12, 13, 14, 4, 15, 16, 17, 18, 19, 20, 21, 22, 23, 24, 25, 26, 27, 28, 29, 30, 31, 32, 33, 34, 35, 36, 37, 38, 39, 40, 41, 42, 43, 44, 45, 46, 47, 48, 49, 50, 51, 52, 53, 54, 55, 56, 57, 58, 59, 60, 61, 62, 63, 64, 65, 66, 67, 68, 69, 70, 71, 72, 73, 74, 75, 76, 77, 78, 79, 80, 81, 82, 83, 84, 85, 86, 87, 88, 89, 90, 91, 92, 93, 94, 95, 96, 97, 98, 99, 100, 101, 102, 103, 104, 105, 106] (by decide +kernel) (by decide +kernel)
set_option maxRecDepth 20000 in
theorem gX9_exchange_X9_exchangeNow : GoodIn wsX9_exchange (wsV RX9 206 RX9 yX9_exchangeNow wsX9_exchangeNow) := goodIn_app (goodIn_of _ (by decide +kernel)) ggX9_exchange_X9_exchangeNow
theorem dX9_exchange_0 : decode cX9_exchange 0 = .ok (.iload_n 1, 1) := by decide +kernel
theorem dX9_exchange_1 : decode cX9_exchange 1 = .ok (.iconst 0, 1) := by decide +kernel
theorem dX9_exchange_2 : decode cX9_exchange 2 = .ok (.iconst 2, 1) := by decide +kernel
theorem dX9_exchange_3 : decode cX9_exchange 3 = .ok (.invokestatic 77, 3) := by decide +kernel
theorem dX9_exchange_6 : decode cX9_exchange 6 = .ok (.ifCond .eq 11, 3) := by decide +kernel
theorem dX9_exchange_9 : decode cX9_exchange 9 = .ok (.aload_n 0, 1) := by decide +kernel
theorem dX9_exchange_10 : decode cX9_exchange 10 = .ok (.iload_n 1, 1) := by decide +kernel
theorem dX9_exchange_11 : decode cX9_exchange 11 = .ok (.invokevirtual 206, 3) := by decide +kernel
theorem dX9_exchange_14 : decode cX9_exchange 14 = .ok (.goto 5, 3) := by decide +kernel
theorem dX9_exchange_17 : decode cX9_exchange 17 = .ok (.ldc 81, 2) := by decide +kernel
theorem dX9_exchange_19 : decode cX9_exchange 19 = .ok (.ireturn, 1) := by decide +kernel
set_option maxRecDepth 20000 in
theorem ggX9_areTerms_X9_within : GoodIn wsX9_areTerms wsX9_within := goodIn_r _ [5] (by decide +kernel) (by decide +kernel)
set_option maxRecDepth 20000 in
theorem gX9_areTerms_X9_within : GoodIn wsX9_areTerms (va_wsS RX9 77 yX9_within wsX9_within) := goodIn_app (goodIn_of _ (by decide +kernel)) ggX9_areTerms_X9_within
theorem dX9_areTerms_0 : decode cX9_areTerms 0 = .ok (.iload_n 1, 1) := by decide +kernel
theorem dX9_areTerms_1 : decode cX9_areTerms 1 = .ok (.iconst 0, 1) := by decide +kernel
theorem dX9_areTerms_2 : decode cX9_areTerms 2 = .ok (.aload_n 0, 1) := by decide +kernel
theorem dX9_areTerms_3 : decode cX9_areTerms 3 = .ok (.getfield 133, 3) := by decide +kernel
theorem dX9_areTerms_6 : decode cX9_areTerms 6 = .ok (.iconst 1, 1) := by decide +kernel
theorem dX9_areTerms_7 : decode cX9_areTerms 7 = .ok (.isub, 1) := by decide +kernel
theorem dX9_areTerms_8 : decode cX9_areTerms 8 = .ok (.invokestatic 77, 3) := by decide +kernel
theorem dX9_areTerms_11 : decode cX9_areTerms 11 = .ok (.ifCond .eq 21, 3) := by decide +kernel
theorem dX9_areTerms_14 : decode cX9_areTerms 14 = .ok (.iload_n 2, 1) := by decide +kernel
theorem dX9_areTerms_15 : decode cX9_areTerms 15 = .ok (.iconst 0, 1) := by decide +kernel
theorem dX9_areTerms_16 : decode cX9_areTerms 16 = .ok (.aload_n 0, 1) := by decide +kernel
theorem dX9_areTerms_17 : decode cX9_areTerms 17 = .ok (.getfield 133, 3) := by decide +kernel
theorem dX9_areTerms_20 : decode cX9_areTerms 20 = .ok (.iconst 1, 1) := by decide +kernel
theorem dX9_areTerms_21 : decode cX9_areTerms 21 = .ok (.isub, 1) := by decide +kernel
theorem dX9_areTerms_22 : decode cX9_areTerms 22 = .ok (.invokestatic 77, 3) := by decide +kernel
theorem dX9_areTerms_25 : decode cX9_areTerms 25 = .ok (.ifCond .eq 7, 3) := by decide +kernel
theorem dX9_areTerms_28 : decode cX9_areTerms 28 = .ok (.iconst 1, 1) := by decide +kernel
theorem dX9_areTerms_29 : decode cX9_areTerms 29 = .ok (.goto 4, 3) := by decide +kernel
theorem dX9_areTerms_32 : decode cX9_areTerms 32 = .ok (.iconst 0, 1) := by decide +kernel
theorem dX9_areTerms_33 : decode cX9_areTerms 33 = .ok (.ireturn, 1) := by decide +kernel
theorem dX9_told_0 : decode cX9_told 0 = .ok (.lload_n 0, 1) := by decide +kernel
theorem dX9_told_1 : decode cX9_told 1 = .ok (.ldc2_w 163, 3) := by decide +kernel
theorem dX9_told_4 : decode cX9_told 4 = .ok (.lcmp, 1) := by decide +kernel
theorem dX9_told_5 : decode cX9_told 5 = .ok (.ifCond .gt 11, 3) := by decide +kernel
theorem dX9_told_8 : decode cX9_told 8 = .ok (.lload_n 0, 1) := by decide +kernel
theorem dX9_told_9 : decode cX9_told 9 = .ok (.ldc2_w 165, 3) := by decide +kernel
theorem dX9_told_12 : decode cX9_told 12 = .ok (.lcmp, 1) := by decide +kernel
theorem dX9_told_13 : decode cX9_told 13 = .ok (.ifCond .ge 8, 3) := by decide +kernel
theorem dX9_told_16 : decode cX9_told 16 = .ok (.ldc 167, 2) := by decide +kernel
theorem dX9_told_18 : decode cX9_told 18 = .ok (.goto 5, 3) := by decide +kernel
theorem dX9_told_21 : decode cX9_told 21 = .ok (.lload_n 0, 1) := by decide +kernel
theorem dX9_told_22 : decode cX9_told 22 = .ok (.l2i, 1) := by decide +kernel
theorem dX9_told_23 : decode cX9_told 23 = .ok (.ireturn, 1) := by decide +kernel
set_option maxRecDepth 20000 in
theorem ggX9_far_X9_areTerms : GoodIn wsX9_far wsX9_areTerms := goodIn_r _ [11, 12, 13, 14, 10, 15, 63, 64, 65, 66, 67, 68, 69, 70, 71, 72, 73, 74, 75, 76, 77, 78, 79, 80, 81, 82, 83, 84, 85, 86, 87, 88, 89, 90, 91, 92, 93, 94, 95, 96, 97, 98, 99, 100, 101, 102, 103, 104, 105, 106, 107, 108, 109, 110] (by decide +kernel) (by decide +kernel)
set_option maxRecDepth 20000 in
theorem gX9_far_X9_areTerms : GoodIn wsX9_far (wsV RX9 210 RX9 yX9_areTerms wsX9_areTerms) := goodIn_app (goodIn_of _ (by decide +kernel)) ggX9_far_X9_areTerms
set_option maxRecDepth 20000 in
theorem ggX9_far_X9_layExchange : GoodIn wsX9_far wsX9_layExchange := goodIn_r _ [19, 20, 2, 12, 21, 22, 23, 24, 25, 26, 27, 28, 10, 29, 30, 31, 32, 33, 34, 35, 36, 37, 38, 39, 40, 41, 42, 43, 44, 4, 5, 45, 46, 47, 48, 49, 50, 51, 52, 53, 54, 55, 56, 63, 64, 65, 66, 67, 68, 69, 70, 71, 72, 73, 74, 75, 76, 77, 78, 79, 80, 81, 82, 83, 84, 85, 86, 87, 88, 89, 90, 91, 92, 93, 94, 95, 96, 97, 98, 99, 100, 101, 102, 103, 104, 105, 106, 107, 108, 109, 110] (by decide +kernel) (by decide +kernel)
set_option maxRecDepth 20000 in
theorem gX9_far_X9_layExchange : GoodIn wsX9_far (wsV RX9 200 RX9 yX9_layExchange wsX9_layExchange) := goodIn_app (goodIn_of _ (by decide +kernel)) ggX9_far_X9_layExchange
set_option maxRecDepth 20000 in
theorem ggX9_far_X9_told : GoodIn wsX9_far wsX9_told := goodIn_r _ [59, 60, 61, 62] (by decide +kernel) (by decide +kernel)
set_option maxRecDepth 20000 in
theorem gX9_far_X9_told : GoodIn wsX9_far (va_wsS RX9 213 yX9_told wsX9_told) := goodIn_app (goodIn_of _ (by decide +kernel)) ggX9_far_X9_told
theorem dX9_far_0 : decode cX9_far 0 = .ok (.aload_n 0, 1) := by decide +kernel
theorem dX9_far_1 : decode cX9_far 1 = .ok (.iload_n 1, 1) := by decide +kernel
theorem dX9_far_2 : decode cX9_far 2 = .ok (.iload_n 2, 1) := by decide +kernel
theorem dX9_far_3 : decode cX9_far 3 = .ok (.invokevirtual 210, 3) := by decide +kernel
theorem dX9_far_6 : decode cX9_far 6 = .ok (.ifCond .ne 6, 3) := by decide +kernel
theorem dX9_far_9 : decode cX9_far 9 = .ok (.ldc 159, 2) := by decide +kernel
theorem dX9_far_11 : decode cX9_far 11 = .ok (.ireturn, 1) := by decide +kernel
theorem dX9_far_12 : decode cX9_far 12 = .ok (.aload_n 0, 1) := by decide +kernel
theorem dX9_far_13 : decode cX9_far 13 = .ok (.invokevirtual 200, 3) := by decide +kernel
theorem dX9_far_16 : decode cX9_far 16 = .ok (.aload_n 0, 1) := by decide +kernel
theorem dX9_far_17 : decode cX9_far 17 = .ok (.getfield 188, 3) := by decide +kernel
theorem dX9_far_20 : decode cX9_far 20 = .ok (.ifCond .eq 6, 3) := by decide +kernel
theorem dX9_far_23 : decode cX9_far 23 = .ok (.ldc 152, 2) := by decide +kernel
theorem dX9_far_25 : decode cX9_far 25 = .ok (.ireturn, 1) := by decide +kernel
theorem dX9_far_26 : decode cX9_far 26 = .ok (.aload_n 0, 1) := by decide +kernel
theorem dX9_far_27 : decode cX9_far 27 = .ok (.getfield 49, 3) := by decide +kernel
theorem dX9_far_30 : decode cX9_far 30 = .ok (.bipush 10, 2) := by decide +kernel
theorem dX9_far_32 : decode cX9_far 32 = .ok (.iload_n 1, 1) := by decide +kernel
theorem dX9_far_33 : decode cX9_far 33 = .ok (.imul, 1) := by decide +kernel
theorem dX9_far_34 : decode cX9_far 34 = .ok (.iload_n 2, 1) := by decide +kernel
theorem dX9_far_35 : decode cX9_far 35 = .ok (.iadd, 1) := by decide +kernel
theorem dX9_far_36 : decode cX9_far 36 = .ok (.laload, 1) := by decide +kernel
theorem dX9_far_37 : decode cX9_far 37 = .ok (.ldc2_w 176, 3) := by decide +kernel
theorem dX9_far_40 : decode cX9_far 40 = .ok (.lcmp, 1) := by decide +kernel
theorem dX9_far_41 : decode cX9_far 41 = .ok (.ifCond .ne 8, 3) := by decide +kernel
theorem dX9_far_44 : decode cX9_far 44 = .ok (.ldc 140, 2) := by decide +kernel
theorem dX9_far_46 : decode cX9_far 46 = .ok (.goto 17, 3) := by decide +kernel
theorem dX9_far_49 : decode cX9_far 49 = .ok (.aload_n 0, 1) := by decide +kernel
theorem dX9_far_50 : decode cX9_far 50 = .ok (.getfield 49, 3) := by decide +kernel
theorem dX9_far_53 : decode cX9_far 53 = .ok (.bipush 10, 2) := by decide +kernel
theorem dX9_far_55 : decode cX9_far 55 = .ok (.iload_n 1, 1) := by decide +kernel
theorem dX9_far_56 : decode cX9_far 56 = .ok (.imul, 1) := by decide +kernel
theorem dX9_far_57 : decode cX9_far 57 = .ok (.iload_n 2, 1) := by decide +kernel
theorem dX9_far_58 : decode cX9_far 58 = .ok (.iadd, 1) := by decide +kernel
theorem dX9_far_59 : decode cX9_far 59 = .ok (.laload, 1) := by decide +kernel
theorem dX9_far_60 : decode cX9_far 60 = .ok (.invokestatic 213, 3) := by decide +kernel
theorem dX9_far_63 : decode cX9_far 63 = .ok (.ireturn, 1) := by decide +kernel
theorem dX9_has_0 : decode cX9_has 0 = .ok (.iload_n 0, 1) := by decide +kernel
theorem dX9_has_1 : decode cX9_has 1 = .ok (.iload_n 1, 1) := by decide +kernel
theorem dX9_has_2 : decode cX9_has 2 = .ok (.ishr, 1) := by decide +kernel
theorem dX9_has_3 : decode cX9_has 3 = .ok (.iconst 1, 1) := by decide +kernel
theorem dX9_has_4 : decode cX9_has 4 = .ok (.iand, 1) := by decide +kernel
theorem dX9_has_5 : decode cX9_has 5 = .ok (.iconst 1, 1) := by decide +kernel
theorem dX9_has_6 : decode cX9_has 6 = .ok (.if_icmp .ne 7, 3) := by decide +kernel
theorem dX9_has_9 : decode cX9_has 9 = .ok (.iconst 1, 1) := by decide +kernel
theorem dX9_has_10 : decode cX9_has 10 = .ok (.goto 4, 3) := by decide +kernel
theorem dX9_has_13 : decode cX9_has 13 = .ok (.iconst 0, 1) := by decide +kernel
theorem dX9_has_14 : decode cX9_has 14 = .ok (.ireturn, 1) := by decide +kernel
set_option maxRecDepth 20000 in
theorem ggX9_bound_X9_least : GoodIn wsX9_bound wsX9_least := goodIn_r _ [7] (by decide +kernel) (by decide +kernel)
set_option maxRecDepth 20000 in
theorem gX9_bound_X9_least : GoodIn wsX9_bound (va_wsS RX9 178 yX9_least wsX9_least) := goodIn_app (goodIn_of _ (by decide +kernel)) ggX9_bound_X9_least
theorem dX9_bound_0 : decode cX9_bound 0 = .ok (.bipush 100, 2) := by decide +kernel
theorem dX9_bound_2 : decode cX9_bound 2 = .ok (.iload_n 1, 1) := by decide +kernel
theorem dX9_bound_3 : decode cX9_bound 3 = .ok (.imul, 1) := by decide +kernel
theorem dX9_bound_4 : decode cX9_bound 4 = .ok (.istore 6, 2) := by decide +kernel
theorem dX9_bound_6 : decode cX9_bound 6 = .ok (.aload_n 0, 1) := by decide +kernel
theorem dX9_bound_7 : decode cX9_bound 7 = .ok (.getfield 53, 3) := by decide +kernel
theorem dX9_bound_10 : decode cX9_bound 10 = .ok (.iload 6, 2) := by decide +kernel
theorem dX9_bound_12 : decode cX9_bound 12 = .ok (.bipush 10, 2) := by decide +kernel
theorem dX9_bound_14 : decode cX9_bound 14 = .ok (.iload_n 3, 1) := by decide +kernel
theorem dX9_bound_15 : decode cX9_bound 15 = .ok (.imul, 1) := by decide +kernel
theorem dX9_bound_16 : decode cX9_bound 16 = .ok (.iadd, 1) := by decide +kernel
theorem dX9_bound_17 : decode cX9_bound 17 = .ok (.iload_n 2, 1) := by decide +kernel
theorem dX9_bound_18 : decode cX9_bound 18 = .ok (.iadd, 1) := by decide +kernel
theorem dX9_bound_19 : decode cX9_bound 19 = .ok (.laload, 1) := by decide +kernel
theorem dX9_bound_20 : decode cX9_bound 20 = .ok (.lstore 7, 2) := by decide +kernel
theorem dX9_bound_22 : decode cX9_bound 22 = .ok (.lload 7, 2) := by decide +kernel
theorem dX9_bound_24 : decode cX9_bound 24 = .ok (.ldc2_w 176, 3) := by decide +kernel
theorem dX9_bound_27 : decode cX9_bound 27 = .ok (.lcmp, 1) := by decide +kernel
theorem dX9_bound_28 : decode cX9_bound 28 = .ok (.ifCond .ge 15, 3) := by decide +kernel
theorem dX9_bound_31 : decode cX9_bound 31 = .ok (.lload 7, 2) := by decide +kernel
theorem dX9_bound_33 : decode cX9_bound 33 = .ok (.lload 4, 2) := by decide +kernel
theorem dX9_bound_35 : decode cX9_bound 35 = .ok (.ladd, 1) := by decide +kernel
theorem dX9_bound_36 : decode cX9_bound 36 = .ok (.lconst 0, 1) := by decide +kernel
theorem dX9_bound_37 : decode cX9_bound 37 = .ok (.lcmp, 1) := by decide +kernel
theorem dX9_bound_38 : decode cX9_bound 38 = .ok (.ifCond .ge 5, 3) := by decide +kernel
theorem dX9_bound_41 : decode cX9_bound 41 = .ok (.iconst 0, 1) := by decide +kernel
theorem dX9_bound_42 : decode cX9_bound 42 = .ok (.ireturn, 1) := by decide +kernel
theorem dX9_bound_43 : decode cX9_bound 43 = .ok (.iconst 0, 1) := by decide +kernel
theorem dX9_bound_44 : decode cX9_bound 44 = .ok (.istore 9, 2) := by decide +kernel
theorem dX9_bound_46 : decode cX9_bound 46 = .ok (.iload 9, 2) := by decide +kernel
theorem dX9_bound_48 : decode cX9_bound 48 = .ok (.aload_n 0, 1) := by decide +kernel
theorem dX9_bound_49 : decode cX9_bound 49 = .ok (.getfield 133, 3) := by decide +kernel
theorem dX9_bound_52 : decode cX9_bound 52 = .ok (.if_icmp .ge 122, 3) := by decide +kernel
theorem dX9_bound_55 : decode cX9_bound 55 = .ok (.iconst 0, 1) := by decide +kernel
theorem dX9_bound_56 : decode cX9_bound 56 = .ok (.istore 10, 2) := by decide +kernel
theorem dX9_bound_58 : decode cX9_bound 58 = .ok (.iload 10, 2) := by decide +kernel
theorem dX9_bound_60 : decode cX9_bound 60 = .ok (.aload_n 0, 1) := by decide +kernel
theorem dX9_bound_61 : decode cX9_bound 61 = .ok (.getfield 133, 3) := by decide +kernel
theorem dX9_bound_64 : decode cX9_bound 64 = .ok (.if_icmp .ge 104, 3) := by decide +kernel
theorem dX9_bound_67 : decode cX9_bound 67 = .ok (.aload_n 0, 1) := by decide +kernel
theorem dX9_bound_68 : decode cX9_bound 68 = .ok (.getfield 53, 3) := by decide +kernel
theorem dX9_bound_71 : decode cX9_bound 71 = .ok (.iload 6, 2) := by decide +kernel
theorem dX9_bound_73 : decode cX9_bound 73 = .ok (.bipush 10, 2) := by decide +kernel
theorem dX9_bound_75 : decode cX9_bound 75 = .ok (.iload 9, 2) := by decide +kernel
theorem dX9_bound_77 : decode cX9_bound 77 = .ok (.imul, 1) := by decide +kernel
theorem dX9_bound_78 : decode cX9_bound 78 = .ok (.iadd, 1) := by decide +kernel
theorem dX9_bound_79 : decode cX9_bound 79 = .ok (.iload_n 2, 1) := by decide +kernel
theorem dX9_bound_80 : decode cX9_bound 80 = .ok (.iadd, 1) := by decide +kernel
theorem dX9_bound_81 : decode cX9_bound 81 = .ok (.laload, 1) := by decide +kernel
theorem dX9_bound_82 : decode cX9_bound 82 = .ok (.lstore 11, 2) := by decide +kernel
theorem dX9_bound_84 : decode cX9_bound 84 = .ok (.aload_n 0, 1) := by decide +kernel
theorem dX9_bound_85 : decode cX9_bound 85 = .ok (.getfield 53, 3) := by decide +kernel
theorem dX9_bound_88 : decode cX9_bound 88 = .ok (.iload 6, 2) := by decide +kernel
theorem dX9_bound_90 : decode cX9_bound 90 = .ok (.bipush 10, 2) := by decide +kernel
theorem dX9_bound_92 : decode cX9_bound 92 = .ok (.iload_n 3, 1) := by decide +kernel
theorem dX9_bound_93 : decode cX9_bound 93 = .ok (.imul, 1) := by decide +kernel
theorem dX9_bound_94 : decode cX9_bound 94 = .ok (.iadd, 1) := by decide +kernel
theorem dX9_bound_95 : decode cX9_bound 95 = .ok (.iload 10, 2) := by decide +kernel
theorem dX9_bound_97 : decode cX9_bound 97 = .ok (.iadd, 1) := by decide +kernel
theorem dX9_bound_98 : decode cX9_bound 98 = .ok (.laload, 1) := by decide +kernel
theorem dX9_bound_99 : decode cX9_bound 99 = .ok (.lstore 13, 2) := by decide +kernel
theorem dX9_bound_101 : decode cX9_bound 101 = .ok (.lload 11, 2) := by decide +kernel
theorem dX9_bound_103 : decode cX9_bound 103 = .ok (.ldc2_w 176, 3) := by decide +kernel
theorem dX9_bound_106 : decode cX9_bound 106 = .ok (.lcmp, 1) := by decide +kernel
theorem dX9_bound_107 : decode cX9_bound 107 = .ok (.ifCond .ge 55, 3) := by decide +kernel
theorem dX9_bound_110 : decode cX9_bound 110 = .ok (.lload 13, 2) := by decide +kernel
theorem dX9_bound_112 : decode cX9_bound 112 = .ok (.ldc2_w 176, 3) := by decide +kernel
theorem dX9_bound_115 : decode cX9_bound 115 = .ok (.lcmp, 1) := by decide +kernel
theorem dX9_bound_116 : decode cX9_bound 116 = .ok (.ifCond .ge 46, 3) := by decide +kernel
theorem dX9_bound_119 : decode cX9_bound 119 = .ok (.aload_n 0, 1) := by decide +kernel
theorem dX9_bound_120 : decode cX9_bound 120 = .ok (.getfield 53, 3) := by decide +kernel
theorem dX9_bound_123 : decode cX9_bound 123 = .ok (.iload 6, 2) := by decide +kernel
theorem dX9_bound_125 : decode cX9_bound 125 = .ok (.bipush 10, 2) := by decide +kernel
theorem dX9_bound_127 : decode cX9_bound 127 = .ok (.iload 9, 2) := by decide +kernel
theorem dX9_bound_129 : decode cX9_bound 129 = .ok (.imul, 1) := by decide +kernel
theorem dX9_bound_130 : decode cX9_bound 130 = .ok (.iadd, 1) := by decide +kernel
theorem dX9_bound_131 : decode cX9_bound 131 = .ok (.iload 10, 2) := by decide +kernel
theorem dX9_bound_133 : decode cX9_bound 133 = .ok (.iadd, 1) := by decide +kernel
theorem dX9_bound_134 : decode cX9_bound 134 = .ok (.aload_n 0, 1) := by decide +kernel
theorem dX9_bound_135 : decode cX9_bound 135 = .ok (.getfield 53, 3) := by decide +kernel
theorem dX9_bound_138 : decode cX9_bound 138 = .ok (.iload 6, 2) := by decide +kernel
theorem dX9_bound_140 : decode cX9_bound 140 = .ok (.bipush 10, 2) := by decide +kernel
theorem dX9_bound_142 : decode cX9_bound 142 = .ok (.iload 9, 2) := by decide +kernel
theorem dX9_bound_144 : decode cX9_bound 144 = .ok (.imul, 1) := by decide +kernel
theorem dX9_bound_145 : decode cX9_bound 145 = .ok (.iadd, 1) := by decide +kernel
theorem dX9_bound_146 : decode cX9_bound 146 = .ok (.iload 10, 2) := by decide +kernel
theorem dX9_bound_148 : decode cX9_bound 148 = .ok (.iadd, 1) := by decide +kernel
theorem dX9_bound_149 : decode cX9_bound 149 = .ok (.laload, 1) := by decide +kernel
theorem dX9_bound_150 : decode cX9_bound 150 = .ok (.lload 11, 2) := by decide +kernel
theorem dX9_bound_152 : decode cX9_bound 152 = .ok (.lload 4, 2) := by decide +kernel
theorem dX9_bound_154 : decode cX9_bound 154 = .ok (.ladd, 1) := by decide +kernel
theorem dX9_bound_155 : decode cX9_bound 155 = .ok (.lload 13, 2) := by decide +kernel
theorem dX9_bound_157 : decode cX9_bound 157 = .ok (.ladd, 1) := by decide +kernel
theorem dX9_bound_158 : decode cX9_bound 158 = .ok (.invokestatic 178, 3) := by decide +kernel
theorem dX9_bound_161 : decode cX9_bound 161 = .ok (.lastore, 1) := by decide +kernel
theorem dX9_bound_162 : decode cX9_bound 162 = .ok (.iinc 10 1, 3) := by decide +kernel
theorem dX9_bound_165 : decode cX9_bound 165 = .ok (.goto (-107), 3) := by decide +kernel
theorem dX9_bound_168 : decode cX9_bound 168 = .ok (.iinc 9 1, 3) := by decide +kernel
theorem dX9_bound_171 : decode cX9_bound 171 = .ok (.goto (-125), 3) := by decide +kernel
theorem dX9_bound_174 : decode cX9_bound 174 = .ok (.iconst 1, 1) := by decide +kernel
theorem dX9_bound_175 : decode cX9_bound 175 = .ok (.ireturn, 1) := by decide +kernel
set_option maxRecDepth 20000 in
theorem ggX9_boundBoth_X9_bound : GoodIn wsX9_boundBoth wsX9_bound := goodIn_r _ [5, 6, 7, 8, 9, 10, 4, 11, 12, 13, 14, 15, 16, 17, 18, 19, 20, 21, 22, 23, 24, 25, 26, 27, 28, 29, 30, 31, 32, 33, 34, 35, 36, 37, 38, 39, 40, 41, 42, 43, 44, 45, 46, 47, 48, 49, 50, 51, 52, 53, 54, 55, 56, 57, 58, 59] (by decide +kernel) (by decide +kernel)
set_option maxRecDepth 20000 in
theorem gX9_boundBoth_X9_bound : GoodIn wsX9_boundBoth (wsV RX9 217 RX9 yX9_bound wsX9_bound) := goodIn_app (goodIn_of _ (by decide +kernel)) ggX9_boundBoth_X9_bound
theorem dX9_boundBoth_0 : decode cX9_boundBoth 0 = .ok (.aload_n 0, 1) := by decide +kernel
theorem dX9_boundBoth_1 : decode cX9_boundBoth 1 = .ok (.iload_n 1, 1) := by decide +kernel
theorem dX9_boundBoth_2 : decode cX9_boundBoth 2 = .ok (.iload_n 2, 1) := by decide +kernel
theorem dX9_boundBoth_3 : decode cX9_boundBoth 3 = .ok (.iload_n 3, 1) := by decide +kernel
theorem dX9_boundBoth_4 : decode cX9_boundBoth 4 = .ok (.lconst 0, 1) := by decide +kernel
theorem dX9_boundBoth_5 : decode cX9_boundBoth 5 = .ok (.invokevirtual 217, 3) := by decide +kernel
theorem dX9_boundBoth_8 : decode cX9_boundBoth 8 = .ok (.ifCond .eq 18, 3) := by decide +kernel
theorem dX9_boundBoth_11 : decode cX9_boundBoth 11 = .ok (.aload_n 0, 1) := by decide +kernel
theorem dX9_boundBoth_12 : decode cX9_boundBoth 12 = .ok (.iload_n 1, 1) := by decide +kernel
theorem dX9_boundBoth_13 : decode cX9_boundBoth 13 = .ok (.iload_n 3, 1) := by decide +kernel
theorem dX9_boundBoth_14 : decode cX9_boundBoth 14 = .ok (.iload_n 2, 1) := by decide +kernel
theorem dX9_boundBoth_15 : decode cX9_boundBoth 15 = .ok (.lconst 0, 1) := by decide +kernel
theorem dX9_boundBoth_16 : decode cX9_boundBoth 16 = .ok (.invokevirtual 217, 3) := by decide +kernel
theorem dX9_boundBoth_19 : decode cX9_boundBoth 19 = .ok (.ifCond .eq 7, 3) := by decide +kernel
theorem dX9_boundBoth_22 : decode cX9_boundBoth 22 = .ok (.iconst 1, 1) := by decide +kernel
theorem dX9_boundBoth_23 : decode cX9_boundBoth 23 = .ok (.goto 4, 3) := by decide +kernel
theorem dX9_boundBoth_26 : decode cX9_boundBoth 26 = .ok (.iconst 0, 1) := by decide +kernel
theorem dX9_boundBoth_27 : decode cX9_boundBoth 27 = .ok (.ireturn, 1) := by decide +kernel
set_option maxRecDepth 20000 in
theorem ggX9_boundLiteral_X9_has : GoodIn wsX9_boundLiteral wsX9_has := goodIn_r _ [9] (by decide +kernel) (by decide +kernel)
set_option maxRecDepth 20000 in
theorem gX9_boundLiteral_X9_has : GoodIn wsX9_boundLiteral (va_wsS RX9 224 yX9_has wsX9_has) := goodIn_app (goodIn_of _ (by decide +kernel)) ggX9_boundLiteral_X9_has
set_option maxRecDepth 20000 in
theorem ggX9_boundLiteral_X9_boundBoth : GoodIn wsX9_boundLiteral wsX9_boundBoth := goodIn_r _ [13, 14, 15, 16, 8, 17, 18, 19, 20, 21, 22, 23, 24, 25, 26, 27, 28, 29, 30, 31, 32, 33, 34, 35, 36, 37, 38, 39, 40, 41, 42, 43, 44, 45, 46, 47, 48, 49, 50, 51, 52, 53, 54, 55, 56, 57, 58, 59, 60, 61, 62, 63, 64, 65, 66, 67, 68, 69, 70, 71] (by decide +kernel) (by decide +kernel)
set_option maxRecDepth 20000 in
theorem gX9_boundLiteral_X9_boundBoth : GoodIn wsX9_boundLiteral (wsV RX9 227 RX9 yX9_boundBoth wsX9_boundBoth) := goodIn_app (goodIn_of _ (by decide +kernel)) ggX9_boundLiteral_X9_boundBoth
set_option maxRecDepth 20000 in
theorem ggX9_boundLiteral_X9_bound : GoodIn wsX9_boundLiteral wsX9_bound := goodIn_r _ [17, 18, 19, 20, 21, 22, 8, 23, 24, 25, 26, 27, 28, 29, 30, 31, 32, 33, 34, 35, 36, 37, 38, 39, 40, 41, 42, 43, 44, 45, 46, 47, 48, 49, 50, 51, 52, 53, 54, 55, 56, 57, 58, 59, 60, 61, 62, 63, 64, 65, 66, 67, 68, 69, 70, 71] (by decide +kernel) (by decide +kernel)
set_option maxRecDepth 20000 in
theorem gX9_boundLiteral_X9_bound : GoodIn wsX9_boundLiteral (wsV RX9 217 RX9 yX9_bound wsX9_bound) := goodIn_app (goodIn_of _ (by decide +kernel)) ggX9_boundLiteral_X9_bound
theorem dX9_boundLiteral_0 : decode cX9_boundLiteral 0 = .ok (.aload_n 0, 1) := by decide +kernel
theorem dX9_boundLiteral_1 : decode cX9_boundLiteral 1 = .ok (.getfield 221, 3) := by decide +kernel
theorem dX9_boundLiteral_4 : decode cX9_boundLiteral 4 = .ok (.iload_n 1, 1) := by decide +kernel
theorem dX9_boundLiteral_5 : decode cX9_boundLiteral 5 = .ok (.invokestatic 224, 3) := by decide +kernel
theorem dX9_boundLiteral_8 : decode cX9_boundLiteral 8 = .ok (.ifCond .eq 13, 3) := by decide +kernel
theorem dX9_boundLiteral_11 : decode cX9_boundLiteral 11 = .ok (.aload_n 0, 1) := by decide +kernel
theorem dX9_boundLiteral_12 : decode cX9_boundLiteral 12 = .ok (.getfield 19, 3) := by decide +kernel
theorem dX9_boundLiteral_15 : decode cX9_boundLiteral 15 = .ok (.iload_n 1, 1) := by decide +kernel
theorem dX9_boundLiteral_16 : decode cX9_boundLiteral 16 = .ok (.iaload, 1) := by decide +kernel
theorem dX9_boundLiteral_17 : decode cX9_boundLiteral 17 = .ok (.iconst 1, 1) := by decide +kernel
theorem dX9_boundLiteral_18 : decode cX9_boundLiteral 18 = .ok (.if_icmp .ne 5, 3) := by decide +kernel
theorem dX9_boundLiteral_21 : decode cX9_boundLiteral 21 = .ok (.iconst 1, 1) := by decide +kernel
theorem dX9_boundLiteral_22 : decode cX9_boundLiteral 22 = .ok (.ireturn, 1) := by decide +kernel
theorem dX9_boundLiteral_23 : decode cX9_boundLiteral 23 = .ok (.aload_n 0, 1) := by decide +kernel
theorem dX9_boundLiteral_24 : decode cX9_boundLiteral 24 = .ok (.getfield 19, 3) := by decide +kernel
theorem dX9_boundLiteral_27 : decode cX9_boundLiteral 27 = .ok (.iload_n 1, 1) := by decide +kernel
theorem dX9_boundLiteral_28 : decode cX9_boundLiteral 28 = .ok (.iaload, 1) := by decide +kernel
theorem dX9_boundLiteral_29 : decode cX9_boundLiteral 29 = .ok (.ifCond .ne 23, 3) := by decide +kernel
theorem dX9_boundLiteral_32 : decode cX9_boundLiteral 32 = .ok (.aload_n 0, 1) := by decide +kernel
theorem dX9_boundLiteral_33 : decode cX9_boundLiteral 33 = .ok (.iconst 0, 1) := by decide +kernel
theorem dX9_boundLiteral_34 : decode cX9_boundLiteral 34 = .ok (.aload_n 0, 1) := by decide +kernel
theorem dX9_boundLiteral_35 : decode cX9_boundLiteral 35 = .ok (.getfield 37, 3) := by decide +kernel
theorem dX9_boundLiteral_38 : decode cX9_boundLiteral 38 = .ok (.iload_n 1, 1) := by decide +kernel
theorem dX9_boundLiteral_39 : decode cX9_boundLiteral 39 = .ok (.iaload, 1) := by decide +kernel
theorem dX9_boundLiteral_40 : decode cX9_boundLiteral 40 = .ok (.aload_n 0, 1) := by decide +kernel
theorem dX9_boundLiteral_41 : decode cX9_boundLiteral 41 = .ok (.getfield 40, 3) := by decide +kernel
theorem dX9_boundLiteral_44 : decode cX9_boundLiteral 44 = .ok (.iload_n 1, 1) := by decide +kernel
theorem dX9_boundLiteral_45 : decode cX9_boundLiteral 45 = .ok (.iaload, 1) := by decide +kernel
theorem dX9_boundLiteral_46 : decode cX9_boundLiteral 46 = .ok (.invokevirtual 227, 3) := by decide +kernel
theorem dX9_boundLiteral_49 : decode cX9_boundLiteral 49 = .ok (.goto 27, 3) := by decide +kernel
theorem dX9_boundLiteral_52 : decode cX9_boundLiteral 52 = .ok (.aload_n 0, 1) := by decide +kernel
theorem dX9_boundLiteral_53 : decode cX9_boundLiteral 53 = .ok (.iconst 0, 1) := by decide +kernel
theorem dX9_boundLiteral_54 : decode cX9_boundLiteral 54 = .ok (.aload_n 0, 1) := by decide +kernel
theorem dX9_boundLiteral_55 : decode cX9_boundLiteral 55 = .ok (.getfield 37, 3) := by decide +kernel
theorem dX9_boundLiteral_58 : decode cX9_boundLiteral 58 = .ok (.iload_n 1, 1) := by decide +kernel
theorem dX9_boundLiteral_59 : decode cX9_boundLiteral 59 = .ok (.iaload, 1) := by decide +kernel
theorem dX9_boundLiteral_60 : decode cX9_boundLiteral 60 = .ok (.aload_n 0, 1) := by decide +kernel
theorem dX9_boundLiteral_61 : decode cX9_boundLiteral 61 = .ok (.getfield 40, 3) := by decide +kernel
theorem dX9_boundLiteral_64 : decode cX9_boundLiteral 64 = .ok (.iload_n 1, 1) := by decide +kernel
theorem dX9_boundLiteral_65 : decode cX9_boundLiteral 65 = .ok (.iaload, 1) := by decide +kernel
theorem dX9_boundLiteral_66 : decode cX9_boundLiteral 66 = .ok (.aload_n 0, 1) := by decide +kernel
theorem dX9_boundLiteral_67 : decode cX9_boundLiteral 67 = .ok (.getfield 22, 3) := by decide +kernel
