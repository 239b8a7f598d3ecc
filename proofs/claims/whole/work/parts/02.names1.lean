theorem dX0_init_0 : decode cX0_init 0 = .ok (.aload_n 0, 1) := by decide +kernel
theorem dX0_init_1 : decode cX0_init 1 = .ok (.invokespecial 3, 3) := by decide +kernel
theorem dX0_init_4 : decode cX0_init 4 = .ok (.return_, 1) := by decide +kernel
set_option maxRecDepth 20000 in
theorem ggX0_setInequality_X0_clearSecond : GoodIn wsX0_setInequality wsX0_clearSecond := goodIn_r _ [8, 9, 10, 11, 12, 13, 14, 15, 16, 17] (by decide +kernel) (by decide +kernel)
set_option maxRecDepth 20000 in
theorem gX0_setInequality_X0_clearSecond : GoodIn wsX0_setInequality (wsV RX0 18 RX0 yX0_clearSecond wsX0_clearSecond) := goodIn_app (goodIn_of _ (by decide +kernel)) ggX0_setInequality_X0_clearSecond
theorem dX0_setInequality_0 : decode cX0_setInequality 0 = .ok (.aload_n 0, 1) := by decide +kernel
theorem dX0_setInequality_1 : decode cX0_setInequality 1 = .ok (.iload_n 1, 1) := by decide +kernel
theorem dX0_setInequality_2 : decode cX0_setInequality 2 = .ok (.putfield 9, 3) := by decide +kernel
theorem dX0_setInequality_5 : decode cX0_setInequality 5 = .ok (.aload_n 0, 1) := by decide +kernel
theorem dX0_setInequality_6 : decode cX0_setInequality 6 = .ok (.iload_n 2, 1) := by decide +kernel
theorem dX0_setInequality_7 : decode cX0_setInequality 7 = .ok (.putfield 15, 3) := by decide +kernel
theorem dX0_setInequality_10 : decode cX0_setInequality 10 = .ok (.aload_n 0, 1) := by decide +kernel
theorem dX0_setInequality_11 : decode cX0_setInequality 11 = .ok (.invokevirtual 18, 3) := by decide +kernel
theorem dX0_setInequality_14 : decode cX0_setInequality 14 = .ok (.aload_n 0, 1) := by decide +kernel
theorem dX0_setInequality_15 : decode cX0_setInequality 15 = .ok (.iconst 0, 1) := by decide +kernel
theorem dX0_setInequality_16 : decode cX0_setInequality 16 = .ok (.putfield 21, 3) := by decide +kernel
theorem dX0_setInequality_19 : decode cX0_setInequality 19 = .ok (.return_, 1) := by decide +kernel
set_option maxRecDepth 20000 in
theorem ggX0_setCongruence_X7_firstOf : GoodIn wsX0_setCongruence wsX7_firstOf := goodIn_r _ [12, 13, 14, 15, 16, 17, 11, 18, 19, 42, 43, 44, 45, 46] (by decide +kernel) (by decide +kernel)
set_option maxRecDepth 20000 in
theorem gX0_setCongruence_X7_firstOf : GoodIn wsX0_setCongruence (wsV RX0 25 RX7 yX7_firstOf wsX7_firstOf) := goodIn_app (goodIn_of _ (by decide +kernel)) ggX0_setCongruence_X7_firstOf
set_option maxRecDepth 20000 in
theorem ggX0_setCongruence_X0_clearSecond : GoodIn wsX0_setCongruence wsX0_clearSecond := goodIn_r _ [24, 3, 4, 35, 36, 37, 38, 39, 40, 41] (by decide +kernel) (by decide +kernel)
set_option maxRecDepth 20000 in
theorem gX0_setCongruence_X0_clearSecond : GoodIn wsX0_setCongruence (wsV RX0 18 RX0 yX0_clearSecond wsX0_clearSecond) := goodIn_app (goodIn_of _ (by decide +kernel)) ggX0_setCongruence_X0_clearSecond
set_option maxRecDepth 20000 in
theorem ggX0_setCongruence_X7_kindOf : GoodIn wsX0_setCongruence wsX7_kindOf := goodIn_r _ [28, 29, 15, 16, 17, 11, 18, 19, 42, 43, 44, 45, 46] (by decide +kernel) (by decide +kernel)
set_option maxRecDepth 20000 in
theorem gX0_setCongruence_X7_kindOf : GoodIn wsX0_setCongruence (wsV RX0 31 RX7 yX7_kindOf wsX7_kindOf) := goodIn_app (goodIn_of _ (by decide +kernel)) ggX0_setCongruence_X7_kindOf
set_option maxRecDepth 20000 in
theorem ggX0_setCongruence_X7_secondOf : GoodIn wsX0_setCongruence wsX7_secondOf := goodIn_r _ [33, 34, 14, 15, 16, 17, 11, 18, 19, 42, 43, 44, 45, 46] (by decide +kernel) (by decide +kernel)
set_option maxRecDepth 20000 in
theorem gX0_setCongruence_X7_secondOf : GoodIn wsX0_setCongruence (wsV RX0 34 RX7 yX7_secondOf wsX7_secondOf) := goodIn_app (goodIn_of _ (by decide +kernel)) ggX0_setCongruence_X7_secondOf
theorem dX0_setCongruence_0 : decode cX0_setCongruence 0 = .ok (.aload_n 0, 1) := by decide +kernel
theorem dX0_setCongruence_1 : decode cX0_setCongruence 1 = .ok (.aload_n 1, 1) := by decide +kernel
theorem dX0_setCongruence_2 : decode cX0_setCongruence 2 = .ok (.iload_n 2, 1) := by decide +kernel
theorem dX0_setCongruence_3 : decode cX0_setCongruence 3 = .ok (.invokevirtual 25, 3) := by decide +kernel
theorem dX0_setCongruence_6 : decode cX0_setCongruence 6 = .ok (.putfield 9, 3) := by decide +kernel
theorem dX0_setCongruence_9 : decode cX0_setCongruence 9 = .ok (.aload_n 0, 1) := by decide +kernel
theorem dX0_setCongruence_10 : decode cX0_setCongruence 10 = .ok (.aload_n 1, 1) := by decide +kernel
theorem dX0_setCongruence_11 : decode cX0_setCongruence 11 = .ok (.iload_n 3, 1) := by decide +kernel
theorem dX0_setCongruence_12 : decode cX0_setCongruence 12 = .ok (.invokevirtual 25, 3) := by decide +kernel
theorem dX0_setCongruence_15 : decode cX0_setCongruence 15 = .ok (.putfield 15, 3) := by decide +kernel
theorem dX0_setCongruence_18 : decode cX0_setCongruence 18 = .ok (.aload_n 0, 1) := by decide +kernel
theorem dX0_setCongruence_19 : decode cX0_setCongruence 19 = .ok (.invokevirtual 18, 3) := by decide +kernel
theorem dX0_setCongruence_22 : decode cX0_setCongruence 22 = .ok (.aload_n 1, 1) := by decide +kernel
theorem dX0_setCongruence_23 : decode cX0_setCongruence 23 = .ok (.iload_n 2, 1) := by decide +kernel
theorem dX0_setCongruence_24 : decode cX0_setCongruence 24 = .ok (.invokevirtual 31, 3) := by decide +kernel
theorem dX0_setCongruence_27 : decode cX0_setCongruence 27 = .ok (.iconst 2, 1) := by decide +kernel
theorem dX0_setCongruence_28 : decode cX0_setCongruence 28 = .ok (.if_icmp .ne 21, 3) := by decide +kernel
theorem dX0_setCongruence_31 : decode cX0_setCongruence 31 = .ok (.aload_n 0, 1) := by decide +kernel
theorem dX0_setCongruence_32 : decode cX0_setCongruence 32 = .ok (.aload_n 1, 1) := by decide +kernel
theorem dX0_setCongruence_33 : decode cX0_setCongruence 33 = .ok (.iload_n 2, 1) := by decide +kernel
theorem dX0_setCongruence_34 : decode cX0_setCongruence 34 = .ok (.invokevirtual 34, 3) := by decide +kernel
theorem dX0_setCongruence_37 : decode cX0_setCongruence 37 = .ok (.putfield 37, 3) := by decide +kernel
theorem dX0_setCongruence_40 : decode cX0_setCongruence 40 = .ok (.aload_n 0, 1) := by decide +kernel
theorem dX0_setCongruence_41 : decode cX0_setCongruence 41 = .ok (.aload_n 1, 1) := by decide +kernel
theorem dX0_setCongruence_42 : decode cX0_setCongruence 42 = .ok (.iload_n 3, 1) := by decide +kernel
theorem dX0_setCongruence_43 : decode cX0_setCongruence 43 = .ok (.invokevirtual 34, 3) := by decide +kernel
theorem dX0_setCongruence_46 : decode cX0_setCongruence 46 = .ok (.putfield 40, 3) := by decide +kernel
theorem dX0_setCongruence_49 : decode cX0_setCongruence 49 = .ok (.aload_n 0, 1) := by decide +kernel
theorem dX0_setCongruence_50 : decode cX0_setCongruence 50 = .ok (.iconst 1, 1) := by decide +kernel
theorem dX0_setCongruence_51 : decode cX0_setCongruence 51 = .ok (.putfield 21, 3) := by decide +kernel
theorem dX0_setCongruence_54 : decode cX0_setCongruence 54 = .ok (.aload_n 0, 1) := by decide +kernel
theorem dX0_setCongruence_55 : decode cX0_setCongruence 55 = .ok (.iload_n 2, 1) := by decide +kernel
theorem dX0_setCongruence_56 : decode cX0_setCongruence 56 = .ok (.putfield 43, 3) := by decide +kernel
theorem dX0_setCongruence_59 : decode cX0_setCongruence 59 = .ok (.aload_n 0, 1) := by decide +kernel
theorem dX0_setCongruence_60 : decode cX0_setCongruence 60 = .ok (.iload_n 3, 1) := by decide +kernel
theorem dX0_setCongruence_61 : decode cX0_setCongruence 61 = .ok (.putfield 46, 3) := by decide +kernel
theorem dX0_setCongruence_64 : decode cX0_setCongruence 64 = .ok (.return_, 1) := by decide +kernel
theorem dX0_clearSecond_0 : decode cX0_clearSecond 0 = .ok (.aload_n 0, 1) := by decide +kernel
theorem dX0_clearSecond_1 : decode cX0_clearSecond 1 = .ok (.iconst 0, 1) := by decide +kernel
theorem dX0_clearSecond_2 : decode cX0_clearSecond 2 = .ok (.putfield 37, 3) := by decide +kernel
theorem dX0_clearSecond_5 : decode cX0_clearSecond 5 = .ok (.aload_n 0, 1) := by decide +kernel
theorem dX0_clearSecond_6 : decode cX0_clearSecond 6 = .ok (.iconst 0, 1) := by decide +kernel
theorem dX0_clearSecond_7 : decode cX0_clearSecond 7 = .ok (.putfield 40, 3) := by decide +kernel
theorem dX0_clearSecond_10 : decode cX0_clearSecond 10 = .ok (.return_, 1) := by decide +kernel
set_option maxRecDepth 20000 in
theorem ggX0_openOptions_X1_between : GoodIn wsX0_openOptions wsX1_between := goodIn_r _ [12, 13, 14, 22] (by decide +kernel) (by decide +kernel)
set_option maxRecDepth 20000 in
theorem gX0_openOptions_X1_between : GoodIn wsX0_openOptions (wsV RX0 49 RX1 yX1_between wsX1_between) := goodIn_app (goodIn_of _ (by decide +kernel)) ggX0_openOptions_X1_between
theorem dX0_openOptions_0 : decode cX0_openOptions 0 = .ok (.aload_n 1, 1) := by decide +kernel
theorem dX0_openOptions_1 : decode cX0_openOptions 1 = .ok (.aload_n 0, 1) := by decide +kernel
theorem dX0_openOptions_2 : decode cX0_openOptions 2 = .ok (.getfield 9, 3) := by decide +kernel
theorem dX0_openOptions_5 : decode cX0_openOptions 5 = .ok (.aload_n 0, 1) := by decide +kernel
theorem dX0_openOptions_6 : decode cX0_openOptions 6 = .ok (.getfield 15, 3) := by decide +kernel
theorem dX0_openOptions_9 : decode cX0_openOptions 9 = .ok (.invokevirtual 49, 3) := by decide +kernel
theorem dX0_openOptions_12 : decode cX0_openOptions 12 = .ok (.lstore_n 2, 1) := by decide +kernel
theorem dX0_openOptions_13 : decode cX0_openOptions 13 = .ok (.aload_n 1, 1) := by decide +kernel
theorem dX0_openOptions_14 : decode cX0_openOptions 14 = .ok (.aload_n 0, 1) := by decide +kernel
theorem dX0_openOptions_15 : decode cX0_openOptions 15 = .ok (.getfield 15, 3) := by decide +kernel
theorem dX0_openOptions_18 : decode cX0_openOptions 18 = .ok (.aload_n 0, 1) := by decide +kernel
theorem dX0_openOptions_19 : decode cX0_openOptions 19 = .ok (.getfield 9, 3) := by decide +kernel
theorem dX0_openOptions_22 : decode cX0_openOptions 22 = .ok (.invokevirtual 49, 3) := by decide +kernel
theorem dX0_openOptions_25 : decode cX0_openOptions 25 = .ok (.lstore 4, 2) := by decide +kernel
theorem dX0_openOptions_27 : decode cX0_openOptions 27 = .ok (.aload_n 1, 1) := by decide +kernel
theorem dX0_openOptions_28 : decode cX0_openOptions 28 = .ok (.aload_n 0, 1) := by decide +kernel
theorem dX0_openOptions_29 : decode cX0_openOptions 29 = .ok (.getfield 37, 3) := by decide +kernel
theorem dX0_openOptions_32 : decode cX0_openOptions 32 = .ok (.aload_n 0, 1) := by decide +kernel
theorem dX0_openOptions_33 : decode cX0_openOptions 33 = .ok (.getfield 40, 3) := by decide +kernel
theorem dX0_openOptions_36 : decode cX0_openOptions 36 = .ok (.invokevirtual 49, 3) := by decide +kernel
theorem dX0_openOptions_39 : decode cX0_openOptions 39 = .ok (.lstore 6, 2) := by decide +kernel
theorem dX0_openOptions_41 : decode cX0_openOptions 41 = .ok (.aload_n 1, 1) := by decide +kernel
theorem dX0_openOptions_42 : decode cX0_openOptions 42 = .ok (.aload_n 0, 1) := by decide +kernel
theorem dX0_openOptions_43 : decode cX0_openOptions 43 = .ok (.getfield 40, 3) := by decide +kernel
theorem dX0_openOptions_46 : decode cX0_openOptions 46 = .ok (.aload_n 0, 1) := by decide +kernel
theorem dX0_openOptions_47 : decode cX0_openOptions 47 = .ok (.getfield 37, 3) := by decide +kernel
theorem dX0_openOptions_50 : decode cX0_openOptions 50 = .ok (.invokevirtual 49, 3) := by decide +kernel
theorem dX0_openOptions_53 : decode cX0_openOptions 53 = .ok (.lstore 8, 2) := by decide +kernel
theorem dX0_openOptions_55 : decode cX0_openOptions 55 = .ok (.lload_n 2, 1) := by decide +kernel
theorem dX0_openOptions_56 : decode cX0_openOptions 56 = .ok (.lconst 0, 1) := by decide +kernel
theorem dX0_openOptions_57 : decode cX0_openOptions 57 = .ok (.lcmp, 1) := by decide +kernel
theorem dX0_openOptions_58 : decode cX0_openOptions 58 = .ok (.ifCond .lt 24, 3) := by decide +kernel
theorem dX0_openOptions_61 : decode cX0_openOptions 61 = .ok (.lload 4, 2) := by decide +kernel
theorem dX0_openOptions_63 : decode cX0_openOptions 63 = .ok (.lconst 0, 1) := by decide +kernel
theorem dX0_openOptions_64 : decode cX0_openOptions 64 = .ok (.lcmp, 1) := by decide +kernel
theorem dX0_openOptions_65 : decode cX0_openOptions 65 = .ok (.ifCond .lt 17, 3) := by decide +kernel
theorem dX0_openOptions_68 : decode cX0_openOptions 68 = .ok (.lload 6, 2) := by decide +kernel
theorem dX0_openOptions_70 : decode cX0_openOptions 70 = .ok (.lconst 0, 1) := by decide +kernel
theorem dX0_openOptions_71 : decode cX0_openOptions 71 = .ok (.lcmp, 1) := by decide +kernel
theorem dX0_openOptions_72 : decode cX0_openOptions 72 = .ok (.ifCond .lt 10, 3) := by decide +kernel
theorem dX0_openOptions_75 : decode cX0_openOptions 75 = .ok (.lload 8, 2) := by decide +kernel
theorem dX0_openOptions_77 : decode cX0_openOptions 77 = .ok (.lconst 0, 1) := by decide +kernel
theorem dX0_openOptions_78 : decode cX0_openOptions 78 = .ok (.lcmp, 1) := by decide +kernel
theorem dX0_openOptions_79 : decode cX0_openOptions 79 = .ok (.ifCond .ge 5, 3) := by decide +kernel
theorem dX0_openOptions_82 : decode cX0_openOptions 82 = .ok (.iconst (-1), 1) := by decide +kernel
theorem dX0_openOptions_83 : decode cX0_openOptions 83 = .ok (.ireturn, 1) := by decide +kernel
theorem dX0_openOptions_84 : decode cX0_openOptions 84 = .ok (.lload 4, 2) := by decide +kernel
theorem dX0_openOptions_86 : decode cX0_openOptions 86 = .ok (.lconst 0, 1) := by decide +kernel
theorem dX0_openOptions_87 : decode cX0_openOptions 87 = .ok (.lcmp, 1) := by decide +kernel
theorem dX0_openOptions_88 : decode cX0_openOptions 88 = .ok (.ifCond .le 7, 3) := by decide +kernel
theorem dX0_openOptions_91 : decode cX0_openOptions 91 = .ok (.iconst 1, 1) := by decide +kernel
theorem dX0_openOptions_92 : decode cX0_openOptions 92 = .ok (.goto 4, 3) := by decide +kernel
theorem dX0_openOptions_95 : decode cX0_openOptions 95 = .ok (.iconst 0, 1) := by decide +kernel
theorem dX0_openOptions_96 : decode cX0_openOptions 96 = .ok (.istore 10, 2) := by decide +kernel
theorem dX0_openOptions_98 : decode cX0_openOptions 98 = .ok (.iload 10, 2) := by decide +kernel
theorem dX0_openOptions_100 : decode cX0_openOptions 100 = .ok (.lload_n 2, 1) := by decide +kernel
theorem dX0_openOptions_101 : decode cX0_openOptions 101 = .ok (.lconst 0, 1) := by decide +kernel
theorem dX0_openOptions_102 : decode cX0_openOptions 102 = .ok (.lcmp, 1) := by decide +kernel
theorem dX0_openOptions_103 : decode cX0_openOptions 103 = .ok (.ifCond .le 7, 3) := by decide +kernel
theorem dX0_openOptions_106 : decode cX0_openOptions 106 = .ok (.iconst 2, 1) := by decide +kernel
theorem dX0_openOptions_107 : decode cX0_openOptions 107 = .ok (.goto 4, 3) := by decide +kernel
theorem dX0_openOptions_110 : decode cX0_openOptions 110 = .ok (.iconst 0, 1) := by decide +kernel
theorem dX0_openOptions_111 : decode cX0_openOptions 111 = .ok (.ior, 1) := by decide +kernel
theorem dX0_openOptions_112 : decode cX0_openOptions 112 = .ok (.istore 10, 2) := by decide +kernel
theorem dX0_openOptions_114 : decode cX0_openOptions 114 = .ok (.iload 10, 2) := by decide +kernel
theorem dX0_openOptions_116 : decode cX0_openOptions 116 = .ok (.lload 8, 2) := by decide +kernel
theorem dX0_openOptions_118 : decode cX0_openOptions 118 = .ok (.lconst 0, 1) := by decide +kernel
theorem dX0_openOptions_119 : decode cX0_openOptions 119 = .ok (.lcmp, 1) := by decide +kernel
theorem dX0_openOptions_120 : decode cX0_openOptions 120 = .ok (.ifCond .le 7, 3) := by decide +kernel
theorem dX0_openOptions_123 : decode cX0_openOptions 123 = .ok (.iconst 4, 1) := by decide +kernel
theorem dX0_openOptions_124 : decode cX0_openOptions 124 = .ok (.goto 4, 3) := by decide +kernel
theorem dX0_openOptions_127 : decode cX0_openOptions 127 = .ok (.iconst 0, 1) := by decide +kernel
theorem dX0_openOptions_128 : decode cX0_openOptions 128 = .ok (.ior, 1) := by decide +kernel
theorem dX0_openOptions_129 : decode cX0_openOptions 129 = .ok (.istore 10, 2) := by decide +kernel
theorem dX0_openOptions_131 : decode cX0_openOptions 131 = .ok (.iload 10, 2) := by decide +kernel
theorem dX0_openOptions_133 : decode cX0_openOptions 133 = .ok (.lload 6, 2) := by decide +kernel
theorem dX0_openOptions_135 : decode cX0_openOptions 135 = .ok (.lconst 0, 1) := by decide +kernel
theorem dX0_openOptions_136 : decode cX0_openOptions 136 = .ok (.lcmp, 1) := by decide +kernel
theorem dX0_openOptions_137 : decode cX0_openOptions 137 = .ok (.ifCond .le 8, 3) := by decide +kernel
theorem dX0_openOptions_140 : decode cX0_openOptions 140 = .ok (.bipush 8, 2) := by decide +kernel
theorem dX0_openOptions_142 : decode cX0_openOptions 142 = .ok (.goto 4, 3) := by decide +kernel
theorem dX0_openOptions_145 : decode cX0_openOptions 145 = .ok (.iconst 0, 1) := by decide +kernel
theorem dX0_openOptions_146 : decode cX0_openOptions 146 = .ok (.ior, 1) := by decide +kernel
theorem dX0_openOptions_147 : decode cX0_openOptions 147 = .ok (.istore 10, 2) := by decide +kernel
theorem dX0_openOptions_149 : decode cX0_openOptions 149 = .ok (.aload_n 0, 1) := by decide +kernel
theorem dX0_openOptions_150 : decode cX0_openOptions 150 = .ok (.getfield 21, 3) := by decide +kernel
theorem dX0_openOptions_153 : decode cX0_openOptions 153 = .ok (.ifCond .ne 6, 3) := by decide +kernel
theorem dX0_openOptions_156 : decode cX0_openOptions 156 = .ok (.iload 10, 2) := by decide +kernel
theorem dX0_openOptions_158 : decode cX0_openOptions 158 = .ok (.ireturn, 1) := by decide +kernel
theorem dX0_openOptions_159 : decode cX0_openOptions 159 = .ok (.aload_n 1, 1) := by decide +kernel
theorem dX0_openOptions_160 : decode cX0_openOptions 160 = .ok (.aload_n 0, 1) := by decide +kernel
theorem dX0_openOptions_161 : decode cX0_openOptions 161 = .ok (.getfield 43, 3) := by decide +kernel
theorem dX0_openOptions_164 : decode cX0_openOptions 164 = .ok (.aload_n 0, 1) := by decide +kernel
theorem dX0_openOptions_165 : decode cX0_openOptions 165 = .ok (.getfield 46, 3) := by decide +kernel
theorem dX0_openOptions_168 : decode cX0_openOptions 168 = .ok (.invokevirtual 49, 3) := by decide +kernel
theorem dX0_openOptions_171 : decode cX0_openOptions 171 = .ok (.lstore 11, 2) := by decide +kernel
theorem dX0_openOptions_173 : decode cX0_openOptions 173 = .ok (.aload_n 1, 1) := by decide +kernel
theorem dX0_openOptions_174 : decode cX0_openOptions 174 = .ok (.aload_n 0, 1) := by decide +kernel
theorem dX0_openOptions_175 : decode cX0_openOptions 175 = .ok (.getfield 46, 3) := by decide +kernel
theorem dX0_openOptions_178 : decode cX0_openOptions 178 = .ok (.aload_n 0, 1) := by decide +kernel
theorem dX0_openOptions_179 : decode cX0_openOptions 179 = .ok (.getfield 43, 3) := by decide +kernel
theorem dX0_openOptions_182 : decode cX0_openOptions 182 = .ok (.invokevirtual 49, 3) := by decide +kernel
theorem dX0_openOptions_185 : decode cX0_openOptions 185 = .ok (.lstore 13, 2) := by decide +kernel
theorem dX0_openOptions_187 : decode cX0_openOptions 187 = .ok (.lload 11, 2) := by decide +kernel
theorem dX0_openOptions_189 : decode cX0_openOptions 189 = .ok (.lconst 0, 1) := by decide +kernel
theorem dX0_openOptions_190 : decode cX0_openOptions 190 = .ok (.lcmp, 1) := by decide +kernel
theorem dX0_openOptions_191 : decode cX0_openOptions 191 = .ok (.ifCond .ne 12, 3) := by decide +kernel
theorem dX0_openOptions_194 : decode cX0_openOptions 194 = .ok (.lload 13, 2) := by decide +kernel
theorem dX0_openOptions_196 : decode cX0_openOptions 196 = .ok (.lconst 0, 1) := by decide +kernel
theorem dX0_openOptions_197 : decode cX0_openOptions 197 = .ok (.lcmp, 1) := by decide +kernel
theorem dX0_openOptions_198 : decode cX0_openOptions 198 = .ok (.ifCond .ne 5, 3) := by decide +kernel
theorem dX0_openOptions_201 : decode cX0_openOptions 201 = .ok (.iconst (-1), 1) := by decide +kernel
theorem dX0_openOptions_202 : decode cX0_openOptions 202 = .ok (.ireturn, 1) := by decide +kernel
theorem dX0_openOptions_203 : decode cX0_openOptions 203 = .ok (.lload 11, 2) := by decide +kernel
theorem dX0_openOptions_205 : decode cX0_openOptions 205 = .ok (.lconst 0, 1) := by decide +kernel
theorem dX0_openOptions_206 : decode cX0_openOptions 206 = .ok (.lcmp, 1) := by decide +kernel
theorem dX0_openOptions_207 : decode cX0_openOptions 207 = .ok (.ifCond .lt 18, 3) := by decide +kernel
theorem dX0_openOptions_210 : decode cX0_openOptions 210 = .ok (.lload 13, 2) := by decide +kernel
theorem dX0_openOptions_212 : decode cX0_openOptions 212 = .ok (.lconst 0, 1) := by decide +kernel
theorem dX0_openOptions_213 : decode cX0_openOptions 213 = .ok (.lcmp, 1) := by decide +kernel
theorem dX0_openOptions_214 : decode cX0_openOptions 214 = .ok (.ifCond .lt 11, 3) := by decide +kernel
theorem dX0_openOptions_217 : decode cX0_openOptions 217 = .ok (.iload 10, 2) := by decide +kernel
theorem dX0_openOptions_219 : decode cX0_openOptions 219 = .ok (.bipush 16, 2) := by decide +kernel
theorem dX0_openOptions_221 : decode cX0_openOptions 221 = .ok (.ior, 1) := by decide +kernel
theorem dX0_openOptions_222 : decode cX0_openOptions 222 = .ok (.goto 5, 3) := by decide +kernel
theorem dX0_openOptions_225 : decode cX0_openOptions 225 = .ok (.iload 10, 2) := by decide +kernel
theorem dX0_openOptions_227 : decode cX0_openOptions 227 = .ok (.ireturn, 1) := by decide +kernel
set_option maxRecDepth 20000 in
theorem ggX0_take_X1_bound : GoodIn wsX0_take wsX1_bound := goodIn_r _ [12, 13, 14, 22] (by decide +kernel) (by decide +kernel)
set_option maxRecDepth 20000 in
theorem gX0_take_X1_bound : GoodIn wsX0_take (wsV RX0 57 RX1 yX1_bound wsX1_bound) := goodIn_app (goodIn_of _ (by decide +kernel)) ggX0_take_X1_bound
theorem dX0_take_0 : decode cX0_take 0 = .ok (.iload_n 2, 1) := by decide +kernel
theorem dX0_take_1 : decode cX0_take 1 = .ok (.tableswitch 95 0 3 #[31, 47, 63, 79], 31) := by decide +kernel
theorem dX0_take_32 : decode cX0_take 32 = .ok (.aload_n 1, 1) := by decide +kernel
theorem dX0_take_33 : decode cX0_take 33 = .ok (.aload_n 0, 1) := by decide +kernel
theorem dX0_take_34 : decode cX0_take 34 = .ok (.getfield 9, 3) := by decide +kernel
theorem dX0_take_37 : decode cX0_take 37 = .ok (.aload_n 0, 1) := by decide +kernel
theorem dX0_take_38 : decode cX0_take 38 = .ok (.getfield 15, 3) := by decide +kernel
theorem dX0_take_41 : decode cX0_take 41 = .ok (.ldc2_w 55, 3) := by decide +kernel
theorem dX0_take_44 : decode cX0_take 44 = .ok (.invokevirtual 57, 3) := by decide +kernel
theorem dX0_take_47 : decode cX0_take 47 = .ok (.ireturn, 1) := by decide +kernel
theorem dX0_take_48 : decode cX0_take 48 = .ok (.aload_n 1, 1) := by decide +kernel
theorem dX0_take_49 : decode cX0_take 49 = .ok (.aload_n 0, 1) := by decide +kernel
theorem dX0_take_50 : decode cX0_take 50 = .ok (.getfield 15, 3) := by decide +kernel
theorem dX0_take_53 : decode cX0_take 53 = .ok (.aload_n 0, 1) := by decide +kernel
theorem dX0_take_54 : decode cX0_take 54 = .ok (.getfield 9, 3) := by decide +kernel
theorem dX0_take_57 : decode cX0_take 57 = .ok (.ldc2_w 55, 3) := by decide +kernel
theorem dX0_take_60 : decode cX0_take 60 = .ok (.invokevirtual 57, 3) := by decide +kernel
theorem dX0_take_63 : decode cX0_take 63 = .ok (.ireturn, 1) := by decide +kernel
theorem dX0_take_64 : decode cX0_take 64 = .ok (.aload_n 1, 1) := by decide +kernel
theorem dX0_take_65 : decode cX0_take 65 = .ok (.aload_n 0, 1) := by decide +kernel
theorem dX0_take_66 : decode cX0_take 66 = .ok (.getfield 37, 3) := by decide +kernel
theorem dX0_take_69 : decode cX0_take 69 = .ok (.aload_n 0, 1) := by decide +kernel
theorem dX0_take_70 : decode cX0_take 70 = .ok (.getfield 40, 3) := by decide +kernel
theorem dX0_take_73 : decode cX0_take 73 = .ok (.ldc2_w 55, 3) := by decide +kernel
theorem dX0_take_76 : decode cX0_take 76 = .ok (.invokevirtual 57, 3) := by decide +kernel
theorem dX0_take_79 : decode cX0_take 79 = .ok (.ireturn, 1) := by decide +kernel
theorem dX0_take_80 : decode cX0_take 80 = .ok (.aload_n 1, 1) := by decide +kernel
theorem dX0_take_81 : decode cX0_take 81 = .ok (.aload_n 0, 1) := by decide +kernel
theorem dX0_take_82 : decode cX0_take 82 = .ok (.getfield 40, 3) := by decide +kernel
theorem dX0_take_85 : decode cX0_take 85 = .ok (.aload_n 0, 1) := by decide +kernel
theorem dX0_take_86 : decode cX0_take 86 = .ok (.getfield 37, 3) := by decide +kernel
theorem dX0_take_89 : decode cX0_take 89 = .ok (.ldc2_w 55, 3) := by decide +kernel
theorem dX0_take_92 : decode cX0_take 92 = .ok (.invokevirtual 57, 3) := by decide +kernel
theorem dX0_take_95 : decode cX0_take 95 = .ok (.ireturn, 1) := by decide +kernel
theorem dX0_take_96 : decode cX0_take 96 = .ok (.aload_n 1, 1) := by decide +kernel
theorem dX0_take_97 : decode cX0_take 97 = .ok (.aload_n 0, 1) := by decide +kernel
theorem dX0_take_98 : decode cX0_take 98 = .ok (.getfield 43, 3) := by decide +kernel
theorem dX0_take_101 : decode cX0_take 101 = .ok (.aload_n 0, 1) := by decide +kernel
theorem dX0_take_102 : decode cX0_take 102 = .ok (.getfield 46, 3) := by decide +kernel
theorem dX0_take_105 : decode cX0_take 105 = .ok (.lconst 0, 1) := by decide +kernel
theorem dX0_take_106 : decode cX0_take 106 = .ok (.invokevirtual 57, 3) := by decide +kernel
theorem dX0_take_109 : decode cX0_take 109 = .ok (.ifCond .eq 23, 3) := by decide +kernel
theorem dX0_take_112 : decode cX0_take 112 = .ok (.aload_n 1, 1) := by decide +kernel
theorem dX0_take_113 : decode cX0_take 113 = .ok (.aload_n 0, 1) := by decide +kernel
theorem dX0_take_114 : decode cX0_take 114 = .ok (.getfield 46, 3) := by decide +kernel
theorem dX0_take_117 : decode cX0_take 117 = .ok (.aload_n 0, 1) := by decide +kernel
theorem dX0_take_118 : decode cX0_take 118 = .ok (.getfield 43, 3) := by decide +kernel
theorem dX0_take_121 : decode cX0_take 121 = .ok (.lconst 0, 1) := by decide +kernel
theorem dX0_take_122 : decode cX0_take 122 = .ok (.invokevirtual 57, 3) := by decide +kernel
theorem dX0_take_125 : decode cX0_take 125 = .ok (.ifCond .eq 7, 3) := by decide +kernel
theorem dX0_take_128 : decode cX0_take 128 = .ok (.iconst 1, 1) := by decide +kernel
theorem dX0_take_129 : decode cX0_take 129 = .ok (.goto 4, 3) := by decide +kernel
theorem dX0_take_132 : decode cX0_take 132 = .ok (.iconst 0, 1) := by decide +kernel
theorem dX0_take_133 : decode cX0_take 133 = .ok (.ireturn, 1) := by decide +kernel
theorem dX1_init_0 : decode cX1_init 0 = .ok (.aload_n 0, 1) := by decide +kernel
theorem dX1_init_1 : decode cX1_init 1 = .ok (.invokespecial 3, 3) := by decide +kernel
theorem dX1_init_4 : decode cX1_init 4 = .ok (.aload_n 0, 1) := by decide +kernel
theorem dX1_init_5 : decode cX1_init 5 = .ok (.bipush 100, 2) := by decide +kernel
theorem dX1_init_7 : decode cX1_init 7 = .ok (.newarray .long, 2) := by decide +kernel
theorem dX1_init_9 : decode cX1_init 9 = .ok (.putfield 9, 3) := by decide +kernel
theorem dX1_init_12 : decode cX1_init 12 = .ok (.return_, 1) := by decide +kernel
set_option maxRecDepth 20000 in
theorem ggX1_clear_J7_fill_d0a16 : GoodIn wsX1_clear wsJ7_fill_d0a16 := goodIn_r _ [6] (by decide +kernel) (by decide +kernel)
set_option maxRecDepth 20000 in
theorem gX1_clear_J7_fill_d0a16 : GoodIn wsX1_clear (va_wsS RX1 17 yJ7_fill_d0a16 wsJ7_fill_d0a16) := goodIn_app (goodIn_of _ (by decide +kernel)) ggX1_clear_J7_fill_d0a16
theorem dX1_clear_0 : decode cX1_clear 0 = .ok (.aload_n 0, 1) := by decide +kernel
theorem dX1_clear_1 : decode cX1_clear 1 = .ok (.getfield 9, 3) := by decide +kernel
theorem dX1_clear_4 : decode cX1_clear 4 = .ok (.ldc2_w 15, 3) := by decide +kernel
theorem dX1_clear_7 : decode cX1_clear 7 = .ok (.invokestatic 17, 3) := by decide +kernel
theorem dX1_clear_10 : decode cX1_clear 10 = .ok (.iconst 0, 1) := by decide +kernel
theorem dX1_clear_11 : decode cX1_clear 11 = .ok (.istore_n 1, 1) := by decide +kernel
theorem dX1_clear_12 : decode cX1_clear 12 = .ok (.iload_n 1, 1) := by decide +kernel
theorem dX1_clear_13 : decode cX1_clear 13 = .ok (.bipush 10, 2) := by decide +kernel
theorem dX1_clear_15 : decode cX1_clear 15 = .ok (.if_icmp .ge 21, 3) := by decide +kernel
theorem dX1_clear_18 : decode cX1_clear 18 = .ok (.aload_n 0, 1) := by decide +kernel
theorem dX1_clear_19 : decode cX1_clear 19 = .ok (.getfield 9, 3) := by decide +kernel
theorem dX1_clear_22 : decode cX1_clear 22 = .ok (.iload_n 1, 1) := by decide +kernel
theorem dX1_clear_23 : decode cX1_clear 23 = .ok (.bipush 10, 2) := by decide +kernel
theorem dX1_clear_25 : decode cX1_clear 25 = .ok (.imul, 1) := by decide +kernel
theorem dX1_clear_26 : decode cX1_clear 26 = .ok (.iload_n 1, 1) := by decide +kernel
theorem dX1_clear_27 : decode cX1_clear 27 = .ok (.iadd, 1) := by decide +kernel
theorem dX1_clear_28 : decode cX1_clear 28 = .ok (.lconst 0, 1) := by decide +kernel
theorem dX1_clear_29 : decode cX1_clear 29 = .ok (.lastore, 1) := by decide +kernel
theorem dX1_clear_30 : decode cX1_clear 30 = .ok (.iinc 1 1, 3) := by decide +kernel
theorem dX1_clear_33 : decode cX1_clear 33 = .ok (.goto (-21), 3) := by decide +kernel
theorem dX1_clear_36 : decode cX1_clear 36 = .ok (.return_, 1) := by decide +kernel
theorem dX1_copyFrom_0 : decode cX1_copyFrom 0 = .ok (.aload_n 1, 1) := by decide +kernel
theorem dX1_copyFrom_1 : decode cX1_copyFrom 1 = .ok (.getfield 9, 3) := by decide +kernel
theorem dX1_copyFrom_4 : decode cX1_copyFrom 4 = .ok (.iconst 0, 1) := by decide +kernel
theorem dX1_copyFrom_5 : decode cX1_copyFrom 5 = .ok (.aload_n 0, 1) := by decide +kernel
theorem dX1_copyFrom_6 : decode cX1_copyFrom 6 = .ok (.getfield 9, 3) := by decide +kernel
theorem dX1_copyFrom_9 : decode cX1_copyFrom 9 = .ok (.iconst 0, 1) := by decide +kernel
theorem dX1_copyFrom_10 : decode cX1_copyFrom 10 = .ok (.bipush 100, 2) := by decide +kernel
theorem dX1_copyFrom_12 : decode cX1_copyFrom 12 = .ok (.invokestatic 23, 3) := by decide +kernel
theorem dX1_copyFrom_15 : decode cX1_copyFrom 15 = .ok (.return_, 1) := by decide +kernel
theorem dX1_between_0 : decode cX1_between 0 = .ok (.iload_n 1, 1) := by decide +kernel
theorem dX1_between_1 : decode cX1_between 1 = .ok (.ifCond .lt 33, 3) := by decide +kernel
theorem dX1_between_4 : decode cX1_between 4 = .ok (.iload_n 1, 1) := by decide +kernel
theorem dX1_between_5 : decode cX1_between 5 = .ok (.bipush 10, 2) := by decide +kernel
theorem dX1_between_7 : decode cX1_between 7 = .ok (.if_icmp .ge 27, 3) := by decide +kernel
theorem dX1_between_10 : decode cX1_between 10 = .ok (.iload_n 2, 1) := by decide +kernel
theorem dX1_between_11 : decode cX1_between 11 = .ok (.ifCond .lt 23, 3) := by decide +kernel
theorem dX1_between_14 : decode cX1_between 14 = .ok (.iload_n 2, 1) := by decide +kernel
theorem dX1_between_15 : decode cX1_between 15 = .ok (.bipush 10, 2) := by decide +kernel
theorem dX1_between_17 : decode cX1_between 17 = .ok (.if_icmp .ge 17, 3) := by decide +kernel
theorem dX1_between_20 : decode cX1_between 20 = .ok (.aload_n 0, 1) := by decide +kernel
theorem dX1_between_21 : decode cX1_between 21 = .ok (.getfield 9, 3) := by decide +kernel
theorem dX1_between_24 : decode cX1_between 24 = .ok (.iload_n 1, 1) := by decide +kernel
theorem dX1_between_25 : decode cX1_between 25 = .ok (.bipush 10, 2) := by decide +kernel
theorem dX1_between_27 : decode cX1_between 27 = .ok (.imul, 1) := by decide +kernel
theorem dX1_between_28 : decode cX1_between 28 = .ok (.iload_n 2, 1) := by decide +kernel
theorem dX1_between_29 : decode cX1_between 29 = .ok (.iadd, 1) := by decide +kernel
theorem dX1_between_30 : decode cX1_between 30 = .ok (.laload, 1) := by decide +kernel
theorem dX1_between_31 : decode cX1_between 31 = .ok (.goto 6, 3) := by decide +kernel
theorem dX1_between_34 : decode cX1_between 34 = .ok (.ldc2_w 15, 3) := by decide +kernel
theorem dX1_between_37 : decode cX1_between 37 = .ok (.lreturn, 1) := by decide +kernel
set_option maxRecDepth 20000 in
theorem ggX1_areEqual_X1_between : GoodIn wsX1_areEqual wsX1_between := goodIn_r _ [5, 6, 7, 8] (by decide +kernel) (by decide +kernel)
set_option maxRecDepth 20000 in
theorem gX1_areEqual_X1_between : GoodIn wsX1_areEqual (wsV RX1 29 RX1 yX1_between wsX1_between) := goodIn_app (goodIn_of _ (by decide +kernel)) ggX1_areEqual_X1_between
theorem dX1_areEqual_0 : decode cX1_areEqual 0 = .ok (.aload_n 0, 1) := by decide +kernel
theorem dX1_areEqual_1 : decode cX1_areEqual 1 = .ok (.iload_n 1, 1) := by decide +kernel
theorem dX1_areEqual_2 : decode cX1_areEqual 2 = .ok (.iload_n 2, 1) := by decide +kernel
theorem dX1_areEqual_3 : decode cX1_areEqual 3 = .ok (.invokevirtual 29, 3) := by decide +kernel
theorem dX1_areEqual_6 : decode cX1_areEqual 6 = .ok (.lconst 0, 1) := by decide +kernel
theorem dX1_areEqual_7 : decode cX1_areEqual 7 = .ok (.lcmp, 1) := by decide +kernel
theorem dX1_areEqual_8 : decode cX1_areEqual 8 = .ok (.ifCond .ne 18, 3) := by decide +kernel
theorem dX1_areEqual_11 : decode cX1_areEqual 11 = .ok (.aload_n 0, 1) := by decide +kernel
theorem dX1_areEqual_12 : decode cX1_areEqual 12 = .ok (.iload_n 2, 1) := by decide +kernel
theorem dX1_areEqual_13 : decode cX1_areEqual 13 = .ok (.iload_n 1, 1) := by decide +kernel
theorem dX1_areEqual_14 : decode cX1_areEqual 14 = .ok (.invokevirtual 29, 3) := by decide +kernel
theorem dX1_areEqual_17 : decode cX1_areEqual 17 = .ok (.lconst 0, 1) := by decide +kernel
theorem dX1_areEqual_18 : decode cX1_areEqual 18 = .ok (.lcmp, 1) := by decide +kernel
theorem dX1_areEqual_19 : decode cX1_areEqual 19 = .ok (.ifCond .ne 7, 3) := by decide +kernel
theorem dX1_areEqual_22 : decode cX1_areEqual 22 = .ok (.iconst 1, 1) := by decide +kernel
theorem dX1_areEqual_23 : decode cX1_areEqual 23 = .ok (.goto 4, 3) := by decide +kernel
theorem dX1_areEqual_26 : decode cX1_areEqual 26 = .ok (.iconst 0, 1) := by decide +kernel
theorem dX1_areEqual_27 : decode cX1_areEqual 27 = .ok (.ireturn, 1) := by decide +kernel
set_option maxRecDepth 20000 in
theorem ggX1_equate_X1_bound : GoodIn wsX1_equate wsX1_bound := goodIn_r _ [5, 6, 7, 8] (by decide +kernel) (by decide +kernel)
set_option maxRecDepth 20000 in
theorem gX1_equate_X1_bound : GoodIn wsX1_equate (wsV RX1 33 RX1 yX1_bound wsX1_bound) := goodIn_app (goodIn_of _ (by decide +kernel)) ggX1_equate_X1_bound
theorem dX1_equate_0 : decode cX1_equate 0 = .ok (.aload_n 0, 1) := by decide +kernel
theorem dX1_equate_1 : decode cX1_equate 1 = .ok (.iload_n 1, 1) := by decide +kernel
theorem dX1_equate_2 : decode cX1_equate 2 = .ok (.iload_n 2, 1) := by decide +kernel
theorem dX1_equate_3 : decode cX1_equate 3 = .ok (.lconst 0, 1) := by decide +kernel
theorem dX1_equate_4 : decode cX1_equate 4 = .ok (.invokevirtual 33, 3) := by decide +kernel
theorem dX1_equate_7 : decode cX1_equate 7 = .ok (.ifCond .eq 17, 3) := by decide +kernel
theorem dX1_equate_10 : decode cX1_equate 10 = .ok (.aload_n 0, 1) := by decide +kernel
theorem dX1_equate_11 : decode cX1_equate 11 = .ok (.iload_n 2, 1) := by decide +kernel
theorem dX1_equate_12 : decode cX1_equate 12 = .ok (.iload_n 1, 1) := by decide +kernel
theorem dX1_equate_13 : decode cX1_equate 13 = .ok (.lconst 0, 1) := by decide +kernel
theorem dX1_equate_14 : decode cX1_equate 14 = .ok (.invokevirtual 33, 3) := by decide +kernel
theorem dX1_equate_17 : decode cX1_equate 17 = .ok (.ifCond .eq 7, 3) := by decide +kernel
theorem dX1_equate_20 : decode cX1_equate 20 = .ok (.iconst 1, 1) := by decide +kernel
theorem dX1_equate_21 : decode cX1_equate 21 = .ok (.goto 4, 3) := by decide +kernel
theorem dX1_equate_24 : decode cX1_equate 24 = .ok (.iconst 0, 1) := by decide +kernel
theorem dX1_equate_25 : decode cX1_equate 25 = .ok (.ireturn, 1) := by decide +kernel
theorem dX1_bound_0 : decode cX1_bound 0 = .ok (.iload_n 1, 1) := by decide +kernel
theorem dX1_bound_1 : decode cX1_bound 1 = .ok (.ifCond .lt 35, 3) := by decide +kernel
theorem dX1_bound_4 : decode cX1_bound 4 = .ok (.iload_n 1, 1) := by decide +kernel
theorem dX1_bound_5 : decode cX1_bound 5 = .ok (.bipush 10, 2) := by decide +kernel
theorem dX1_bound_7 : decode cX1_bound 7 = .ok (.if_icmp .ge 29, 3) := by decide +kernel
theorem dX1_bound_10 : decode cX1_bound 10 = .ok (.iload_n 2, 1) := by decide +kernel
theorem dX1_bound_11 : decode cX1_bound 11 = .ok (.ifCond .lt 25, 3) := by decide +kernel
theorem dX1_bound_14 : decode cX1_bound 14 = .ok (.iload_n 2, 1) := by decide +kernel
theorem dX1_bound_15 : decode cX1_bound 15 = .ok (.bipush 10, 2) := by decide +kernel
theorem dX1_bound_17 : decode cX1_bound 17 = .ok (.if_icmp .ge 19, 3) := by decide +kernel
theorem dX1_bound_20 : decode cX1_bound 20 = .ok (.aload_n 0, 1) := by decide +kernel
theorem dX1_bound_21 : decode cX1_bound 21 = .ok (.getfield 9, 3) := by decide +kernel
theorem dX1_bound_24 : decode cX1_bound 24 = .ok (.iload_n 1, 1) := by decide +kernel
theorem dX1_bound_25 : decode cX1_bound 25 = .ok (.bipush 10, 2) := by decide +kernel
theorem dX1_bound_27 : decode cX1_bound 27 = .ok (.imul, 1) := by decide +kernel
theorem dX1_bound_28 : decode cX1_bound 28 = .ok (.iload_n 2, 1) := by decide +kernel
theorem dX1_bound_29 : decode cX1_bound 29 = .ok (.iadd, 1) := by decide +kernel
theorem dX1_bound_30 : decode cX1_bound 30 = .ok (.laload, 1) := by decide +kernel
theorem dX1_bound_31 : decode cX1_bound 31 = .ok (.lload_n 3, 1) := by decide +kernel
theorem dX1_bound_32 : decode cX1_bound 32 = .ok (.lcmp, 1) := by decide +kernel
theorem dX1_bound_33 : decode cX1_bound 33 = .ok (.ifCond .gt 5, 3) := by decide +kernel
theorem dX1_bound_36 : decode cX1_bound 36 = .ok (.iconst 1, 1) := by decide +kernel
theorem dX1_bound_37 : decode cX1_bound 37 = .ok (.ireturn, 1) := by decide +kernel
theorem dX1_bound_38 : decode cX1_bound 38 = .ok (.aload_n 0, 1) := by decide +kernel
theorem dX1_bound_39 : decode cX1_bound 39 = .ok (.getfield 9, 3) := by decide +kernel
theorem dX1_bound_42 : decode cX1_bound 42 = .ok (.iload_n 2, 1) := by decide +kernel
theorem dX1_bound_43 : decode cX1_bound 43 = .ok (.bipush 10, 2) := by decide +kernel
theorem dX1_bound_45 : decode cX1_bound 45 = .ok (.imul, 1) := by decide +kernel
theorem dX1_bound_46 : decode cX1_bound 46 = .ok (.iload_n 1, 1) := by decide +kernel
theorem dX1_bound_47 : decode cX1_bound 47 = .ok (.iadd, 1) := by decide +kernel
theorem dX1_bound_48 : decode cX1_bound 48 = .ok (.laload, 1) := by decide +kernel
theorem dX1_bound_49 : decode cX1_bound 49 = .ok (.lstore 5, 2) := by decide +kernel
theorem dX1_bound_51 : decode cX1_bound 51 = .ok (.lload 5, 2) := by decide +kernel
theorem dX1_bound_53 : decode cX1_bound 53 = .ok (.ldc2_w 15, 3) := by decide +kernel
theorem dX1_bound_56 : decode cX1_bound 56 = .ok (.lcmp, 1) := by decide +kernel
theorem dX1_bound_57 : decode cX1_bound 57 = .ok (.ifCond .eq 14, 3) := by decide +kernel
theorem dX1_bound_60 : decode cX1_bound 60 = .ok (.lload 5, 2) := by decide +kernel
theorem dX1_bound_62 : decode cX1_bound 62 = .ok (.lload_n 3, 1) := by decide +kernel
theorem dX1_bound_63 : decode cX1_bound 63 = .ok (.ladd, 1) := by decide +kernel
theorem dX1_bound_64 : decode cX1_bound 64 = .ok (.lconst 0, 1) := by decide +kernel
theorem dX1_bound_65 : decode cX1_bound 65 = .ok (.lcmp, 1) := by decide +kernel
theorem dX1_bound_66 : decode cX1_bound 66 = .ok (.ifCond .ge 5, 3) := by decide +kernel
theorem dX1_bound_69 : decode cX1_bound 69 = .ok (.iconst 0, 1) := by decide +kernel
theorem dX1_bound_70 : decode cX1_bound 70 = .ok (.ireturn, 1) := by decide +kernel
theorem dX1_bound_71 : decode cX1_bound 71 = .ok (.iconst 0, 1) := by decide +kernel
theorem dX1_bound_72 : decode cX1_bound 72 = .ok (.istore 7, 2) := by decide +kernel
theorem dX1_bound_74 : decode cX1_bound 74 = .ok (.iload 7, 2) := by decide +kernel
theorem dX1_bound_76 : decode cX1_bound 76 = .ok (.bipush 10, 2) := by decide +kernel
theorem dX1_bound_78 : decode cX1_bound 78 = .ok (.if_icmp .ge 115, 3) := by decide +kernel
theorem dX1_bound_81 : decode cX1_bound 81 = .ok (.aload_n 0, 1) := by decide +kernel
theorem dX1_bound_82 : decode cX1_bound 82 = .ok (.getfield 9, 3) := by decide +kernel
theorem dX1_bound_85 : decode cX1_bound 85 = .ok (.iload 7, 2) := by decide +kernel
theorem dX1_bound_87 : decode cX1_bound 87 = .ok (.bipush 10, 2) := by decide +kernel
theorem dX1_bound_89 : decode cX1_bound 89 = .ok (.imul, 1) := by decide +kernel
theorem dX1_bound_90 : decode cX1_bound 90 = .ok (.iload_n 1, 1) := by decide +kernel
theorem dX1_bound_91 : decode cX1_bound 91 = .ok (.iadd, 1) := by decide +kernel
theorem dX1_bound_92 : decode cX1_bound 92 = .ok (.laload, 1) := by decide +kernel
theorem dX1_bound_93 : decode cX1_bound 93 = .ok (.lstore 8, 2) := by decide +kernel
theorem dX1_bound_95 : decode cX1_bound 95 = .ok (.iconst 0, 1) := by decide +kernel
theorem dX1_bound_96 : decode cX1_bound 96 = .ok (.istore 10, 2) := by decide +kernel
theorem dX1_bound_98 : decode cX1_bound 98 = .ok (.iload 10, 2) := by decide +kernel
theorem dX1_bound_100 : decode cX1_bound 100 = .ok (.bipush 10, 2) := by decide +kernel
theorem dX1_bound_102 : decode cX1_bound 102 = .ok (.if_icmp .ge 85, 3) := by decide +kernel
theorem dX1_bound_105 : decode cX1_bound 105 = .ok (.lload 8, 2) := by decide +kernel
theorem dX1_bound_107 : decode cX1_bound 107 = .ok (.ldc2_w 15, 3) := by decide +kernel
theorem dX1_bound_110 : decode cX1_bound 110 = .ok (.lcmp, 1) := by decide +kernel
theorem dX1_bound_111 : decode cX1_bound 111 = .ok (.ifCond .eq 76, 3) := by decide +kernel
theorem dX1_bound_114 : decode cX1_bound 114 = .ok (.aload_n 0, 1) := by decide +kernel
theorem dX1_bound_115 : decode cX1_bound 115 = .ok (.getfield 9, 3) := by decide +kernel
theorem dX1_bound_118 : decode cX1_bound 118 = .ok (.iload_n 2, 1) := by decide +kernel
theorem dX1_bound_119 : decode cX1_bound 119 = .ok (.bipush 10, 2) := by decide +kernel
theorem dX1_bound_121 : decode cX1_bound 121 = .ok (.imul, 1) := by decide +kernel
theorem dX1_bound_122 : decode cX1_bound 122 = .ok (.iload 10, 2) := by decide +kernel
theorem dX1_bound_124 : decode cX1_bound 124 = .ok (.iadd, 1) := by decide +kernel
theorem dX1_bound_125 : decode cX1_bound 125 = .ok (.laload, 1) := by decide +kernel
theorem dX1_bound_126 : decode cX1_bound 126 = .ok (.lstore 11, 2) := by decide +kernel
theorem dX1_bound_128 : decode cX1_bound 128 = .ok (.lload 11, 2) := by decide +kernel
theorem dX1_bound_130 : decode cX1_bound 130 = .ok (.ldc2_w 15, 3) := by decide +kernel
theorem dX1_bound_133 : decode cX1_bound 133 = .ok (.lcmp, 1) := by decide +kernel
theorem dX1_bound_134 : decode cX1_bound 134 = .ok (.ifCond .eq 47, 3) := by decide +kernel
theorem dX1_bound_137 : decode cX1_bound 137 = .ok (.lload 8, 2) := by decide +kernel
theorem dX1_bound_139 : decode cX1_bound 139 = .ok (.lload_n 3, 1) := by decide +kernel
theorem dX1_bound_140 : decode cX1_bound 140 = .ok (.ladd, 1) := by decide +kernel
theorem dX1_bound_141 : decode cX1_bound 141 = .ok (.lload 11, 2) := by decide +kernel
theorem dX1_bound_143 : decode cX1_bound 143 = .ok (.ladd, 1) := by decide +kernel
theorem dX1_bound_144 : decode cX1_bound 144 = .ok (.aload_n 0, 1) := by decide +kernel
theorem dX1_bound_145 : decode cX1_bound 145 = .ok (.getfield 9, 3) := by decide +kernel
theorem dX1_bound_148 : decode cX1_bound 148 = .ok (.iload 7, 2) := by decide +kernel
theorem dX1_bound_150 : decode cX1_bound 150 = .ok (.bipush 10, 2) := by decide +kernel
theorem dX1_bound_152 : decode cX1_bound 152 = .ok (.imul, 1) := by decide +kernel
theorem dX1_bound_153 : decode cX1_bound 153 = .ok (.iload 10, 2) := by decide +kernel
theorem dX1_bound_155 : decode cX1_bound 155 = .ok (.iadd, 1) := by decide +kernel
theorem dX1_bound_156 : decode cX1_bound 156 = .ok (.laload, 1) := by decide +kernel
theorem dX1_bound_157 : decode cX1_bound 157 = .ok (.lcmp, 1) := by decide +kernel
theorem dX1_bound_158 : decode cX1_bound 158 = .ok (.ifCond .ge 23, 3) := by decide +kernel
theorem dX1_bound_161 : decode cX1_bound 161 = .ok (.aload_n 0, 1) := by decide +kernel
theorem dX1_bound_162 : decode cX1_bound 162 = .ok (.getfield 9, 3) := by decide +kernel
theorem dX1_bound_165 : decode cX1_bound 165 = .ok (.iload 7, 2) := by decide +kernel
theorem dX1_bound_167 : decode cX1_bound 167 = .ok (.bipush 10, 2) := by decide +kernel
theorem dX1_bound_169 : decode cX1_bound 169 = .ok (.imul, 1) := by decide +kernel
theorem dX1_bound_170 : decode cX1_bound 170 = .ok (.iload 10, 2) := by decide +kernel
theorem dX1_bound_172 : decode cX1_bound 172 = .ok (.iadd, 1) := by decide +kernel
theorem dX1_bound_173 : decode cX1_bound 173 = .ok (.lload 8, 2) := by decide +kernel
theorem dX1_bound_175 : decode cX1_bound 175 = .ok (.lload_n 3, 1) := by decide +kernel
theorem dX1_bound_176 : decode cX1_bound 176 = .ok (.ladd, 1) := by decide +kernel
theorem dX1_bound_177 : decode cX1_bound 177 = .ok (.lload 11, 2) := by decide +kernel
theorem dX1_bound_179 : decode cX1_bound 179 = .ok (.ladd, 1) := by decide +kernel
theorem dX1_bound_180 : decode cX1_bound 180 = .ok (.lastore, 1) := by decide +kernel
theorem dX1_bound_181 : decode cX1_bound 181 = .ok (.iinc 10 1, 3) := by decide +kernel
theorem dX1_bound_184 : decode cX1_bound 184 = .ok (.goto (-86), 3) := by decide +kernel
theorem dX1_bound_187 : decode cX1_bound 187 = .ok (.iinc 7 1, 3) := by decide +kernel
theorem dX1_bound_190 : decode cX1_bound 190 = .ok (.goto (-116), 3) := by decide +kernel
theorem dX1_bound_193 : decode cX1_bound 193 = .ok (.iconst 1, 1) := by decide +kernel
theorem dX1_bound_194 : decode cX1_bound 194 = .ok (.ireturn, 1) := by decide +kernel
set_option maxRecDepth 20000 in
theorem ggX2_init_X1_init : GoodIn wsX2_init wsX1_init := goodIn_r _ [13, 14, 2, 3, 15, 16, 17] (by decide +kernel) (by decide +kernel)
set_option maxRecDepth 20000 in
theorem gX2_init_X1_init_n11 : GoodIn wsX2_init (wsX1_init) := ggX2_init_X1_init
theorem dX2_init_0 : decode cX2_init 0 = .ok (.aload_n 0, 1) := by decide +kernel
theorem dX2_init_1 : decode cX2_init 1 = .ok (.invokespecial 3, 3) := by decide +kernel
theorem dX2_init_4 : decode cX2_init 4 = .ok (.aload_n 0, 1) := by decide +kernel
theorem dX2_init_5 : decode cX2_init 5 = .ok (.new 9, 3) := by decide +kernel
theorem dX2_init_8 : decode cX2_init 8 = .ok (.dup, 1) := by decide +kernel
theorem dX2_init_9 : decode cX2_init 9 = .ok (.invokespecial 11, 3) := by decide +kernel
theorem dX2_init_12 : decode cX2_init 12 = .ok (.putfield 12, 3) := by decide +kernel
theorem dX2_init_15 : decode cX2_init 15 = .ok (.aload_n 0, 1) := by decide +kernel
theorem dX2_init_16 : decode cX2_init 16 = .ok (.bipush 10, 2) := by decide +kernel
theorem dX2_init_18 : decode cX2_init 18 = .ok (.newarray .int, 2) := by decide +kernel
theorem dX2_init_20 : decode cX2_init 20 = .ok (.putfield 18, 3) := by decide +kernel
theorem dX2_init_23 : decode cX2_init 23 = .ok (.aload_n 0, 1) := by decide +kernel
theorem dX2_init_24 : decode cX2_init 24 = .ok (.aload_n 1, 1) := by decide +kernel
theorem dX2_init_25 : decode cX2_init 25 = .ok (.putfield 22, 3) := by decide +kernel
theorem dX2_init_28 : decode cX2_init 28 = .ok (.aload_n 0, 1) := by decide +kernel
theorem dX2_init_29 : decode cX2_init 29 = .ok (.aload_n 2, 1) := by decide +kernel
theorem dX2_init_30 : decode cX2_init 30 = .ok (.putfield 26, 3) := by decide +kernel
theorem dX2_init_33 : decode cX2_init 33 = .ok (.return_, 1) := by decide +kernel
theorem dX2_rounds_0 : decode cX2_rounds 0 = .ok (.aload_n 0, 1) := by decide +kernel
theorem dX2_rounds_1 : decode cX2_rounds 1 = .ok (.getfield 30, 3) := by decide +kernel
theorem dX2_rounds_4 : decode cX2_rounds 4 = .ok (.ireturn, 1) := by decide +kernel
theorem dX2_hasConflict_0 : decode cX2_hasConflict 0 = .ok (.aload_n 0, 1) := by decide +kernel
theorem dX2_hasConflict_1 : decode cX2_hasConflict 1 = .ok (.getfield 34, 3) := by decide +kernel
theorem dX2_hasConflict_4 : decode cX2_hasConflict 4 = .ok (.ireturn, 1) := by decide +kernel
set_option maxRecDepth 20000 in
theorem ggX2_distance_X1_between : GoodIn wsX2_distance wsX1_between := goodIn_r _ [6, 7, 8, 15] (by decide +kernel) (by decide +kernel)
set_option maxRecDepth 20000 in
theorem gX2_distance_X1_between : GoodIn wsX2_distance (wsV RX2 38 RX1 yX1_between wsX1_between) := goodIn_app (goodIn_of _ (by decide +kernel)) ggX2_distance_X1_between
theorem dX2_distance_0 : decode cX2_distance 0 = .ok (.aload_n 0, 1) := by decide +kernel
theorem dX2_distance_1 : decode cX2_distance 1 = .ok (.getfield 12, 3) := by decide +kernel
theorem dX2_distance_4 : decode cX2_distance 4 = .ok (.iload_n 1, 1) := by decide +kernel
theorem dX2_distance_5 : decode cX2_distance 5 = .ok (.iload_n 2, 1) := by decide +kernel
theorem dX2_distance_6 : decode cX2_distance 6 = .ok (.invokevirtual 38, 3) := by decide +kernel
theorem dX2_distance_9 : decode cX2_distance 9 = .ok (.lreturn, 1) := by decide +kernel
theorem dX2_smallestSame_0 : decode cX2_smallestSame 0 = .ok (.iload_n 1, 1) := by decide +kernel
theorem dX2_smallestSame_1 : decode cX2_smallestSame 1 = .ok (.ifCond .lt 18, 3) := by decide +kernel
theorem dX2_smallestSame_4 : decode cX2_smallestSame 4 = .ok (.iload_n 1, 1) := by decide +kernel
theorem dX2_smallestSame_5 : decode cX2_smallestSame 5 = .ok (.bipush 10, 2) := by decide +kernel
theorem dX2_smallestSame_7 : decode cX2_smallestSame 7 = .ok (.if_icmp .ge 12, 3) := by decide +kernel
theorem dX2_smallestSame_10 : decode cX2_smallestSame 10 = .ok (.aload_n 0, 1) := by decide +kernel
theorem dX2_smallestSame_11 : decode cX2_smallestSame 11 = .ok (.getfield 18, 3) := by decide +kernel
theorem dX2_smallestSame_14 : decode cX2_smallestSame 14 = .ok (.iload_n 1, 1) := by decide +kernel
theorem dX2_smallestSame_15 : decode cX2_smallestSame 15 = .ok (.iaload, 1) := by decide +kernel
theorem dX2_smallestSame_16 : decode cX2_smallestSame 16 = .ok (.goto 5, 3) := by decide +kernel
theorem dX2_smallestSame_19 : decode cX2_smallestSame 19 = .ok (.ldc 42, 2) := by decide +kernel
theorem dX2_smallestSame_21 : decode cX2_smallestSame 21 = .ok (.ireturn, 1) := by decide +kernel
set_option maxRecDepth 20000 in
theorem ggX2_classes_X7_size : GoodIn wsX2_classes wsX7_size := goodIn_r _ [7, 8, 15, 16, 17, 18, 19] (by decide +kernel) (by decide +kernel)
set_option maxRecDepth 20000 in
theorem gX2_classes_X7_size : GoodIn wsX2_classes (wsV RX2 43 RX7 yX7_size wsX7_size) := goodIn_app (goodIn_of _ (by decide +kernel)) ggX2_classes_X7_size
theorem dX2_classes_0 : decode cX2_classes 0 = .ok (.iconst 0, 1) := by decide +kernel
theorem dX2_classes_1 : decode cX2_classes 1 = .ok (.istore_n 1, 1) := by decide +kernel
theorem dX2_classes_2 : decode cX2_classes 2 = .ok (.iconst 0, 1) := by decide +kernel
theorem dX2_classes_3 : decode cX2_classes 3 = .ok (.istore_n 2, 1) := by decide +kernel
theorem dX2_classes_4 : decode cX2_classes 4 = .ok (.iload_n 2, 1) := by decide +kernel
theorem dX2_classes_5 : decode cX2_classes 5 = .ok (.aload_n 0, 1) := by decide +kernel
theorem dX2_classes_6 : decode cX2_classes 6 = .ok (.getfield 22, 3) := by decide +kernel
theorem dX2_classes_9 : decode cX2_classes 9 = .ok (.invokevirtual 43, 3) := by decide +kernel
theorem dX2_classes_12 : decode cX2_classes 12 = .ok (.if_icmp .ge 28, 3) := by decide +kernel
theorem dX2_classes_15 : decode cX2_classes 15 = .ok (.iload_n 2, 1) := by decide +kernel
theorem dX2_classes_16 : decode cX2_classes 16 = .ok (.bipush 10, 2) := by decide +kernel
theorem dX2_classes_18 : decode cX2_classes 18 = .ok (.if_icmp .ge 22, 3) := by decide +kernel
theorem dX2_classes_21 : decode cX2_classes 21 = .ok (.aload_n 0, 1) := by decide +kernel
theorem dX2_classes_22 : decode cX2_classes 22 = .ok (.getfield 18, 3) := by decide +kernel
theorem dX2_classes_25 : decode cX2_classes 25 = .ok (.iload_n 2, 1) := by decide +kernel
theorem dX2_classes_26 : decode cX2_classes 26 = .ok (.iaload, 1) := by decide +kernel
theorem dX2_classes_27 : decode cX2_classes 27 = .ok (.iload_n 2, 1) := by decide +kernel
theorem dX2_classes_28 : decode cX2_classes 28 = .ok (.if_icmp .ne 6, 3) := by decide +kernel
theorem dX2_classes_31 : decode cX2_classes 31 = .ok (.iinc 1 1, 3) := by decide +kernel
theorem dX2_classes_34 : decode cX2_classes 34 = .ok (.iinc 2 1, 3) := by decide +kernel
theorem dX2_classes_37 : decode cX2_classes 37 = .ok (.goto (-33), 3) := by decide +kernel
theorem dX2_classes_40 : decode cX2_classes 40 = .ok (.iload_n 1, 1) := by decide +kernel
theorem dX2_classes_41 : decode cX2_classes 41 = .ok (.ireturn, 1) := by decide +kernel
set_option maxRecDepth 20000 in
theorem ggX2_run_X2_joinByEqualities : GoodIn wsX2_run wsX2_joinByEqualities := goodIn_r _ [7, 8, 9, 10, 11, 12, 13, 14, 15, 16, 17, 18, 19, 20, 21, 22, 23, 24, 25, 26, 27, 28, 29, 30, 31, 32, 33, 34, 35, 36, 37, 38, 6, 39, 40, 41, 42, 43, 44, 45, 46, 47, 48, 130, 131, 132, 133, 134, 135, 136, 137, 138, 139, 140] (by decide +kernel) (by decide +kernel)
set_option maxRecDepth 20000 in
theorem gX2_run_X2_joinByEqualities : GoodIn wsX2_run (wsV RX2 49 RX2 yX2_joinByEqualities wsX2_joinByEqualities) := goodIn_app (goodIn_of _ (by decide +kernel)) ggX2_run_X2_joinByEqualities
set_option maxRecDepth 20000 in
theorem ggX2_run_X2_joinByCongruence : GoodIn wsX2_run wsX2_joinByCongruence := goodIn_r _ [52, 53, 54, 55, 56, 57, 58, 59, 60, 61, 62, 6, 63, 64, 65, 66, 67, 68, 69, 70, 71, 72, 73, 74, 75, 76, 77, 78, 44, 45, 46, 47, 8, 48, 79, 80, 81, 82, 83, 36, 37, 38, 39, 40, 41, 42, 43, 130, 131, 132, 133, 134, 135, 141, 142, 143, 144, 145] (by decide +kernel) (by decide +kernel)
set_option maxRecDepth 20000 in
theorem gX2_run_X2_joinByCongruence : GoodIn wsX2_run (wsV RX2 52 RX2 yX2_joinByCongruence wsX2_joinByCongruence) := goodIn_app (goodIn_of _ (by decide +kernel)) ggX2_run_X2_joinByCongruence
set_option maxRecDepth 20000 in
theorem ggX2_run_X2_measure : GoodIn wsX2_run wsX2_measure := goodIn_r _ [87, 88, 8, 9, 89, 90, 91, 92, 93, 94, 95, 96, 97, 98, 99, 100, 101, 102, 103, 104, 105, 106, 107, 10, 11, 12, 13, 14, 15, 16, 17, 18, 19, 20, 21, 22, 23, 24, 25, 26, 27, 28, 29, 30, 31, 32, 33, 34, 35, 108, 109, 110, 111, 112, 113, 130, 131, 132, 133, 134, 135, 146, 136, 137, 138, 139, 140] (by decide +kernel) (by decide +kernel)
set_option maxRecDepth 20000 in
theorem gX2_run_X2_measure : GoodIn wsX2_run (wsV RX2 55 RX2 yX2_measure wsX2_measure) := goodIn_app (goodIn_of _ (by decide +kernel)) ggX2_run_X2_measure
set_option maxRecDepth 20000 in
theorem ggX2_run_X2_joinByDistances : GoodIn wsX2_run wsX2_joinByDistances := goodIn_r _ [117, 53, 88, 54, 55, 56, 57, 58, 59, 118, 119, 120, 92, 121, 122, 123, 124, 125, 94, 95, 36, 37, 38, 6, 39, 40, 41, 42, 43, 8, 44, 45, 46, 47, 48, 130, 131, 132, 133, 134, 135, 141, 142, 143, 144, 145, 146] (by decide +kernel) (by decide +kernel)
set_option maxRecDepth 20000 in
theorem gX2_run_X2_joinByDistances : GoodIn wsX2_run (wsV RX2 59 RX2 yX2_joinByDistances wsX2_joinByDistances) := goodIn_app (goodIn_of _ (by decide +kernel)) ggX2_run_X2_joinByDistances
set_option maxRecDepth 20000 in
theorem ggX2_run_X2_violatesInequality : GoodIn wsX2_run wsX2_violatesInequality := goodIn_r _ [129, 9, 10, 11, 12, 13, 14, 15, 16, 17, 18, 19, 20, 21, 22, 23, 24, 25, 26, 27, 28, 29, 30, 44, 45, 46, 6, 47, 8, 48, 31, 32, 33, 34, 35, 130, 131, 132, 133, 134, 135, 136, 137, 138, 139, 140] (by decide +kernel) (by decide +kernel)
set_option maxRecDepth 20000 in
theorem gX2_run_X2_violatesInequality : GoodIn wsX2_run (wsV RX2 62 RX2 yX2_violatesInequality wsX2_violatesInequality) := goodIn_app (goodIn_of _ (by decide +kernel)) ggX2_run_X2_violatesInequality
theorem dX2_run_0 : decode cX2_run 0 = .ok (.aload_n 0, 1) := by decide +kernel
theorem dX2_run_1 : decode cX2_run 1 = .ok (.invokevirtual 49, 3) := by decide +kernel
theorem dX2_run_4 : decode cX2_run 4 = .ok (.iconst 1, 1) := by decide +kernel
theorem dX2_run_5 : decode cX2_run 5 = .ok (.istore_n 1, 1) := by decide +kernel
theorem dX2_run_6 : decode cX2_run 6 = .ok (.iconst 1, 1) := by decide +kernel
theorem dX2_run_7 : decode cX2_run 7 = .ok (.istore_n 2, 1) := by decide +kernel
theorem dX2_run_8 : decode cX2_run 8 = .ok (.iload_n 2, 1) := by decide +kernel
theorem dX2_run_9 : decode cX2_run 9 = .ok (.bipush 10, 2) := by decide +kernel
theorem dX2_run_11 : decode cX2_run 11 = .ok (.if_icmp .gt 40, 3) := by decide +kernel
theorem dX2_run_14 : decode cX2_run 14 = .ok (.iload_n 1, 1) := by decide +kernel
theorem dX2_run_15 : decode cX2_run 15 = .ok (.ifCond .eq 36, 3) := by decide +kernel
theorem dX2_run_18 : decode cX2_run 18 = .ok (.aload_n 0, 1) := by decide +kernel
theorem dX2_run_19 : decode cX2_run 19 = .ok (.iload_n 2, 1) := by decide +kernel
theorem dX2_run_20 : decode cX2_run 20 = .ok (.putfield 30, 3) := by decide +kernel
theorem dX2_run_23 : decode cX2_run 23 = .ok (.aload_n 0, 1) := by decide +kernel
theorem dX2_run_24 : decode cX2_run 24 = .ok (.invokevirtual 52, 3) := by decide +kernel
theorem dX2_run_27 : decode cX2_run 27 = .ok (.aload_n 0, 1) := by decide +kernel
theorem dX2_run_28 : decode cX2_run 28 = .ok (.invokevirtual 55, 3) := by decide +kernel
theorem dX2_run_31 : decode cX2_run 31 = .ok (.ifCond .ne 9, 3) := by decide +kernel
theorem dX2_run_34 : decode cX2_run 34 = .ok (.aload_n 0, 1) := by decide +kernel
theorem dX2_run_35 : decode cX2_run 35 = .ok (.iconst 1, 1) := by decide +kernel
theorem dX2_run_36 : decode cX2_run 36 = .ok (.putfield 34, 3) := by decide +kernel
theorem dX2_run_39 : decode cX2_run 39 = .ok (.return_, 1) := by decide +kernel
theorem dX2_run_40 : decode cX2_run 40 = .ok (.aload_n 0, 1) := by decide +kernel
theorem dX2_run_41 : decode cX2_run 41 = .ok (.invokevirtual 59, 3) := by decide +kernel
theorem dX2_run_44 : decode cX2_run 44 = .ok (.istore_n 1, 1) := by decide +kernel
theorem dX2_run_45 : decode cX2_run 45 = .ok (.iinc 2 1, 3) := by decide +kernel
theorem dX2_run_48 : decode cX2_run 48 = .ok (.goto (-40), 3) := by decide +kernel
theorem dX2_run_51 : decode cX2_run 51 = .ok (.aload_n 0, 1) := by decide +kernel
theorem dX2_run_52 : decode cX2_run 52 = .ok (.aload_n 0, 1) := by decide +kernel
theorem dX2_run_53 : decode cX2_run 53 = .ok (.invokevirtual 62, 3) := by decide +kernel
theorem dX2_run_56 : decode cX2_run 56 = .ok (.putfield 34, 3) := by decide +kernel
theorem dX2_run_59 : decode cX2_run 59 = .ok (.return_, 1) := by decide +kernel
set_option maxRecDepth 20000 in
theorem ggX2_joinByEqualities_X3_size : GoodIn wsX2_joinByEqualities wsX3_size := goodIn_r _ [7, 8, 49, 50, 51, 52, 53] (by decide +kernel) (by decide +kernel)
set_option maxRecDepth 20000 in
theorem gX2_joinByEqualities_X3_size : GoodIn wsX2_joinByEqualities (wsV RX2 65 RX3 yX3_size wsX3_size) := goodIn_app (goodIn_of _ (by decide +kernel)) ggX2_joinByEqualities_X3_size
set_option maxRecDepth 20000 in
theorem ggX2_joinByEqualities_X3_kindOf : GoodIn wsX2_joinByEqualities wsX3_kindOf := goodIn_r _ [12, 13, 14, 15, 16, 17, 6, 18, 8, 49, 50, 51, 52, 53] (by decide +kernel) (by decide +kernel)
set_option maxRecDepth 20000 in
theorem gX2_joinByEqualities_X3_kindOf : GoodIn wsX2_joinByEqualities (wsV RX2 68 RX3 yX3_kindOf wsX3_kindOf) := goodIn_app (goodIn_of _ (by decide +kernel)) ggX2_joinByEqualities_X3_kindOf
set_option maxRecDepth 20000 in
theorem ggX2_joinByEqualities_X3_leftOf : GoodIn wsX2_joinByEqualities wsX3_leftOf := goodIn_r _ [22, 23, 14, 15, 16, 17, 6, 18, 8, 49, 50, 51, 52, 53] (by decide +kernel) (by decide +kernel)
set_option maxRecDepth 20000 in
theorem gX2_joinByEqualities_X3_leftOf : GoodIn wsX2_joinByEqualities (wsV RX2 72 RX3 yX3_leftOf wsX3_leftOf) := goodIn_app (goodIn_of _ (by decide +kernel)) ggX2_joinByEqualities_X3_leftOf
set_option maxRecDepth 20000 in
theorem ggX2_joinByEqualities_X3_rightOf : GoodIn wsX2_joinByEqualities wsX3_rightOf := goodIn_r _ [27, 28, 14, 15, 16, 17, 6, 18, 8, 49, 50, 51, 52, 53] (by decide +kernel) (by decide +kernel)
set_option maxRecDepth 20000 in
theorem gX2_joinByEqualities_X3_rightOf : GoodIn wsX2_joinByEqualities (wsV RX2 75 RX3 yX3_rightOf wsX3_rightOf) := goodIn_app (goodIn_of _ (by decide +kernel)) ggX2_joinByEqualities_X3_rightOf
set_option maxRecDepth 20000 in
theorem ggX2_joinByEqualities_X2_join : GoodIn wsX2_joinByEqualities wsX2_join := goodIn_r _ [33, 34, 35, 36, 37, 1, 38, 39, 40, 32, 41, 42, 43, 44, 45, 46, 47, 48] (by decide +kernel) (by decide +kernel)
set_option maxRecDepth 20000 in
theorem gX2_joinByEqualities_X2_join : GoodIn wsX2_joinByEqualities (wsV RX2 78 RX2 yX2_join wsX2_join) := goodIn_app (goodIn_of _ (by decide +kernel)) ggX2_joinByEqualities_X2_join
theorem dX2_joinByEqualities_0 : decode cX2_joinByEqualities 0 = .ok (.iconst 0, 1) := by decide +kernel
theorem dX2_joinByEqualities_1 : decode cX2_joinByEqualities 1 = .ok (.istore_n 1, 1) := by decide +kernel
theorem dX2_joinByEqualities_2 : decode cX2_joinByEqualities 2 = .ok (.iload_n 1, 1) := by decide +kernel
theorem dX2_joinByEqualities_3 : decode cX2_joinByEqualities 3 = .ok (.bipush 10, 2) := by decide +kernel
theorem dX2_joinByEqualities_5 : decode cX2_joinByEqualities 5 = .ok (.if_icmp .ge 16, 3) := by decide +kernel
theorem dX2_joinByEqualities_8 : decode cX2_joinByEqualities 8 = .ok (.aload_n 0, 1) := by decide +kernel
theorem dX2_joinByEqualities_9 : decode cX2_joinByEqualities 9 = .ok (.getfield 18, 3) := by decide +kernel
theorem dX2_joinByEqualities_12 : decode cX2_joinByEqualities 12 = .ok (.iload_n 1, 1) := by decide +kernel
theorem dX2_joinByEqualities_13 : decode cX2_joinByEqualities 13 = .ok (.iload_n 1, 1) := by decide +kernel
theorem dX2_joinByEqualities_14 : decode cX2_joinByEqualities 14 = .ok (.iastore, 1) := by decide +kernel
theorem dX2_joinByEqualities_15 : decode cX2_joinByEqualities 15 = .ok (.iinc 1 1, 3) := by decide +kernel
theorem dX2_joinByEqualities_18 : decode cX2_joinByEqualities 18 = .ok (.goto (-16), 3) := by decide +kernel
theorem dX2_joinByEqualities_21 : decode cX2_joinByEqualities 21 = .ok (.iconst 0, 1) := by decide +kernel
theorem dX2_joinByEqualities_22 : decode cX2_joinByEqualities 22 = .ok (.istore_n 1, 1) := by decide +kernel
theorem dX2_joinByEqualities_23 : decode cX2_joinByEqualities 23 = .ok (.iload_n 1, 1) := by decide +kernel
theorem dX2_joinByEqualities_24 : decode cX2_joinByEqualities 24 = .ok (.aload_n 0, 1) := by decide +kernel
theorem dX2_joinByEqualities_25 : decode cX2_joinByEqualities 25 = .ok (.getfield 26, 3) := by decide +kernel
theorem dX2_joinByEqualities_28 : decode cX2_joinByEqualities 28 = .ok (.invokevirtual 65, 3) := by decide +kernel
theorem dX2_joinByEqualities_31 : decode cX2_joinByEqualities 31 = .ok (.if_icmp .ge 41, 3) := by decide +kernel
theorem dX2_joinByEqualities_34 : decode cX2_joinByEqualities 34 = .ok (.aload_n 0, 1) := by decide +kernel
theorem dX2_joinByEqualities_35 : decode cX2_joinByEqualities 35 = .ok (.getfield 26, 3) := by decide +kernel
theorem dX2_joinByEqualities_38 : decode cX2_joinByEqualities 38 = .ok (.iload_n 1, 1) := by decide +kernel
theorem dX2_joinByEqualities_39 : decode cX2_joinByEqualities 39 = .ok (.invokevirtual 68, 3) := by decide +kernel
theorem dX2_joinByEqualities_42 : decode cX2_joinByEqualities 42 = .ok (.ifCond .ne 24, 3) := by decide +kernel
theorem dX2_joinByEqualities_45 : decode cX2_joinByEqualities 45 = .ok (.aload_n 0, 1) := by decide +kernel
theorem dX2_joinByEqualities_46 : decode cX2_joinByEqualities 46 = .ok (.aload_n 0, 1) := by decide +kernel
theorem dX2_joinByEqualities_47 : decode cX2_joinByEqualities 47 = .ok (.getfield 26, 3) := by decide +kernel
theorem dX2_joinByEqualities_50 : decode cX2_joinByEqualities 50 = .ok (.iload_n 1, 1) := by decide +kernel
theorem dX2_joinByEqualities_51 : decode cX2_joinByEqualities 51 = .ok (.invokevirtual 72, 3) := by decide +kernel
theorem dX2_joinByEqualities_54 : decode cX2_joinByEqualities 54 = .ok (.aload_n 0, 1) := by decide +kernel
theorem dX2_joinByEqualities_55 : decode cX2_joinByEqualities 55 = .ok (.getfield 26, 3) := by decide +kernel
theorem dX2_joinByEqualities_58 : decode cX2_joinByEqualities 58 = .ok (.iload_n 1, 1) := by decide +kernel
theorem dX2_joinByEqualities_59 : decode cX2_joinByEqualities 59 = .ok (.invokevirtual 75, 3) := by decide +kernel
theorem dX2_joinByEqualities_62 : decode cX2_joinByEqualities 62 = .ok (.invokevirtual 78, 3) := by decide +kernel
theorem dX2_joinByEqualities_65 : decode cX2_joinByEqualities 65 = .ok (.pop, 1) := by decide +kernel
theorem dX2_joinByEqualities_66 : decode cX2_joinByEqualities 66 = .ok (.iinc 1 1, 3) := by decide +kernel
theorem dX2_joinByEqualities_69 : decode cX2_joinByEqualities 69 = .ok (.goto (-46), 3) := by decide +kernel
theorem dX2_joinByEqualities_72 : decode cX2_joinByEqualities 72 = .ok (.return_, 1) := by decide +kernel
set_option maxRecDepth 20000 in
theorem ggX2_joinByCongruence_X7_size : GoodIn wsX2_joinByCongruence wsX7_size := goodIn_r _ [6, 7, 53, 54, 55, 56, 57] (by decide +kernel) (by decide +kernel)
set_option maxRecDepth 20000 in
theorem gX2_joinByCongruence_X7_size : GoodIn wsX2_joinByCongruence (wsV RX2 43 RX7 yX7_size wsX7_size) := goodIn_app (goodIn_of _ (by decide +kernel)) ggX2_joinByCongruence_X7_size
set_option maxRecDepth 20000 in
theorem ggX2_joinByCongruence_X2_haveSameArguments : GoodIn wsX2_joinByCongruence wsX2_haveSameArguments := goodIn_r _ [12, 1, 13, 14, 15, 5, 16, 17, 18, 19, 20, 21, 7, 22, 23, 24, 25, 26, 27, 28, 29, 30, 11, 31, 32, 33, 34, 35, 36, 37, 38, 47, 48, 49, 50, 51, 52, 53, 54, 55, 56, 57] (by decide +kernel) (by decide +kernel)
set_option maxRecDepth 20000 in
theorem gX2_joinByCongruence_X2_haveSameArguments : GoodIn wsX2_joinByCongruence (wsV RX2 82 RX2 yX2_haveSameArguments wsX2_haveSameArguments) := goodIn_app (goodIn_of _ (by decide +kernel)) ggX2_joinByCongruence_X2_haveSameArguments
set_option maxRecDepth 20000 in
theorem ggX2_joinByCongruence_X2_join : GoodIn wsX2_joinByCongruence wsX2_join := goodIn_r _ [42, 43, 44, 45, 46, 32, 28, 29, 30, 11, 31, 33, 47, 48, 49, 50, 51, 52] (by decide +kernel) (by decide +kernel)
set_option maxRecDepth 20000 in
theorem gX2_joinByCongruence_X2_join : GoodIn wsX2_joinByCongruence (wsV RX2 78 RX2 yX2_join wsX2_join) := goodIn_app (goodIn_of _ (by decide +kernel)) ggX2_joinByCongruence_X2_join
theorem dX2_joinByCongruence_0 : decode cX2_joinByCongruence 0 = .ok (.iconst 1, 1) := by decide +kernel
theorem dX2_joinByCongruence_1 : decode cX2_joinByCongruence 1 = .ok (.istore_n 1, 1) := by decide +kernel
theorem dX2_joinByCongruence_2 : decode cX2_joinByCongruence 2 = .ok (.iconst 0, 1) := by decide +kernel
theorem dX2_joinByCongruence_3 : decode cX2_joinByCongruence 3 = .ok (.istore_n 2, 1) := by decide +kernel
theorem dX2_joinByCongruence_4 : decode cX2_joinByCongruence 4 = .ok (.iload_n 2, 1) := by decide +kernel
theorem dX2_joinByCongruence_5 : decode cX2_joinByCongruence 5 = .ok (.bipush 10, 2) := by decide +kernel
theorem dX2_joinByCongruence_7 : decode cX2_joinByCongruence 7 = .ok (.if_icmp .ge 79, 3) := by decide +kernel
theorem dX2_joinByCongruence_10 : decode cX2_joinByCongruence 10 = .ok (.iload_n 1, 1) := by decide +kernel
theorem dX2_joinByCongruence_11 : decode cX2_joinByCongruence 11 = .ok (.ifCond .eq 75, 3) := by decide +kernel
theorem dX2_joinByCongruence_14 : decode cX2_joinByCongruence 14 = .ok (.iconst 0, 1) := by decide +kernel
theorem dX2_joinByCongruence_15 : decode cX2_joinByCongruence 15 = .ok (.istore_n 1, 1) := by decide +kernel
theorem dX2_joinByCongruence_16 : decode cX2_joinByCongruence 16 = .ok (.iconst 5, 1) := by decide +kernel
theorem dX2_joinByCongruence_17 : decode cX2_joinByCongruence 17 = .ok (.istore_n 3, 1) := by decide +kernel
theorem dX2_joinByCongruence_18 : decode cX2_joinByCongruence 18 = .ok (.iload_n 3, 1) := by decide +kernel
theorem dX2_joinByCongruence_19 : decode cX2_joinByCongruence 19 = .ok (.aload_n 0, 1) := by decide +kernel
theorem dX2_joinByCongruence_20 : decode cX2_joinByCongruence 20 = .ok (.getfield 22, 3) := by decide +kernel
theorem dX2_joinByCongruence_23 : decode cX2_joinByCongruence 23 = .ok (.invokevirtual 43, 3) := by decide +kernel
theorem dX2_joinByCongruence_26 : decode cX2_joinByCongruence 26 = .ok (.if_icmp .ge 54, 3) := by decide +kernel
theorem dX2_joinByCongruence_29 : decode cX2_joinByCongruence 29 = .ok (.iload_n 3, 1) := by decide +kernel
theorem dX2_joinByCongruence_30 : decode cX2_joinByCongruence 30 = .ok (.iconst 1, 1) := by decide +kernel
theorem dX2_joinByCongruence_31 : decode cX2_joinByCongruence 31 = .ok (.iadd, 1) := by decide +kernel
theorem dX2_joinByCongruence_32 : decode cX2_joinByCongruence 32 = .ok (.istore 4, 2) := by decide +kernel
theorem dX2_joinByCongruence_34 : decode cX2_joinByCongruence 34 = .ok (.iload 4, 2) := by decide +kernel
theorem dX2_joinByCongruence_36 : decode cX2_joinByCongruence 36 = .ok (.aload_n 0, 1) := by decide +kernel
theorem dX2_joinByCongruence_37 : decode cX2_joinByCongruence 37 = .ok (.getfield 22, 3) := by decide +kernel
theorem dX2_joinByCongruence_40 : decode cX2_joinByCongruence 40 = .ok (.invokevirtual 43, 3) := by decide +kernel
theorem dX2_joinByCongruence_43 : decode cX2_joinByCongruence 43 = .ok (.if_icmp .ge 31, 3) := by decide +kernel
theorem dX2_joinByCongruence_46 : decode cX2_joinByCongruence 46 = .ok (.aload_n 0, 1) := by decide +kernel
theorem dX2_joinByCongruence_47 : decode cX2_joinByCongruence 47 = .ok (.iload_n 3, 1) := by decide +kernel
theorem dX2_joinByCongruence_48 : decode cX2_joinByCongruence 48 = .ok (.iload 4, 2) := by decide +kernel
theorem dX2_joinByCongruence_50 : decode cX2_joinByCongruence 50 = .ok (.invokevirtual 82, 3) := by decide +kernel
theorem dX2_joinByCongruence_53 : decode cX2_joinByCongruence 53 = .ok (.ifCond .eq 15, 3) := by decide +kernel
theorem dX2_joinByCongruence_56 : decode cX2_joinByCongruence 56 = .ok (.aload_n 0, 1) := by decide +kernel
theorem dX2_joinByCongruence_57 : decode cX2_joinByCongruence 57 = .ok (.iload_n 3, 1) := by decide +kernel
theorem dX2_joinByCongruence_58 : decode cX2_joinByCongruence 58 = .ok (.iload 4, 2) := by decide +kernel
theorem dX2_joinByCongruence_60 : decode cX2_joinByCongruence 60 = .ok (.invokevirtual 78, 3) := by decide +kernel
theorem dX2_joinByCongruence_63 : decode cX2_joinByCongruence 63 = .ok (.ifCond .eq 5, 3) := by decide +kernel
theorem dX2_joinByCongruence_66 : decode cX2_joinByCongruence 66 = .ok (.iconst 1, 1) := by decide +kernel
theorem dX2_joinByCongruence_67 : decode cX2_joinByCongruence 67 = .ok (.istore_n 1, 1) := by decide +kernel
theorem dX2_joinByCongruence_68 : decode cX2_joinByCongruence 68 = .ok (.iinc 4 1, 3) := by decide +kernel
theorem dX2_joinByCongruence_71 : decode cX2_joinByCongruence 71 = .ok (.goto (-37), 3) := by decide +kernel
theorem dX2_joinByCongruence_74 : decode cX2_joinByCongruence 74 = .ok (.iinc 3 1, 3) := by decide +kernel
theorem dX2_joinByCongruence_77 : decode cX2_joinByCongruence 77 = .ok (.goto (-59), 3) := by decide +kernel
theorem dX2_joinByCongruence_80 : decode cX2_joinByCongruence 80 = .ok (.iinc 2 1, 3) := by decide +kernel
theorem dX2_joinByCongruence_83 : decode cX2_joinByCongruence 83 = .ok (.goto (-79), 3) := by decide +kernel
theorem dX2_joinByCongruence_86 : decode cX2_joinByCongruence 86 = .ok (.return_, 1) := by decide +kernel
set_option maxRecDepth 20000 in
theorem ggX2_haveSameArguments_X7_haveSameFunction : GoodIn wsX2_haveSameArguments wsX7_haveSameFunction := goodIn_r _ [6, 7, 8, 9, 10, 5, 11, 12, 37, 38, 39, 40, 41] (by decide +kernel) (by decide +kernel)
set_option maxRecDepth 20000 in
theorem gX2_haveSameArguments_X7_haveSameFunction : GoodIn wsX2_haveSameArguments (wsV RX2 85 RX7 yX7_haveSameFunction wsX7_haveSameFunction) := goodIn_app (goodIn_of _ (by decide +kernel)) ggX2_haveSameArguments_X7_haveSameFunction
set_option maxRecDepth 20000 in
theorem ggX2_haveSameArguments_X7_firstOf : GoodIn wsX2_haveSameArguments wsX7_firstOf := goodIn_r _ [16, 17, 18, 8, 9, 10, 5, 11, 12, 37, 38, 39, 40, 41] (by decide +kernel) (by decide +kernel)
set_option maxRecDepth 20000 in
theorem gX2_haveSameArguments_X7_firstOf : GoodIn wsX2_haveSameArguments (wsV RX2 88 RX7 yX7_firstOf wsX7_firstOf) := goodIn_app (goodIn_of _ (by decide +kernel)) ggX2_haveSameArguments_X7_firstOf
set_option maxRecDepth 20000 in
theorem ggX2_haveSameArguments_X2_smallestSame : GoodIn wsX2_haveSameArguments wsX2_smallestSame := goodIn_r _ [23, 24, 25, 31, 32, 33, 34, 35, 36] (by decide +kernel) (by decide +kernel)
set_option maxRecDepth 20000 in
theorem gX2_haveSameArguments_X2_smallestSame : GoodIn wsX2_haveSameArguments (wsV RX2 91 RX2 yX2_smallestSame wsX2_smallestSame) := goodIn_app (goodIn_of _ (by decide +kernel)) ggX2_haveSameArguments_X2_smallestSame
set_option maxRecDepth 20000 in
theorem ggX2_haveSameArguments_X7_secondOf : GoodIn wsX2_haveSameArguments wsX7_secondOf := goodIn_r _ [29, 30, 18, 8, 9, 10, 5, 11, 12, 37, 38, 39, 40, 41] (by decide +kernel) (by decide +kernel)
set_option maxRecDepth 20000 in
theorem gX2_haveSameArguments_X7_secondOf : GoodIn wsX2_haveSameArguments (wsV RX2 94 RX7 yX7_secondOf wsX7_secondOf) := goodIn_app (goodIn_of _ (by decide +kernel)) ggX2_haveSameArguments_X7_secondOf
theorem dX2_haveSameArguments_0 : decode cX2_haveSameArguments 0 = .ok (.aload_n 0, 1) := by decide +kernel
theorem dX2_haveSameArguments_1 : decode cX2_haveSameArguments 1 = .ok (.getfield 22, 3) := by decide +kernel
theorem dX2_haveSameArguments_4 : decode cX2_haveSameArguments 4 = .ok (.iload_n 1, 1) := by decide +kernel
theorem dX2_haveSameArguments_5 : decode cX2_haveSameArguments 5 = .ok (.iload_n 2, 1) := by decide +kernel
theorem dX2_haveSameArguments_6 : decode cX2_haveSameArguments 6 = .ok (.invokevirtual 85, 3) := by decide +kernel
theorem dX2_haveSameArguments_9 : decode cX2_haveSameArguments 9 = .ok (.ifCond .ne 5, 3) := by decide +kernel
theorem dX2_haveSameArguments_12 : decode cX2_haveSameArguments 12 = .ok (.iconst 0, 1) := by decide +kernel
theorem dX2_haveSameArguments_13 : decode cX2_haveSameArguments 13 = .ok (.ireturn, 1) := by decide +kernel
theorem dX2_haveSameArguments_14 : decode cX2_haveSameArguments 14 = .ok (.aload_n 0, 1) := by decide +kernel
theorem dX2_haveSameArguments_15 : decode cX2_haveSameArguments 15 = .ok (.aload_n 0, 1) := by decide +kernel
theorem dX2_haveSameArguments_16 : decode cX2_haveSameArguments 16 = .ok (.getfield 22, 3) := by decide +kernel
theorem dX2_haveSameArguments_19 : decode cX2_haveSameArguments 19 = .ok (.iload_n 1, 1) := by decide +kernel
theorem dX2_haveSameArguments_20 : decode cX2_haveSameArguments 20 = .ok (.invokevirtual 88, 3) := by decide +kernel
theorem dX2_haveSameArguments_23 : decode cX2_haveSameArguments 23 = .ok (.invokevirtual 91, 3) := by decide +kernel
theorem dX2_haveSameArguments_26 : decode cX2_haveSameArguments 26 = .ok (.aload_n 0, 1) := by decide +kernel
theorem dX2_haveSameArguments_27 : decode cX2_haveSameArguments 27 = .ok (.aload_n 0, 1) := by decide +kernel
theorem dX2_haveSameArguments_28 : decode cX2_haveSameArguments 28 = .ok (.getfield 22, 3) := by decide +kernel
theorem dX2_haveSameArguments_31 : decode cX2_haveSameArguments 31 = .ok (.iload_n 2, 1) := by decide +kernel
theorem dX2_haveSameArguments_32 : decode cX2_haveSameArguments 32 = .ok (.invokevirtual 88, 3) := by decide +kernel
theorem dX2_haveSameArguments_35 : decode cX2_haveSameArguments 35 = .ok (.invokevirtual 91, 3) := by decide +kernel
theorem dX2_haveSameArguments_38 : decode cX2_haveSameArguments 38 = .ok (.if_icmp .ne 34, 3) := by decide +kernel
theorem dX2_haveSameArguments_41 : decode cX2_haveSameArguments 41 = .ok (.aload_n 0, 1) := by decide +kernel
theorem dX2_haveSameArguments_42 : decode cX2_haveSameArguments 42 = .ok (.aload_n 0, 1) := by decide +kernel
theorem dX2_haveSameArguments_43 : decode cX2_haveSameArguments 43 = .ok (.getfield 22, 3) := by decide +kernel
theorem dX2_haveSameArguments_46 : decode cX2_haveSameArguments 46 = .ok (.iload_n 1, 1) := by decide +kernel
theorem dX2_haveSameArguments_47 : decode cX2_haveSameArguments 47 = .ok (.invokevirtual 94, 3) := by decide +kernel
theorem dX2_haveSameArguments_50 : decode cX2_haveSameArguments 50 = .ok (.invokevirtual 91, 3) := by decide +kernel
theorem dX2_haveSameArguments_53 : decode cX2_haveSameArguments 53 = .ok (.aload_n 0, 1) := by decide +kernel
theorem dX2_haveSameArguments_54 : decode cX2_haveSameArguments 54 = .ok (.aload_n 0, 1) := by decide +kernel
theorem dX2_haveSameArguments_55 : decode cX2_haveSameArguments 55 = .ok (.getfield 22, 3) := by decide +kernel
theorem dX2_haveSameArguments_58 : decode cX2_haveSameArguments 58 = .ok (.iload_n 2, 1) := by decide +kernel
theorem dX2_haveSameArguments_59 : decode cX2_haveSameArguments 59 = .ok (.invokevirtual 94, 3) := by decide +kernel
theorem dX2_haveSameArguments_62 : decode cX2_haveSameArguments 62 = .ok (.invokevirtual 91, 3) := by decide +kernel
theorem dX2_haveSameArguments_65 : decode cX2_haveSameArguments 65 = .ok (.if_icmp .ne 7, 3) := by decide +kernel
theorem dX2_haveSameArguments_68 : decode cX2_haveSameArguments 68 = .ok (.iconst 1, 1) := by decide +kernel
theorem dX2_haveSameArguments_69 : decode cX2_haveSameArguments 69 = .ok (.goto 4, 3) := by decide +kernel
theorem dX2_haveSameArguments_72 : decode cX2_haveSameArguments 72 = .ok (.iconst 0, 1) := by decide +kernel
theorem dX2_haveSameArguments_73 : decode cX2_haveSameArguments 73 = .ok (.ireturn, 1) := by decide +kernel
set_option maxRecDepth 20000 in
theorem ggX2_measure_X1_clear : GoodIn wsX2_measure wsX1_clear := goodIn_r _ [8, 9, 10, 11, 12, 13, 14, 61] (by decide +kernel) (by decide +kernel)
set_option maxRecDepth 20000 in
theorem gX2_measure_X1_clear : GoodIn wsX2_measure (wsV RX2 97 RX1 yX1_clear wsX1_clear) := goodIn_app (goodIn_of _ (by decide +kernel)) ggX2_measure_X1_clear
set_option maxRecDepth 20000 in
theorem ggX2_measure_X1_equate : GoodIn wsX2_measure wsX1_equate := goodIn_r _ [18, 19, 20, 21, 7, 22, 9, 10, 61] (by decide +kernel) (by decide +kernel)
set_option maxRecDepth 20000 in
theorem gX2_measure_X1_equate : GoodIn wsX2_measure (wsV RX2 100 RX1 yX1_equate wsX1_equate) := goodIn_app (goodIn_of _ (by decide +kernel)) ggX2_measure_X1_equate
set_option maxRecDepth 20000 in
theorem ggX2_measure_X3_size : GoodIn wsX2_measure wsX3_size := goodIn_r _ [27, 28, 62, 63, 64, 65, 66] (by decide +kernel) (by decide +kernel)
set_option maxRecDepth 20000 in
theorem gX2_measure_X3_size : GoodIn wsX2_measure (wsV RX2 65 RX3 yX3_size wsX3_size) := goodIn_app (goodIn_of _ (by decide +kernel)) ggX2_measure_X3_size
set_option maxRecDepth 20000 in
theorem ggX2_measure_X3_kindOf : GoodIn wsX2_measure wsX3_kindOf := goodIn_r _ [32, 33, 34, 35, 36, 37, 26, 38, 28, 62, 63, 64, 65, 66] (by decide +kernel) (by decide +kernel)
set_option maxRecDepth 20000 in
theorem gX2_measure_X3_kindOf : GoodIn wsX2_measure (wsV RX2 68 RX3 yX3_kindOf wsX3_kindOf) := goodIn_app (goodIn_of _ (by decide +kernel)) ggX2_measure_X3_kindOf
set_option maxRecDepth 20000 in
theorem ggX2_measure_X3_leftOf : GoodIn wsX2_measure wsX3_leftOf := goodIn_r _ [42, 43, 34, 35, 36, 37, 26, 38, 28, 62, 63, 64, 65, 66] (by decide +kernel) (by decide +kernel)
set_option maxRecDepth 20000 in
theorem gX2_measure_X3_leftOf : GoodIn wsX2_measure (wsV RX2 72 RX3 yX3_leftOf wsX3_leftOf) := goodIn_app (goodIn_of _ (by decide +kernel)) ggX2_measure_X3_leftOf
set_option maxRecDepth 20000 in
theorem ggX2_measure_X3_rightOf : GoodIn wsX2_measure wsX3_rightOf := goodIn_r _ [47, 48, 34, 35, 36, 37, 26, 38, 28, 62, 63, 64, 65, 66] (by decide +kernel) (by decide +kernel)
set_option maxRecDepth 20000 in
theorem gX2_measure_X3_rightOf : GoodIn wsX2_measure (wsV RX2 75 RX3 yX3_rightOf wsX3_rightOf) := goodIn_app (goodIn_of _ (by decide +kernel)) ggX2_measure_X3_rightOf
set_option maxRecDepth 20000 in
theorem ggX2_measure_X3_numberOf : GoodIn wsX2_measure wsX3_numberOf := goodIn_r _ [52, 53, 35, 36, 37, 26, 38, 28, 62, 63, 64, 65, 66] (by decide +kernel) (by decide +kernel)
set_option maxRecDepth 20000 in
theorem gX2_measure_X3_numberOf : GoodIn wsX2_measure (wsV RX2 103 RX3 yX3_numberOf wsX3_numberOf) := goodIn_app (goodIn_of _ (by decide +kernel)) ggX2_measure_X3_numberOf
set_option maxRecDepth 20000 in
theorem ggX2_measure_X1_bound : GoodIn wsX2_measure wsX1_bound := goodIn_r _ [22, 9, 10, 61] (by decide +kernel) (by decide +kernel)
set_option maxRecDepth 20000 in
theorem gX2_measure_X1_bound : GoodIn wsX2_measure (wsV RX2 106 RX1 yX1_bound wsX1_bound) := goodIn_app (goodIn_of _ (by decide +kernel)) ggX2_measure_X1_bound
theorem dX2_measure_0 : decode cX2_measure 0 = .ok (.aload_n 0, 1) := by decide +kernel
theorem dX2_measure_1 : decode cX2_measure 1 = .ok (.getfield 12, 3) := by decide +kernel
theorem dX2_measure_4 : decode cX2_measure 4 = .ok (.invokevirtual 97, 3) := by decide +kernel
theorem dX2_measure_7 : decode cX2_measure 7 = .ok (.iconst 0, 1) := by decide +kernel
theorem dX2_measure_8 : decode cX2_measure 8 = .ok (.istore_n 1, 1) := by decide +kernel
theorem dX2_measure_9 : decode cX2_measure 9 = .ok (.iload_n 1, 1) := by decide +kernel
theorem dX2_measure_10 : decode cX2_measure 10 = .ok (.bipush 10, 2) := by decide +kernel
theorem dX2_measure_12 : decode cX2_measure 12 = .ok (.if_icmp .ge 28, 3) := by decide +kernel
theorem dX2_measure_15 : decode cX2_measure 15 = .ok (.aload_n 0, 1) := by decide +kernel
theorem dX2_measure_16 : decode cX2_measure 16 = .ok (.getfield 12, 3) := by decide +kernel
theorem dX2_measure_19 : decode cX2_measure 19 = .ok (.iload_n 1, 1) := by decide +kernel
theorem dX2_measure_20 : decode cX2_measure 20 = .ok (.aload_n 0, 1) := by decide +kernel
theorem dX2_measure_21 : decode cX2_measure 21 = .ok (.getfield 18, 3) := by decide +kernel
theorem dX2_measure_24 : decode cX2_measure 24 = .ok (.iload_n 1, 1) := by decide +kernel
theorem dX2_measure_25 : decode cX2_measure 25 = .ok (.iaload, 1) := by decide +kernel
theorem dX2_measure_26 : decode cX2_measure 26 = .ok (.invokevirtual 100, 3) := by decide +kernel
theorem dX2_measure_29 : decode cX2_measure 29 = .ok (.ifCond .ne 5, 3) := by decide +kernel
theorem dX2_measure_32 : decode cX2_measure 32 = .ok (.iconst 0, 1) := by decide +kernel
theorem dX2_measure_33 : decode cX2_measure 33 = .ok (.ireturn, 1) := by decide +kernel
theorem dX2_measure_34 : decode cX2_measure 34 = .ok (.iinc 1 1, 3) := by decide +kernel
theorem dX2_measure_37 : decode cX2_measure 37 = .ok (.goto (-28), 3) := by decide +kernel
theorem dX2_measure_40 : decode cX2_measure 40 = .ok (.iconst 0, 1) := by decide +kernel
theorem dX2_measure_41 : decode cX2_measure 41 = .ok (.istore_n 1, 1) := by decide +kernel
theorem dX2_measure_42 : decode cX2_measure 42 = .ok (.iload_n 1, 1) := by decide +kernel
theorem dX2_measure_43 : decode cX2_measure 43 = .ok (.aload_n 0, 1) := by decide +kernel
theorem dX2_measure_44 : decode cX2_measure 44 = .ok (.getfield 26, 3) := by decide +kernel
theorem dX2_measure_47 : decode cX2_measure 47 = .ok (.invokevirtual 65, 3) := by decide +kernel
theorem dX2_measure_50 : decode cX2_measure 50 = .ok (.if_icmp .ge 58, 3) := by decide +kernel
theorem dX2_measure_53 : decode cX2_measure 53 = .ok (.aload_n 0, 1) := by decide +kernel
theorem dX2_measure_54 : decode cX2_measure 54 = .ok (.getfield 26, 3) := by decide +kernel
theorem dX2_measure_57 : decode cX2_measure 57 = .ok (.iload_n 1, 1) := by decide +kernel
theorem dX2_measure_58 : decode cX2_measure 58 = .ok (.invokevirtual 68, 3) := by decide +kernel
theorem dX2_measure_61 : decode cX2_measure 61 = .ok (.iconst 2, 1) := by decide +kernel
theorem dX2_measure_62 : decode cX2_measure 62 = .ok (.if_icmp .ne 40, 3) := by decide +kernel
theorem dX2_measure_65 : decode cX2_measure 65 = .ok (.aload_n 0, 1) := by decide +kernel
theorem dX2_measure_66 : decode cX2_measure 66 = .ok (.getfield 12, 3) := by decide +kernel
theorem dX2_measure_69 : decode cX2_measure 69 = .ok (.aload_n 0, 1) := by decide +kernel
theorem dX2_measure_70 : decode cX2_measure 70 = .ok (.getfield 26, 3) := by decide +kernel
theorem dX2_measure_73 : decode cX2_measure 73 = .ok (.iload_n 1, 1) := by decide +kernel
theorem dX2_measure_74 : decode cX2_measure 74 = .ok (.invokevirtual 72, 3) := by decide +kernel
theorem dX2_measure_77 : decode cX2_measure 77 = .ok (.aload_n 0, 1) := by decide +kernel
theorem dX2_measure_78 : decode cX2_measure 78 = .ok (.getfield 26, 3) := by decide +kernel
theorem dX2_measure_81 : decode cX2_measure 81 = .ok (.iload_n 1, 1) := by decide +kernel
theorem dX2_measure_82 : decode cX2_measure 82 = .ok (.invokevirtual 75, 3) := by decide +kernel
theorem dX2_measure_85 : decode cX2_measure 85 = .ok (.aload_n 0, 1) := by decide +kernel
theorem dX2_measure_86 : decode cX2_measure 86 = .ok (.getfield 26, 3) := by decide +kernel
theorem dX2_measure_89 : decode cX2_measure 89 = .ok (.iload_n 1, 1) := by decide +kernel
theorem dX2_measure_90 : decode cX2_measure 90 = .ok (.invokevirtual 103, 3) := by decide +kernel
theorem dX2_measure_93 : decode cX2_measure 93 = .ok (.i2l, 1) := by decide +kernel
theorem dX2_measure_94 : decode cX2_measure 94 = .ok (.invokevirtual 106, 3) := by decide +kernel
theorem dX2_measure_97 : decode cX2_measure 97 = .ok (.ifCond .ne 5, 3) := by decide +kernel
theorem dX2_measure_100 : decode cX2_measure 100 = .ok (.iconst 0, 1) := by decide +kernel
theorem dX2_measure_101 : decode cX2_measure 101 = .ok (.ireturn, 1) := by decide +kernel
theorem dX2_measure_102 : decode cX2_measure 102 = .ok (.iinc 1 1, 3) := by decide +kernel
theorem dX2_measure_105 : decode cX2_measure 105 = .ok (.goto (-63), 3) := by decide +kernel
theorem dX2_measure_108 : decode cX2_measure 108 = .ok (.iconst 1, 1) := by decide +kernel
theorem dX2_measure_109 : decode cX2_measure 109 = .ok (.ireturn, 1) := by decide +kernel
set_option maxRecDepth 20000 in
theorem ggX2_joinByDistances_X7_size : GoodIn wsX2_joinByDistances wsX7_size := goodIn_r _ [7, 8, 41, 42, 43, 44, 45] (by decide +kernel) (by decide +kernel)
set_option maxRecDepth 20000 in
theorem gX2_joinByDistances_X7_size : GoodIn wsX2_joinByDistances (wsV RX2 43 RX7 yX7_size wsX7_size) := goodIn_app (goodIn_of _ (by decide +kernel)) ggX2_joinByDistances_X7_size
set_option maxRecDepth 20000 in
theorem ggX2_joinByDistances_X1_areEqual : GoodIn wsX2_joinByDistances wsX1_areEqual := goodIn_r _ [13, 14, 15, 16, 12, 17, 18, 19, 46] (by decide +kernel) (by decide +kernel)
set_option maxRecDepth 20000 in
theorem gX2_joinByDistances_X1_areEqual : GoodIn wsX2_joinByDistances (wsV RX2 110 RX1 yX1_areEqual wsX1_areEqual) := goodIn_app (goodIn_of _ (by decide +kernel)) ggX2_joinByDistances_X1_areEqual
set_option maxRecDepth 20000 in
theorem ggX2_joinByDistances_X2_join : GoodIn wsX2_joinByDistances wsX2_join := goodIn_r _ [24, 25, 26, 27, 28, 29, 30, 31, 32, 23, 33, 34, 35, 36, 37, 38, 39, 40] (by decide +kernel) (by decide +kernel)
set_option maxRecDepth 20000 in
theorem gX2_joinByDistances_X2_join : GoodIn wsX2_joinByDistances (wsV RX2 78 RX2 yX2_join wsX2_join) := goodIn_app (goodIn_of _ (by decide +kernel)) ggX2_joinByDistances_X2_join
theorem dX2_joinByDistances_0 : decode cX2_joinByDistances 0 = .ok (.iconst 0, 1) := by decide +kernel
theorem dX2_joinByDistances_1 : decode cX2_joinByDistances 1 = .ok (.istore_n 1, 1) := by decide +kernel
theorem dX2_joinByDistances_2 : decode cX2_joinByDistances 2 = .ok (.iconst 0, 1) := by decide +kernel
theorem dX2_joinByDistances_3 : decode cX2_joinByDistances 3 = .ok (.istore_n 2, 1) := by decide +kernel
theorem dX2_joinByDistances_4 : decode cX2_joinByDistances 4 = .ok (.iload_n 2, 1) := by decide +kernel
theorem dX2_joinByDistances_5 : decode cX2_joinByDistances 5 = .ok (.aload_n 0, 1) := by decide +kernel
theorem dX2_joinByDistances_6 : decode cX2_joinByDistances 6 = .ok (.getfield 22, 3) := by decide +kernel
theorem dX2_joinByDistances_9 : decode cX2_joinByDistances 9 = .ok (.invokevirtual 43, 3) := by decide +kernel
theorem dX2_joinByDistances_12 : decode cX2_joinByDistances 12 = .ok (.if_icmp .ge 53, 3) := by decide +kernel
theorem dX2_joinByDistances_15 : decode cX2_joinByDistances 15 = .ok (.iload_n 2, 1) := by decide +kernel
theorem dX2_joinByDistances_16 : decode cX2_joinByDistances 16 = .ok (.iconst 1, 1) := by decide +kernel
theorem dX2_joinByDistances_17 : decode cX2_joinByDistances 17 = .ok (.iadd, 1) := by decide +kernel
theorem dX2_joinByDistances_18 : decode cX2_joinByDistances 18 = .ok (.istore_n 3, 1) := by decide +kernel
theorem dX2_joinByDistances_19 : decode cX2_joinByDistances 19 = .ok (.iload_n 3, 1) := by decide +kernel
theorem dX2_joinByDistances_20 : decode cX2_joinByDistances 20 = .ok (.aload_n 0, 1) := by decide +kernel
theorem dX2_joinByDistances_21 : decode cX2_joinByDistances 21 = .ok (.getfield 22, 3) := by decide +kernel
theorem dX2_joinByDistances_24 : decode cX2_joinByDistances 24 = .ok (.invokevirtual 43, 3) := by decide +kernel
theorem dX2_joinByDistances_27 : decode cX2_joinByDistances 27 = .ok (.if_icmp .ge 32, 3) := by decide +kernel
theorem dX2_joinByDistances_30 : decode cX2_joinByDistances 30 = .ok (.aload_n 0, 1) := by decide +kernel
theorem dX2_joinByDistances_31 : decode cX2_joinByDistances 31 = .ok (.getfield 12, 3) := by decide +kernel
theorem dX2_joinByDistances_34 : decode cX2_joinByDistances 34 = .ok (.iload_n 2, 1) := by decide +kernel
theorem dX2_joinByDistances_35 : decode cX2_joinByDistances 35 = .ok (.iload_n 3, 1) := by decide +kernel
theorem dX2_joinByDistances_36 : decode cX2_joinByDistances 36 = .ok (.invokevirtual 110, 3) := by decide +kernel
theorem dX2_joinByDistances_39 : decode cX2_joinByDistances 39 = .ok (.ifCond .eq 14, 3) := by decide +kernel
theorem dX2_joinByDistances_42 : decode cX2_joinByDistances 42 = .ok (.aload_n 0, 1) := by decide +kernel
theorem dX2_joinByDistances_43 : decode cX2_joinByDistances 43 = .ok (.iload_n 2, 1) := by decide +kernel
theorem dX2_joinByDistances_44 : decode cX2_joinByDistances 44 = .ok (.iload_n 3, 1) := by decide +kernel
theorem dX2_joinByDistances_45 : decode cX2_joinByDistances 45 = .ok (.invokevirtual 78, 3) := by decide +kernel
theorem dX2_joinByDistances_48 : decode cX2_joinByDistances 48 = .ok (.ifCond .eq 5, 3) := by decide +kernel
theorem dX2_joinByDistances_51 : decode cX2_joinByDistances 51 = .ok (.iconst 1, 1) := by decide +kernel
theorem dX2_joinByDistances_52 : decode cX2_joinByDistances 52 = .ok (.istore_n 1, 1) := by decide +kernel
theorem dX2_joinByDistances_53 : decode cX2_joinByDistances 53 = .ok (.iinc 3 1, 3) := by decide +kernel
theorem dX2_joinByDistances_56 : decode cX2_joinByDistances 56 = .ok (.goto (-37), 3) := by decide +kernel
theorem dX2_joinByDistances_59 : decode cX2_joinByDistances 59 = .ok (.iinc 2 1, 3) := by decide +kernel
theorem dX2_joinByDistances_62 : decode cX2_joinByDistances 62 = .ok (.goto (-58), 3) := by decide +kernel
theorem dX2_joinByDistances_65 : decode cX2_joinByDistances 65 = .ok (.iload_n 1, 1) := by decide +kernel
theorem dX2_joinByDistances_66 : decode cX2_joinByDistances 66 = .ok (.ireturn, 1) := by decide +kernel
set_option maxRecDepth 20000 in
theorem ggX2_violatesInequality_X3_size : GoodIn wsX2_violatesInequality wsX3_size := goodIn_r _ [6, 7, 41, 42, 43, 44, 45] (by decide +kernel) (by decide +kernel)
set_option maxRecDepth 20000 in
theorem gX2_violatesInequality_X3_size : GoodIn wsX2_violatesInequality (wsV RX2 65 RX3 yX3_size wsX3_size) := goodIn_app (goodIn_of _ (by decide +kernel)) ggX2_violatesInequality_X3_size
set_option maxRecDepth 20000 in
theorem ggX2_violatesInequality_X3_kindOf : GoodIn wsX2_violatesInequality wsX3_kindOf := goodIn_r _ [11, 12, 13, 14, 15, 16, 5, 17, 7, 41, 42, 43, 44, 45] (by decide +kernel) (by decide +kernel)
set_option maxRecDepth 20000 in
theorem gX2_violatesInequality_X3_kindOf : GoodIn wsX2_violatesInequality (wsV RX2 68 RX3 yX3_kindOf wsX3_kindOf) := goodIn_app (goodIn_of _ (by decide +kernel)) ggX2_violatesInequality_X3_kindOf
set_option maxRecDepth 20000 in
theorem ggX2_violatesInequality_X3_leftOf : GoodIn wsX2_violatesInequality wsX3_leftOf := goodIn_r _ [21, 22, 13, 14, 15, 16, 5, 17, 7, 41, 42, 43, 44, 45] (by decide +kernel) (by decide +kernel)
set_option maxRecDepth 20000 in
theorem gX2_violatesInequality_X3_leftOf : GoodIn wsX2_violatesInequality (wsV RX2 72 RX3 yX3_leftOf wsX3_leftOf) := goodIn_app (goodIn_of _ (by decide +kernel)) ggX2_violatesInequality_X3_leftOf
set_option maxRecDepth 20000 in
theorem ggX2_violatesInequality_X2_smallestSame : GoodIn wsX2_violatesInequality wsX2_smallestSame := goodIn_r _ [27, 28, 29, 35, 36, 37, 38, 39, 40] (by decide +kernel) (by decide +kernel)
set_option maxRecDepth 20000 in
theorem gX2_violatesInequality_X2_smallestSame : GoodIn wsX2_violatesInequality (wsV RX2 91 RX2 yX2_smallestSame wsX2_smallestSame) := goodIn_app (goodIn_of _ (by decide +kernel)) ggX2_violatesInequality_X2_smallestSame
set_option maxRecDepth 20000 in
theorem ggX2_violatesInequality_X3_rightOf : GoodIn wsX2_violatesInequality wsX3_rightOf := goodIn_r _ [33, 34, 13, 14, 15, 16, 5, 17, 7, 41, 42, 43, 44, 45] (by decide +kernel) (by decide +kernel)
set_option maxRecDepth 20000 in
theorem gX2_violatesInequality_X3_rightOf : GoodIn wsX2_violatesInequality (wsV RX2 75 RX3 yX3_rightOf wsX3_rightOf) := goodIn_app (goodIn_of _ (by decide +kernel)) ggX2_violatesInequality_X3_rightOf
theorem dX2_violatesInequality_0 : decode cX2_violatesInequality 0 = .ok (.iconst 0, 1) := by decide +kernel
theorem dX2_violatesInequality_1 : decode cX2_violatesInequality 1 = .ok (.istore_n 1, 1) := by decide +kernel
theorem dX2_violatesInequality_2 : decode cX2_violatesInequality 2 = .ok (.iload_n 1, 1) := by decide +kernel
theorem dX2_violatesInequality_3 : decode cX2_violatesInequality 3 = .ok (.aload_n 0, 1) := by decide +kernel
theorem dX2_violatesInequality_4 : decode cX2_violatesInequality 4 = .ok (.getfield 26, 3) := by decide +kernel
theorem dX2_violatesInequality_7 : decode cX2_violatesInequality 7 = .ok (.invokevirtual 65, 3) := by decide +kernel
theorem dX2_violatesInequality_10 : decode cX2_violatesInequality 10 = .ok (.if_icmp .ge 50, 3) := by decide +kernel
theorem dX2_violatesInequality_13 : decode cX2_violatesInequality 13 = .ok (.aload_n 0, 1) := by decide +kernel
theorem dX2_violatesInequality_14 : decode cX2_violatesInequality 14 = .ok (.getfield 26, 3) := by decide +kernel
theorem dX2_violatesInequality_17 : decode cX2_violatesInequality 17 = .ok (.iload_n 1, 1) := by decide +kernel
theorem dX2_violatesInequality_18 : decode cX2_violatesInequality 18 = .ok (.invokevirtual 68, 3) := by decide +kernel
theorem dX2_violatesInequality_21 : decode cX2_violatesInequality 21 = .ok (.iconst 1, 1) := by decide +kernel
theorem dX2_violatesInequality_22 : decode cX2_violatesInequality 22 = .ok (.if_icmp .ne 32, 3) := by decide +kernel
theorem dX2_violatesInequality_25 : decode cX2_violatesInequality 25 = .ok (.aload_n 0, 1) := by decide +kernel
theorem dX2_violatesInequality_26 : decode cX2_violatesInequality 26 = .ok (.aload_n 0, 1) := by decide +kernel
theorem dX2_violatesInequality_27 : decode cX2_violatesInequality 27 = .ok (.getfield 26, 3) := by decide +kernel
theorem dX2_violatesInequality_30 : decode cX2_violatesInequality 30 = .ok (.iload_n 1, 1) := by decide +kernel
theorem dX2_violatesInequality_31 : decode cX2_violatesInequality 31 = .ok (.invokevirtual 72, 3) := by decide +kernel
theorem dX2_violatesInequality_34 : decode cX2_violatesInequality 34 = .ok (.invokevirtual 91, 3) := by decide +kernel
theorem dX2_violatesInequality_37 : decode cX2_violatesInequality 37 = .ok (.aload_n 0, 1) := by decide +kernel
theorem dX2_violatesInequality_38 : decode cX2_violatesInequality 38 = .ok (.aload_n 0, 1) := by decide +kernel
theorem dX2_violatesInequality_39 : decode cX2_violatesInequality 39 = .ok (.getfield 26, 3) := by decide +kernel
theorem dX2_violatesInequality_42 : decode cX2_violatesInequality 42 = .ok (.iload_n 1, 1) := by decide +kernel
theorem dX2_violatesInequality_43 : decode cX2_violatesInequality 43 = .ok (.invokevirtual 75, 3) := by decide +kernel
theorem dX2_violatesInequality_46 : decode cX2_violatesInequality 46 = .ok (.invokevirtual 91, 3) := by decide +kernel
theorem dX2_violatesInequality_49 : decode cX2_violatesInequality 49 = .ok (.if_icmp .ne 5, 3) := by decide +kernel
theorem dX2_violatesInequality_52 : decode cX2_violatesInequality 52 = .ok (.iconst 1, 1) := by decide +kernel
theorem dX2_violatesInequality_53 : decode cX2_violatesInequality 53 = .ok (.ireturn, 1) := by decide +kernel
theorem dX2_violatesInequality_54 : decode cX2_violatesInequality 54 = .ok (.iinc 1 1, 3) := by decide +kernel
theorem dX2_violatesInequality_57 : decode cX2_violatesInequality 57 = .ok (.goto (-55), 3) := by decide +kernel
theorem dX2_violatesInequality_60 : decode cX2_violatesInequality 60 = .ok (.iconst 0, 1) := by decide +kernel
theorem dX2_violatesInequality_61 : decode cX2_violatesInequality 61 = .ok (.ireturn, 1) := by decide +kernel
set_option maxRecDepth 20000 in
theorem ggX2_join_X2_smallestSame : GoodIn wsX2_join wsX2_smallestSame := goodIn_r _ [10, 5, 11, 12, 13, 14, 15, 16, 17] (by decide +kernel) (by decide +kernel)
set_option maxRecDepth 20000 in
theorem gX2_join_X2_smallestSame : GoodIn wsX2_join (wsV RX2 91 RX2 yX2_smallestSame wsX2_smallestSame) := goodIn_app (goodIn_of _ (by decide +kernel)) ggX2_join_X2_smallestSame
theorem dX2_join_0 : decode cX2_join 0 = .ok (.aload_n 0, 1) := by decide +kernel
theorem dX2_join_1 : decode cX2_join 1 = .ok (.iload_n 1, 1) := by decide +kernel
theorem dX2_join_2 : decode cX2_join 2 = .ok (.invokevirtual 91, 3) := by decide +kernel
theorem dX2_join_5 : decode cX2_join 5 = .ok (.istore_n 3, 1) := by decide +kernel
theorem dX2_join_6 : decode cX2_join 6 = .ok (.aload_n 0, 1) := by decide +kernel
theorem dX2_join_7 : decode cX2_join 7 = .ok (.iload_n 2, 1) := by decide +kernel
theorem dX2_join_8 : decode cX2_join 8 = .ok (.invokevirtual 91, 3) := by decide +kernel
theorem dX2_join_11 : decode cX2_join 11 = .ok (.istore 4, 2) := by decide +kernel
theorem dX2_join_13 : decode cX2_join 13 = .ok (.iload_n 3, 1) := by decide +kernel
theorem dX2_join_14 : decode cX2_join 14 = .ok (.iload 4, 2) := by decide +kernel
theorem dX2_join_16 : decode cX2_join 16 = .ok (.if_icmp .ne 5, 3) := by decide +kernel
theorem dX2_join_19 : decode cX2_join 19 = .ok (.iconst 0, 1) := by decide +kernel
theorem dX2_join_20 : decode cX2_join 20 = .ok (.ireturn, 1) := by decide +kernel
theorem dX2_join_21 : decode cX2_join 21 = .ok (.iload_n 3, 1) := by decide +kernel
theorem dX2_join_22 : decode cX2_join 22 = .ok (.iload 4, 2) := by decide +kernel
theorem dX2_join_24 : decode cX2_join 24 = .ok (.invokestatic 113, 3) := by decide +kernel
theorem dX2_join_27 : decode cX2_join 27 = .ok (.istore 5, 2) := by decide +kernel
theorem dX2_join_29 : decode cX2_join 29 = .ok (.iconst 0, 1) := by decide +kernel
theorem dX2_join_30 : decode cX2_join 30 = .ok (.istore 6, 2) := by decide +kernel
theorem dX2_join_32 : decode cX2_join 32 = .ok (.iload 6, 2) := by decide +kernel
theorem dX2_join_34 : decode cX2_join 34 = .ok (.bipush 10, 2) := by decide +kernel
theorem dX2_join_36 : decode cX2_join 36 = .ok (.if_icmp .ge 41, 3) := by decide +kernel
theorem dX2_join_39 : decode cX2_join 39 = .ok (.aload_n 0, 1) := by decide +kernel
theorem dX2_join_40 : decode cX2_join 40 = .ok (.getfield 18, 3) := by decide +kernel
theorem dX2_join_43 : decode cX2_join 43 = .ok (.iload 6, 2) := by decide +kernel
theorem dX2_join_45 : decode cX2_join 45 = .ok (.iaload, 1) := by decide +kernel
theorem dX2_join_46 : decode cX2_join 46 = .ok (.iload_n 3, 1) := by decide +kernel
theorem dX2_join_47 : decode cX2_join 47 = .ok (.if_icmp .eq 15, 3) := by decide +kernel
theorem dX2_join_50 : decode cX2_join 50 = .ok (.aload_n 0, 1) := by decide +kernel
theorem dX2_join_51 : decode cX2_join 51 = .ok (.getfield 18, 3) := by decide +kernel
theorem dX2_join_54 : decode cX2_join 54 = .ok (.iload 6, 2) := by decide +kernel
theorem dX2_join_56 : decode cX2_join 56 = .ok (.iaload, 1) := by decide +kernel
theorem dX2_join_57 : decode cX2_join 57 = .ok (.iload 4, 2) := by decide +kernel
theorem dX2_join_59 : decode cX2_join 59 = .ok (.if_icmp .ne 12, 3) := by decide +kernel
theorem dX2_join_62 : decode cX2_join 62 = .ok (.aload_n 0, 1) := by decide +kernel
theorem dX2_join_63 : decode cX2_join 63 = .ok (.getfield 18, 3) := by decide +kernel
theorem dX2_join_66 : decode cX2_join 66 = .ok (.iload 6, 2) := by decide +kernel
theorem dX2_join_68 : decode cX2_join 68 = .ok (.iload 5, 2) := by decide +kernel
theorem dX2_join_70 : decode cX2_join 70 = .ok (.iastore, 1) := by decide +kernel
theorem dX2_join_71 : decode cX2_join 71 = .ok (.iinc 6 1, 3) := by decide +kernel
theorem dX2_join_74 : decode cX2_join 74 = .ok (.goto (-42), 3) := by decide +kernel
theorem dX2_join_77 : decode cX2_join 77 = .ok (.iconst 1, 1) := by decide +kernel
theorem dX2_join_78 : decode cX2_join 78 = .ok (.ireturn, 1) := by decide +kernel
theorem dX3_init_0 : decode cX3_init 0 = .ok (.aload_n 0, 1) := by decide +kernel
theorem dX3_init_1 : decode cX3_init 1 = .ok (.invokespecial 3, 3) := by decide +kernel
theorem dX3_init_4 : decode cX3_init 4 = .ok (.aload_n 0, 1) := by decide +kernel
theorem dX3_init_5 : decode cX3_init 5 = .ok (.bipush 10, 2) := by decide +kernel
theorem dX3_init_7 : decode cX3_init 7 = .ok (.newarray .int, 2) := by decide +kernel
theorem dX3_init_9 : decode cX3_init 9 = .ok (.putfield 9, 3) := by decide +kernel
theorem dX3_init_12 : decode cX3_init 12 = .ok (.aload_n 0, 1) := by decide +kernel
theorem dX3_init_13 : decode cX3_init 13 = .ok (.bipush 10, 2) := by decide +kernel
theorem dX3_init_15 : decode cX3_init 15 = .ok (.newarray .int, 2) := by decide +kernel
theorem dX3_init_17 : decode cX3_init 17 = .ok (.putfield 15, 3) := by decide +kernel
theorem dX3_init_20 : decode cX3_init 20 = .ok (.aload_n 0, 1) := by decide +kernel
theorem dX3_init_21 : decode cX3_init 21 = .ok (.bipush 10, 2) := by decide +kernel
theorem dX3_init_23 : decode cX3_init 23 = .ok (.newarray .int, 2) := by decide +kernel
theorem dX3_init_25 : decode cX3_init 25 = .ok (.putfield 18, 3) := by decide +kernel
theorem dX3_init_28 : decode cX3_init 28 = .ok (.aload_n 0, 1) := by decide +kernel
theorem dX3_init_29 : decode cX3_init 29 = .ok (.bipush 10, 2) := by decide +kernel
theorem dX3_init_31 : decode cX3_init 31 = .ok (.newarray .int, 2) := by decide +kernel
theorem dX3_init_33 : decode cX3_init 33 = .ok (.putfield 21, 3) := by decide +kernel
theorem dX3_init_36 : decode cX3_init 36 = .ok (.return_, 1) := by decide +kernel
theorem dX3_size_0 : decode cX3_size 0 = .ok (.aload_n 0, 1) := by decide +kernel
theorem dX3_size_1 : decode cX3_size 1 = .ok (.getfield 24, 3) := by decide +kernel
theorem dX3_size_4 : decode cX3_size 4 = .ok (.ireturn, 1) := by decide +kernel
theorem dX3_all_0 : decode cX3_all 0 = .ok (.iconst 1, 1) := by decide +kernel
theorem dX3_all_1 : decode cX3_all 1 = .ok (.aload_n 0, 1) := by decide +kernel
theorem dX3_all_2 : decode cX3_all 2 = .ok (.getfield 24, 3) := by decide +kernel
theorem dX3_all_5 : decode cX3_all 5 = .ok (.ishl, 1) := by decide +kernel
theorem dX3_all_6 : decode cX3_all 6 = .ok (.iconst 1, 1) := by decide +kernel
theorem dX3_all_7 : decode cX3_all 7 = .ok (.isub, 1) := by decide +kernel
theorem dX3_all_8 : decode cX3_all 8 = .ok (.ireturn, 1) := by decide +kernel
theorem dX3_has_0 : decode cX3_has 0 = .ok (.iload_n 1, 1) := by decide +kernel
theorem dX3_has_1 : decode cX3_has 1 = .ok (.ifCond .lt 21, 3) := by decide +kernel
theorem dX3_has_4 : decode cX3_has 4 = .ok (.iload_n 1, 1) := by decide +kernel
theorem dX3_has_5 : decode cX3_has 5 = .ok (.aload_n 0, 1) := by decide +kernel
theorem dX3_has_6 : decode cX3_has 6 = .ok (.getfield 24, 3) := by decide +kernel
theorem dX3_has_9 : decode cX3_has 9 = .ok (.if_icmp .ge 13, 3) := by decide +kernel
theorem dX3_has_12 : decode cX3_has 12 = .ok (.iload_n 1, 1) := by decide +kernel
theorem dX3_has_13 : decode cX3_has 13 = .ok (.bipush 10, 2) := by decide +kernel
theorem dX3_has_15 : decode cX3_has 15 = .ok (.if_icmp .ge 7, 3) := by decide +kernel
theorem dX3_has_18 : decode cX3_has 18 = .ok (.iconst 1, 1) := by decide +kernel
theorem dX3_has_19 : decode cX3_has 19 = .ok (.goto 4, 3) := by decide +kernel
theorem dX3_has_22 : decode cX3_has 22 = .ok (.iconst 0, 1) := by decide +kernel
theorem dX3_has_23 : decode cX3_has 23 = .ok (.ireturn, 1) := by decide +kernel
set_option maxRecDepth 20000 in
theorem ggX3_kindOf_X3_has : GoodIn wsX3_kindOf wsX3_has := goodIn_r _ [7, 8, 9, 10, 11, 12, 13] (by decide +kernel) (by decide +kernel)
set_option maxRecDepth 20000 in
theorem gX3_kindOf_X3_has : GoodIn wsX3_kindOf (wsV RX3 28 RX3 yX3_has wsX3_has) := goodIn_app (goodIn_of _ (by decide +kernel)) ggX3_kindOf_X3_has
theorem dX3_kindOf_0 : decode cX3_kindOf 0 = .ok (.aload_n 0, 1) := by decide +kernel
theorem dX3_kindOf_1 : decode cX3_kindOf 1 = .ok (.iload_n 1, 1) := by decide +kernel
theorem dX3_kindOf_2 : decode cX3_kindOf 2 = .ok (.invokevirtual 28, 3) := by decide +kernel
theorem dX3_kindOf_5 : decode cX3_kindOf 5 = .ok (.ifCond .eq 12, 3) := by decide +kernel
theorem dX3_kindOf_8 : decode cX3_kindOf 8 = .ok (.aload_n 0, 1) := by decide +kernel
theorem dX3_kindOf_9 : decode cX3_kindOf 9 = .ok (.getfield 9, 3) := by decide +kernel
theorem dX3_kindOf_12 : decode cX3_kindOf 12 = .ok (.iload_n 1, 1) := by decide +kernel
theorem dX3_kindOf_13 : decode cX3_kindOf 13 = .ok (.iaload, 1) := by decide +kernel
theorem dX3_kindOf_14 : decode cX3_kindOf 14 = .ok (.goto 5, 3) := by decide +kernel
theorem dX3_kindOf_17 : decode cX3_kindOf 17 = .ok (.ldc 32, 2) := by decide +kernel
theorem dX3_kindOf_19 : decode cX3_kindOf 19 = .ok (.ireturn, 1) := by decide +kernel
set_option maxRecDepth 20000 in
theorem ggX3_leftOf_X3_has : GoodIn wsX3_leftOf wsX3_has := goodIn_r _ [7, 8, 9, 10, 11, 12, 13] (by decide +kernel) (by decide +kernel)
set_option maxRecDepth 20000 in
theorem gX3_leftOf_X3_has : GoodIn wsX3_leftOf (wsV RX3 28 RX3 yX3_has wsX3_has) := goodIn_app (goodIn_of _ (by decide +kernel)) ggX3_leftOf_X3_has
theorem dX3_leftOf_0 : decode cX3_leftOf 0 = .ok (.aload_n 0, 1) := by decide +kernel
theorem dX3_leftOf_1 : decode cX3_leftOf 1 = .ok (.iload_n 1, 1) := by decide +kernel
theorem dX3_leftOf_2 : decode cX3_leftOf 2 = .ok (.invokevirtual 28, 3) := by decide +kernel
theorem dX3_leftOf_5 : decode cX3_leftOf 5 = .ok (.ifCond .eq 12, 3) := by decide +kernel
theorem dX3_leftOf_8 : decode cX3_leftOf 8 = .ok (.aload_n 0, 1) := by decide +kernel
theorem dX3_leftOf_9 : decode cX3_leftOf 9 = .ok (.getfield 15, 3) := by decide +kernel
theorem dX3_leftOf_12 : decode cX3_leftOf 12 = .ok (.iload_n 1, 1) := by decide +kernel
theorem dX3_leftOf_13 : decode cX3_leftOf 13 = .ok (.iaload, 1) := by decide +kernel
theorem dX3_leftOf_14 : decode cX3_leftOf 14 = .ok (.goto 5, 3) := by decide +kernel
theorem dX3_leftOf_17 : decode cX3_leftOf 17 = .ok (.ldc 32, 2) := by decide +kernel
theorem dX3_leftOf_19 : decode cX3_leftOf 19 = .ok (.ireturn, 1) := by decide +kernel
set_option maxRecDepth 20000 in
theorem ggX3_rightOf_X3_has : GoodIn wsX3_rightOf wsX3_has := goodIn_r _ [7, 8, 9, 10, 11, 12, 13] (by decide +kernel) (by decide +kernel)
set_option maxRecDepth 20000 in
theorem gX3_rightOf_X3_has : GoodIn wsX3_rightOf (wsV RX3 28 RX3 yX3_has wsX3_has) := goodIn_app (goodIn_of _ (by decide +kernel)) ggX3_rightOf_X3_has
theorem dX3_rightOf_0 : decode cX3_rightOf 0 = .ok (.aload_n 0, 1) := by decide +kernel
theorem dX3_rightOf_1 : decode cX3_rightOf 1 = .ok (.iload_n 1, 1) := by decide +kernel
theorem dX3_rightOf_2 : decode cX3_rightOf 2 = .ok (.invokevirtual 28, 3) := by decide +kernel
theorem dX3_rightOf_5 : decode cX3_rightOf 5 = .ok (.ifCond .eq 12, 3) := by decide +kernel
theorem dX3_rightOf_8 : decode cX3_rightOf 8 = .ok (.aload_n 0, 1) := by decide +kernel
theorem dX3_rightOf_9 : decode cX3_rightOf 9 = .ok (.getfield 18, 3) := by decide +kernel
theorem dX3_rightOf_12 : decode cX3_rightOf 12 = .ok (.iload_n 1, 1) := by decide +kernel
theorem dX3_rightOf_13 : decode cX3_rightOf 13 = .ok (.iaload, 1) := by decide +kernel
theorem dX3_rightOf_14 : decode cX3_rightOf 14 = .ok (.goto 5, 3) := by decide +kernel
theorem dX3_rightOf_17 : decode cX3_rightOf 17 = .ok (.ldc 32, 2) := by decide +kernel
theorem dX3_rightOf_19 : decode cX3_rightOf 19 = .ok (.ireturn, 1) := by decide +kernel
set_option maxRecDepth 20000 in
theorem ggX3_numberOf_X3_has : GoodIn wsX3_numberOf wsX3_has := goodIn_r _ [6, 7, 8, 9, 10, 11, 12] (by decide +kernel) (by decide +kernel)
set_option maxRecDepth 20000 in
theorem gX3_numberOf_X3_has : GoodIn wsX3_numberOf (wsV RX3 28 RX3 yX3_has wsX3_has) := goodIn_app (goodIn_of _ (by decide +kernel)) ggX3_numberOf_X3_has
theorem dX3_numberOf_0 : decode cX3_numberOf 0 = .ok (.aload_n 0, 1) := by decide +kernel
theorem dX3_numberOf_1 : decode cX3_numberOf 1 = .ok (.iload_n 1, 1) := by decide +kernel
theorem dX3_numberOf_2 : decode cX3_numberOf 2 = .ok (.invokevirtual 28, 3) := by decide +kernel
theorem dX3_numberOf_5 : decode cX3_numberOf 5 = .ok (.ifCond .eq 12, 3) := by decide +kernel
theorem dX3_numberOf_8 : decode cX3_numberOf 8 = .ok (.aload_n 0, 1) := by decide +kernel
theorem dX3_numberOf_9 : decode cX3_numberOf 9 = .ok (.getfield 21, 3) := by decide +kernel
theorem dX3_numberOf_12 : decode cX3_numberOf 12 = .ok (.iload_n 1, 1) := by decide +kernel
theorem dX3_numberOf_13 : decode cX3_numberOf 13 = .ok (.iaload, 1) := by decide +kernel
theorem dX3_numberOf_14 : decode cX3_numberOf 14 = .ok (.goto 4, 3) := by decide +kernel
theorem dX3_numberOf_17 : decode cX3_numberOf 17 = .ok (.iconst 0, 1) := by decide +kernel
theorem dX3_numberOf_18 : decode cX3_numberOf 18 = .ok (.ireturn, 1) := by decide +kernel
theorem dX3_howManyHave_0 : decode cX3_howManyHave 0 = .ok (.iconst 0, 1) := by decide +kernel
theorem dX3_howManyHave_1 : decode cX3_howManyHave 1 = .ok (.istore_n 2, 1) := by decide +kernel
theorem dX3_howManyHave_2 : decode cX3_howManyHave 2 = .ok (.iconst 0, 1) := by decide +kernel
theorem dX3_howManyHave_3 : decode cX3_howManyHave 3 = .ok (.istore_n 3, 1) := by decide +kernel
theorem dX3_howManyHave_4 : decode cX3_howManyHave 4 = .ok (.iload_n 3, 1) := by decide +kernel
theorem dX3_howManyHave_5 : decode cX3_howManyHave 5 = .ok (.aload_n 0, 1) := by decide +kernel
theorem dX3_howManyHave_6 : decode cX3_howManyHave 6 = .ok (.getfield 24, 3) := by decide +kernel
theorem dX3_howManyHave_9 : decode cX3_howManyHave 9 = .ok (.if_icmp .ge 38, 3) := by decide +kernel
theorem dX3_howManyHave_12 : decode cX3_howManyHave 12 = .ok (.iload_n 3, 1) := by decide +kernel
theorem dX3_howManyHave_13 : decode cX3_howManyHave 13 = .ok (.bipush 10, 2) := by decide +kernel
theorem dX3_howManyHave_15 : decode cX3_howManyHave 15 = .ok (.if_icmp .ge 32, 3) := by decide +kernel
theorem dX3_howManyHave_18 : decode cX3_howManyHave 18 = .ok (.aload_n 0, 1) := by decide +kernel
theorem dX3_howManyHave_19 : decode cX3_howManyHave 19 = .ok (.getfield 15, 3) := by decide +kernel
theorem dX3_howManyHave_22 : decode cX3_howManyHave 22 = .ok (.iload_n 3, 1) := by decide +kernel
theorem dX3_howManyHave_23 : decode cX3_howManyHave 23 = .ok (.iaload, 1) := by decide +kernel
theorem dX3_howManyHave_24 : decode cX3_howManyHave 24 = .ok (.iload_n 1, 1) := by decide +kernel
theorem dX3_howManyHave_25 : decode cX3_howManyHave 25 = .ok (.if_icmp .eq 13, 3) := by decide +kernel
theorem dX3_howManyHave_28 : decode cX3_howManyHave 28 = .ok (.aload_n 0, 1) := by decide +kernel
theorem dX3_howManyHave_29 : decode cX3_howManyHave 29 = .ok (.getfield 18, 3) := by decide +kernel
theorem dX3_howManyHave_32 : decode cX3_howManyHave 32 = .ok (.iload_n 3, 1) := by decide +kernel
theorem dX3_howManyHave_33 : decode cX3_howManyHave 33 = .ok (.iaload, 1) := by decide +kernel
theorem dX3_howManyHave_34 : decode cX3_howManyHave 34 = .ok (.iload_n 1, 1) := by decide +kernel
theorem dX3_howManyHave_35 : decode cX3_howManyHave 35 = .ok (.if_icmp .ne 6, 3) := by decide +kernel
theorem dX3_howManyHave_38 : decode cX3_howManyHave 38 = .ok (.iinc 2 1, 3) := by decide +kernel
theorem dX3_howManyHave_41 : decode cX3_howManyHave 41 = .ok (.iinc 3 1, 3) := by decide +kernel
theorem dX3_howManyHave_44 : decode cX3_howManyHave 44 = .ok (.goto (-40), 3) := by decide +kernel
theorem dX3_howManyHave_47 : decode cX3_howManyHave 47 = .ok (.iload_n 2, 1) := by decide +kernel
theorem dX3_howManyHave_48 : decode cX3_howManyHave 48 = .ok (.ireturn, 1) := by decide +kernel
theorem dX3_append_0 : decode cX3_append 0 = .ok (.aload_n 0, 1) := by decide +kernel
theorem dX3_append_1 : decode cX3_append 1 = .ok (.getfield 24, 3) := by decide +kernel
theorem dX3_append_4 : decode cX3_append 4 = .ok (.ifCond .lt 12, 3) := by decide +kernel
theorem dX3_append_7 : decode cX3_append 7 = .ok (.aload_n 0, 1) := by decide +kernel
theorem dX3_append_8 : decode cX3_append 8 = .ok (.getfield 24, 3) := by decide +kernel
theorem dX3_append_11 : decode cX3_append 11 = .ok (.bipush 10, 2) := by decide +kernel
theorem dX3_append_13 : decode cX3_append 13 = .ok (.if_icmp .lt 4, 3) := by decide +kernel
theorem dX3_append_16 : decode cX3_append 16 = .ok (.return_, 1) := by decide +kernel
theorem dX3_append_17 : decode cX3_append 17 = .ok (.aload_n 0, 1) := by decide +kernel
theorem dX3_append_18 : decode cX3_append 18 = .ok (.getfield 9, 3) := by decide +kernel
theorem dX3_append_21 : decode cX3_append 21 = .ok (.aload_n 0, 1) := by decide +kernel
theorem dX3_append_22 : decode cX3_append 22 = .ok (.getfield 24, 3) := by decide +kernel
theorem dX3_append_25 : decode cX3_append 25 = .ok (.iload_n 1, 1) := by decide +kernel
theorem dX3_append_26 : decode cX3_append 26 = .ok (.iastore, 1) := by decide +kernel
theorem dX3_append_27 : decode cX3_append 27 = .ok (.aload_n 0, 1) := by decide +kernel
theorem dX3_append_28 : decode cX3_append 28 = .ok (.getfield 15, 3) := by decide +kernel
theorem dX3_append_31 : decode cX3_append 31 = .ok (.aload_n 0, 1) := by decide +kernel
theorem dX3_append_32 : decode cX3_append 32 = .ok (.getfield 24, 3) := by decide +kernel
theorem dX3_append_35 : decode cX3_append 35 = .ok (.iload_n 2, 1) := by decide +kernel
theorem dX3_append_36 : decode cX3_append 36 = .ok (.iastore, 1) := by decide +kernel
theorem dX3_append_37 : decode cX3_append 37 = .ok (.aload_n 0, 1) := by decide +kernel
theorem dX3_append_38 : decode cX3_append 38 = .ok (.getfield 18, 3) := by decide +kernel
theorem dX3_append_41 : decode cX3_append 41 = .ok (.aload_n 0, 1) := by decide +kernel
theorem dX3_append_42 : decode cX3_append 42 = .ok (.getfield 24, 3) := by decide +kernel
theorem dX3_append_45 : decode cX3_append 45 = .ok (.iload_n 3, 1) := by decide +kernel
theorem dX3_append_46 : decode cX3_append 46 = .ok (.iastore, 1) := by decide +kernel
theorem dX3_append_47 : decode cX3_append 47 = .ok (.aload_n 0, 1) := by decide +kernel
theorem dX3_append_48 : decode cX3_append 48 = .ok (.getfield 21, 3) := by decide +kernel
theorem dX3_append_51 : decode cX3_append 51 = .ok (.aload_n 0, 1) := by decide +kernel
theorem dX3_append_52 : decode cX3_append 52 = .ok (.getfield 24, 3) := by decide +kernel
theorem dX3_append_55 : decode cX3_append 55 = .ok (.iload 4, 2) := by decide +kernel
theorem dX3_append_57 : decode cX3_append 57 = .ok (.iastore, 1) := by decide +kernel
theorem dX3_append_58 : decode cX3_append 58 = .ok (.aload_n 0, 1) := by decide +kernel
theorem dX3_append_59 : decode cX3_append 59 = .ok (.dup, 1) := by decide +kernel
theorem dX3_append_60 : decode cX3_append 60 = .ok (.getfield 24, 3) := by decide +kernel
theorem dX3_append_63 : decode cX3_append 63 = .ok (.iconst 1, 1) := by decide +kernel
theorem dX3_append_64 : decode cX3_append 64 = .ok (.iadd, 1) := by decide +kernel
theorem dX3_append_65 : decode cX3_append 65 = .ok (.putfield 24, 3) := by decide +kernel
theorem dX3_append_68 : decode cX3_append 68 = .ok (.return_, 1) := by decide +kernel
set_option maxRecDepth 20000 in
theorem ggX3_removeAt_X3_has : GoodIn wsX3_removeAt wsX3_has := goodIn_r _ [10, 1, 11, 12, 13, 14, 15] (by decide +kernel) (by decide +kernel)
set_option maxRecDepth 20000 in
theorem gX3_removeAt_X3_has : GoodIn wsX3_removeAt (wsV RX3 28 RX3 yX3_has wsX3_has) := goodIn_app (goodIn_of _ (by decide +kernel)) ggX3_removeAt_X3_has
theorem dX3_removeAt_0 : decode cX3_removeAt 0 = .ok (.aload_n 0, 1) := by decide +kernel
theorem dX3_removeAt_1 : decode cX3_removeAt 1 = .ok (.iload_n 1, 1) := by decide +kernel
theorem dX3_removeAt_2 : decode cX3_removeAt 2 = .ok (.invokevirtual 28, 3) := by decide +kernel
theorem dX3_removeAt_5 : decode cX3_removeAt 5 = .ok (.ifCond .ne 4, 3) := by decide +kernel
theorem dX3_removeAt_8 : decode cX3_removeAt 8 = .ok (.return_, 1) := by decide +kernel
theorem dX3_removeAt_9 : decode cX3_removeAt 9 = .ok (.iload_n 1, 1) := by decide +kernel
theorem dX3_removeAt_10 : decode cX3_removeAt 10 = .ok (.istore_n 2, 1) := by decide +kernel
theorem dX3_removeAt_11 : decode cX3_removeAt 11 = .ok (.iload_n 2, 1) := by decide +kernel
theorem dX3_removeAt_12 : decode cX3_removeAt 12 = .ok (.iconst 1, 1) := by decide +kernel
theorem dX3_removeAt_13 : decode cX3_removeAt 13 = .ok (.iadd, 1) := by decide +kernel
theorem dX3_removeAt_14 : decode cX3_removeAt 14 = .ok (.aload_n 0, 1) := by decide +kernel
theorem dX3_removeAt_15 : decode cX3_removeAt 15 = .ok (.getfield 24, 3) := by decide +kernel
theorem dX3_removeAt_18 : decode cX3_removeAt 18 = .ok (.if_icmp .ge 73, 3) := by decide +kernel
theorem dX3_removeAt_21 : decode cX3_removeAt 21 = .ok (.iload_n 2, 1) := by decide +kernel
theorem dX3_removeAt_22 : decode cX3_removeAt 22 = .ok (.iconst 1, 1) := by decide +kernel
theorem dX3_removeAt_23 : decode cX3_removeAt 23 = .ok (.iadd, 1) := by decide +kernel
theorem dX3_removeAt_24 : decode cX3_removeAt 24 = .ok (.bipush 10, 2) := by decide +kernel
theorem dX3_removeAt_26 : decode cX3_removeAt 26 = .ok (.if_icmp .ge 65, 3) := by decide +kernel
theorem dX3_removeAt_29 : decode cX3_removeAt 29 = .ok (.aload_n 0, 1) := by decide +kernel
theorem dX3_removeAt_30 : decode cX3_removeAt 30 = .ok (.getfield 9, 3) := by decide +kernel
theorem dX3_removeAt_33 : decode cX3_removeAt 33 = .ok (.iload_n 2, 1) := by decide +kernel
theorem dX3_removeAt_34 : decode cX3_removeAt 34 = .ok (.aload_n 0, 1) := by decide +kernel
theorem dX3_removeAt_35 : decode cX3_removeAt 35 = .ok (.getfield 9, 3) := by decide +kernel
theorem dX3_removeAt_38 : decode cX3_removeAt 38 = .ok (.iload_n 2, 1) := by decide +kernel
theorem dX3_removeAt_39 : decode cX3_removeAt 39 = .ok (.iconst 1, 1) := by decide +kernel
theorem dX3_removeAt_40 : decode cX3_removeAt 40 = .ok (.iadd, 1) := by decide +kernel
theorem dX3_removeAt_41 : decode cX3_removeAt 41 = .ok (.iaload, 1) := by decide +kernel
theorem dX3_removeAt_42 : decode cX3_removeAt 42 = .ok (.iastore, 1) := by decide +kernel
theorem dX3_removeAt_43 : decode cX3_removeAt 43 = .ok (.aload_n 0, 1) := by decide +kernel
theorem dX3_removeAt_44 : decode cX3_removeAt 44 = .ok (.getfield 15, 3) := by decide +kernel
theorem dX3_removeAt_47 : decode cX3_removeAt 47 = .ok (.iload_n 2, 1) := by decide +kernel
theorem dX3_removeAt_48 : decode cX3_removeAt 48 = .ok (.aload_n 0, 1) := by decide +kernel
theorem dX3_removeAt_49 : decode cX3_removeAt 49 = .ok (.getfield 15, 3) := by decide +kernel
theorem dX3_removeAt_52 : decode cX3_removeAt 52 = .ok (.iload_n 2, 1) := by decide +kernel
theorem dX3_removeAt_53 : decode cX3_removeAt 53 = .ok (.iconst 1, 1) := by decide +kernel
theorem dX3_removeAt_54 : decode cX3_removeAt 54 = .ok (.iadd, 1) := by decide +kernel
theorem dX3_removeAt_55 : decode cX3_removeAt 55 = .ok (.iaload, 1) := by decide +kernel
theorem dX3_removeAt_56 : decode cX3_removeAt 56 = .ok (.iastore, 1) := by decide +kernel
theorem dX3_removeAt_57 : decode cX3_removeAt 57 = .ok (.aload_n 0, 1) := by decide +kernel
theorem dX3_removeAt_58 : decode cX3_removeAt 58 = .ok (.getfield 18, 3) := by decide +kernel
theorem dX3_removeAt_61 : decode cX3_removeAt 61 = .ok (.iload_n 2, 1) := by decide +kernel
theorem dX3_removeAt_62 : decode cX3_removeAt 62 = .ok (.aload_n 0, 1) := by decide +kernel
theorem dX3_removeAt_63 : decode cX3_removeAt 63 = .ok (.getfield 18, 3) := by decide +kernel
theorem dX3_removeAt_66 : decode cX3_removeAt 66 = .ok (.iload_n 2, 1) := by decide +kernel
theorem dX3_removeAt_67 : decode cX3_removeAt 67 = .ok (.iconst 1, 1) := by decide +kernel
theorem dX3_removeAt_68 : decode cX3_removeAt 68 = .ok (.iadd, 1) := by decide +kernel
theorem dX3_removeAt_69 : decode cX3_removeAt 69 = .ok (.iaload, 1) := by decide +kernel
theorem dX3_removeAt_70 : decode cX3_removeAt 70 = .ok (.iastore, 1) := by decide +kernel
theorem dX3_removeAt_71 : decode cX3_removeAt 71 = .ok (.aload_n 0, 1) := by decide +kernel
theorem dX3_removeAt_72 : decode cX3_removeAt 72 = .ok (.getfield 21, 3) := by decide +kernel
theorem dX3_removeAt_75 : decode cX3_removeAt 75 = .ok (.iload_n 2, 1) := by decide +kernel
theorem dX3_removeAt_76 : decode cX3_removeAt 76 = .ok (.aload_n 0, 1) := by decide +kernel
theorem dX3_removeAt_77 : decode cX3_removeAt 77 = .ok (.getfield 21, 3) := by decide +kernel
theorem dX3_removeAt_80 : decode cX3_removeAt 80 = .ok (.iload_n 2, 1) := by decide +kernel
theorem dX3_removeAt_81 : decode cX3_removeAt 81 = .ok (.iconst 1, 1) := by decide +kernel
theorem dX3_removeAt_82 : decode cX3_removeAt 82 = .ok (.iadd, 1) := by decide +kernel
theorem dX3_removeAt_83 : decode cX3_removeAt 83 = .ok (.iaload, 1) := by decide +kernel
theorem dX3_removeAt_84 : decode cX3_removeAt 84 = .ok (.iastore, 1) := by decide +kernel
theorem dX3_removeAt_85 : decode cX3_removeAt 85 = .ok (.iinc 2 1, 3) := by decide +kernel
theorem dX3_removeAt_88 : decode cX3_removeAt 88 = .ok (.goto (-77), 3) := by decide +kernel
theorem dX3_removeAt_91 : decode cX3_removeAt 91 = .ok (.aload_n 0, 1) := by decide +kernel
theorem dX3_removeAt_92 : decode cX3_removeAt 92 = .ok (.dup, 1) := by decide +kernel
theorem dX3_removeAt_93 : decode cX3_removeAt 93 = .ok (.getfield 24, 3) := by decide +kernel
theorem dX3_removeAt_96 : decode cX3_removeAt 96 = .ok (.iconst 1, 1) := by decide +kernel
theorem dX3_removeAt_97 : decode cX3_removeAt 97 = .ok (.isub, 1) := by decide +kernel
theorem dX3_removeAt_98 : decode cX3_removeAt 98 = .ok (.putfield 24, 3) := by decide +kernel
theorem dX3_removeAt_101 : decode cX3_removeAt 101 = .ok (.return_, 1) := by decide +kernel
set_option maxRecDepth 20000 in
theorem ggX3_setTerms_X3_has : GoodIn wsX3_setTerms wsX3_has := goodIn_r _ [7, 8, 9, 10, 11, 12, 13] (by decide +kernel) (by decide +kernel)
set_option maxRecDepth 20000 in
theorem gX3_setTerms_X3_has : GoodIn wsX3_setTerms (wsV RX3 28 RX3 yX3_has wsX3_has) := goodIn_app (goodIn_of _ (by decide +kernel)) ggX3_setTerms_X3_has
theorem dX3_setTerms_0 : decode cX3_setTerms 0 = .ok (.aload_n 0, 1) := by decide +kernel
theorem dX3_setTerms_1 : decode cX3_setTerms 1 = .ok (.iload_n 1, 1) := by decide +kernel
theorem dX3_setTerms_2 : decode cX3_setTerms 2 = .ok (.invokevirtual 28, 3) := by decide +kernel
theorem dX3_setTerms_5 : decode cX3_setTerms 5 = .ok (.ifCond .eq 17, 3) := by decide +kernel
theorem dX3_setTerms_8 : decode cX3_setTerms 8 = .ok (.aload_n 0, 1) := by decide +kernel
theorem dX3_setTerms_9 : decode cX3_setTerms 9 = .ok (.getfield 15, 3) := by decide +kernel
theorem dX3_setTerms_12 : decode cX3_setTerms 12 = .ok (.iload_n 1, 1) := by decide +kernel
theorem dX3_setTerms_13 : decode cX3_setTerms 13 = .ok (.iload_n 2, 1) := by decide +kernel
theorem dX3_setTerms_14 : decode cX3_setTerms 14 = .ok (.iastore, 1) := by decide +kernel
theorem dX3_setTerms_15 : decode cX3_setTerms 15 = .ok (.aload_n 0, 1) := by decide +kernel
theorem dX3_setTerms_16 : decode cX3_setTerms 16 = .ok (.getfield 18, 3) := by decide +kernel
theorem dX3_setTerms_19 : decode cX3_setTerms 19 = .ok (.iload_n 1, 1) := by decide +kernel
theorem dX3_setTerms_20 : decode cX3_setTerms 20 = .ok (.iload_n 3, 1) := by decide +kernel
theorem dX3_setTerms_21 : decode cX3_setTerms 21 = .ok (.iastore, 1) := by decide +kernel
theorem dX3_setTerms_22 : decode cX3_setTerms 22 = .ok (.return_, 1) := by decide +kernel
set_option maxRecDepth 20000 in
theorem ggX3_setNumber_X3_has : GoodIn wsX3_setNumber wsX3_has := goodIn_r _ [6, 7, 8, 9, 10, 11, 12] (by decide +kernel) (by decide +kernel)
set_option maxRecDepth 20000 in
theorem gX3_setNumber_X3_has : GoodIn wsX3_setNumber (wsV RX3 28 RX3 yX3_has wsX3_has) := goodIn_app (goodIn_of _ (by decide +kernel)) ggX3_setNumber_X3_has
theorem dX3_setNumber_0 : decode cX3_setNumber 0 = .ok (.aload_n 0, 1) := by decide +kernel
theorem dX3_setNumber_1 : decode cX3_setNumber 1 = .ok (.iload_n 1, 1) := by decide +kernel
theorem dX3_setNumber_2 : decode cX3_setNumber 2 = .ok (.invokevirtual 28, 3) := by decide +kernel
theorem dX3_setNumber_5 : decode cX3_setNumber 5 = .ok (.ifCond .eq 10, 3) := by decide +kernel
theorem dX3_setNumber_8 : decode cX3_setNumber 8 = .ok (.aload_n 0, 1) := by decide +kernel
theorem dX3_setNumber_9 : decode cX3_setNumber 9 = .ok (.getfield 21, 3) := by decide +kernel
theorem dX3_setNumber_12 : decode cX3_setNumber 12 = .ok (.iload_n 1, 1) := by decide +kernel
theorem dX3_setNumber_13 : decode cX3_setNumber 13 = .ok (.iload_n 2, 1) := by decide +kernel
theorem dX3_setNumber_14 : decode cX3_setNumber 14 = .ok (.iastore, 1) := by decide +kernel
theorem dX3_setNumber_15 : decode cX3_setNumber 15 = .ok (.return_, 1) := by decide +kernel
theorem dX4_init_0 : decode cX4_init 0 = .ok (.aload_n 0, 1) := by decide +kernel
theorem dX4_init_1 : decode cX4_init 1 = .ok (.invokespecial 3, 3) := by decide +kernel
theorem dX4_init_4 : decode cX4_init 4 = .ok (.aload_n 0, 1) := by decide +kernel
theorem dX4_init_5 : decode cX4_init 5 = .ok (.bipush 10, 2) := by decide +kernel
theorem dX4_init_7 : decode cX4_init 7 = .ok (.newarray .int, 2) := by decide +kernel
theorem dX4_init_9 : decode cX4_init 9 = .ok (.putfield 9, 3) := by decide +kernel
theorem dX4_init_12 : decode cX4_init 12 = .ok (.aload_n 0, 1) := by decide +kernel
theorem dX4_init_13 : decode cX4_init 13 = .ok (.ldc 15, 2) := by decide +kernel
theorem dX4_init_15 : decode cX4_init 15 = .ok (.putfield 16, 3) := by decide +kernel
theorem dX4_init_18 : decode cX4_init 18 = .ok (.aload_n 0, 1) := by decide +kernel
theorem dX4_init_19 : decode cX4_init 19 = .ok (.ldc 15, 2) := by decide +kernel
theorem dX4_init_21 : decode cX4_init 21 = .ok (.putfield 20, 3) := by decide +kernel
theorem dX4_init_24 : decode cX4_init 24 = .ok (.aload_n 0, 1) := by decide +kernel
theorem dX4_init_25 : decode cX4_init 25 = .ok (.aload_n 1, 1) := by decide +kernel
theorem dX4_init_26 : decode cX4_init 26 = .ok (.putfield 23, 3) := by decide +kernel
theorem dX4_init_29 : decode cX4_init 29 = .ok (.return_, 1) := by decide +kernel
theorem dX4_first_0 : decode cX4_first 0 = .ok (.aload_n 0, 1) := by decide +kernel
theorem dX4_first_1 : decode cX4_first 1 = .ok (.getfield 16, 3) := by decide +kernel
theorem dX4_first_4 : decode cX4_first 4 = .ok (.ireturn, 1) := by decide +kernel
theorem dX4_second_0 : decode cX4_second 0 = .ok (.aload_n 0, 1) := by decide +kernel
theorem dX4_second_1 : decode cX4_second 1 = .ok (.getfield 20, 3) := by decide +kernel
theorem dX4_second_4 : decode cX4_second 4 = .ok (.ireturn, 1) := by decide +kernel
set_option maxRecDepth 20000 in
theorem ggX4_find_X4_pairsTiedWith : GoodIn wsX4_find wsX4_pairsTiedWith := goodIn_r _ [9, 10, 11, 12, 13, 14, 15, 16, 17, 18, 19, 20, 21, 22, 23, 24, 25, 26, 27, 28, 29, 30, 31, 32, 33, 34, 35, 36, 37, 38, 39, 40, 41, 42, 43, 44, 45, 46, 47, 48, 49, 50, 51, 52, 53, 54, 55, 56, 57, 58, 59, 60, 61, 62, 63, 64, 65, 66, 67, 68, 69, 70, 71, 72, 73, 74, 75, 76, 77, 78, 79, 80, 81, 82, 83, 84, 85, 86, 87, 88, 89, 90, 91, 92, 93, 94, 95, 96, 97, 98, 99, 100, 101, 102, 103, 104, 105, 106, 107, 108, 109, 110, 111, 112, 113, 114, 115, 116, 117, 118, 119, 120, 121, 122, 123, 124, 125, 126, 127, 128, 129, 130, 131, 132, 133, 134, 135, 136, 137, 138, 139, 140, 141, 142, 143, 144, 145, 146, 147, 148, 8, 149, 150, 151, 152, 153, 154, 155, 156, 157, 158, 159, 160, 161, 162, 163, 164, 165, 166, 167, 168, 169, 170, 171, 172, 173, 174, 175, 176, 177, 178, 179, 180, 181, 182, 183, 184, 185, 186, 187, 188, 189, 190, 191, 192, 193, 194, 195, 196, 197, 198, 199, 200, 201, 202, 203, 204, 205, 206, 207, 208, 209, 210, 211, 212, 213, 214, 215, 227, 228, 229, 230, 231, 232, 233, 234, 235, 236, 237, 238, 239, 240, 241, 242, 243, 244, 245, 246, 247, 248, 249, 250, 251, 252, 253, 254, 255, 256, 257, 258] (by decide +kernel) (by decide +kernel)
set_option maxRecDepth 20000 in
theorem gX4_find_X4_pairsTiedWith : GoodIn wsX4_find (wsV RX4 27 RX4 yX4_pairsTiedWith wsX4_pairsTiedWith) := goodIn_app (goodIn_of _ (by decide +kernel)) ggX4_find_X4_pairsTiedWith
set_option maxRecDepth 20000 in
theorem ggX4_find_X4_areTied : GoodIn wsX4_find wsX4_areTied := goodIn_r _ [219, 4, 227, 228, 229, 230] (by decide +kernel) (by decide +kernel)
set_option maxRecDepth 20000 in
theorem gX4_find_X4_areTied : GoodIn wsX4_find (wsV RX4 31 RX4 yX4_areTied wsX4_areTied) := goodIn_app (goodIn_of _ (by decide +kernel)) ggX4_find_X4_areTied
set_option maxRecDepth 20000 in
theorem ggX4_find_X4_oneIsEqual : GoodIn wsX4_find wsX4_oneIsEqual := goodIn_r _ [223, 10, 11, 12, 13, 14, 15, 16, 17, 18, 19, 20, 21, 22, 23, 24, 25, 26, 27, 28, 29, 30, 31, 32, 33, 34, 35, 36, 37, 38, 39, 40, 41, 42, 43, 44, 45, 46, 47, 48, 49, 50, 51, 52, 53, 54, 55, 56, 57, 58, 59, 60, 61, 62, 63, 64, 65, 66, 67, 68, 69, 70, 71, 72, 73, 74, 75, 76, 77, 78, 79, 80, 81, 82, 83, 84, 85, 86, 87, 88, 89, 90, 91, 92, 93, 94, 95, 96, 97, 98, 99, 100, 101, 102, 103, 104, 105, 106, 107, 108, 109, 110, 111, 112, 113, 114, 115, 116, 117, 118, 119, 120, 121, 122, 123, 124, 125, 126, 127, 128, 129, 130, 131, 132, 133, 134, 135, 136, 137, 138, 139, 140, 141, 142, 143, 144, 145, 146, 147, 148, 8, 149, 150, 151, 152, 153, 154, 155, 156, 157, 158, 159, 160, 161, 162, 163, 164, 165, 166, 167, 168, 169, 170, 171, 172, 173, 174, 175, 176, 177, 178, 179, 180, 181, 182, 183, 184, 185, 186, 187, 188, 189, 190, 191, 192, 193, 194, 195, 196, 197, 198, 199, 200, 201, 202, 203, 204, 205, 206, 227, 228, 229, 230, 231, 232, 233, 234, 235, 236, 237, 238, 239, 240, 241, 242, 243, 244, 245, 246, 247, 248, 249, 250, 251, 252, 253, 254, 255, 256, 257, 258] (by decide +kernel) (by decide +kernel)
set_option maxRecDepth 20000 in
theorem gX4_find_X4_oneIsEqual : GoodIn wsX4_find (wsV RX4 35 RX4 yX4_oneIsEqual wsX4_oneIsEqual) := goodIn_app (goodIn_of _ (by decide +kernel)) ggX4_find_X4_oneIsEqual
set_option maxRecDepth 20000 in
theorem ggX4_find_X4_asAnswerOf : GoodIn wsX4_find wsX4_asAnswerOf := goodIn_r _ [226, 1] (by decide +kernel) (by decide +kernel)
set_option maxRecDepth 20000 in
theorem gX4_find_X4_asAnswerOf : GoodIn wsX4_find (va_wsS RX4 39 yX4_asAnswerOf wsX4_asAnswerOf) := goodIn_app (goodIn_of _ (by decide +kernel)) ggX4_find_X4_asAnswerOf
theorem dX4_find_0 : decode cX4_find 0 = .ok (.aload_n 0, 1) := by decide +kernel
theorem dX4_find_1 : decode cX4_find 1 = .ok (.ldc 15, 2) := by decide +kernel
theorem dX4_find_3 : decode cX4_find 3 = .ok (.putfield 16, 3) := by decide +kernel
theorem dX4_find_6 : decode cX4_find 6 = .ok (.aload_n 0, 1) := by decide +kernel
theorem dX4_find_7 : decode cX4_find 7 = .ok (.ldc 15, 2) := by decide +kernel
theorem dX4_find_9 : decode cX4_find 9 = .ok (.putfield 20, 3) := by decide +kernel
theorem dX4_find_12 : decode cX4_find 12 = .ok (.iconst 0, 1) := by decide +kernel
theorem dX4_find_13 : decode cX4_find 13 = .ok (.istore_n 2, 1) := by decide +kernel
theorem dX4_find_14 : decode cX4_find 14 = .ok (.iload_n 2, 1) := by decide +kernel
theorem dX4_find_15 : decode cX4_find 15 = .ok (.bipush 10, 2) := by decide +kernel
theorem dX4_find_17 : decode cX4_find 17 = .ok (.if_icmp .ge 21, 3) := by decide +kernel
theorem dX4_find_20 : decode cX4_find 20 = .ok (.aload_n 0, 1) := by decide +kernel
theorem dX4_find_21 : decode cX4_find 21 = .ok (.getfield 9, 3) := by decide +kernel
theorem dX4_find_24 : decode cX4_find 24 = .ok (.iload_n 2, 1) := by decide +kernel
theorem dX4_find_25 : decode cX4_find 25 = .ok (.aload_n 0, 1) := by decide +kernel
theorem dX4_find_26 : decode cX4_find 26 = .ok (.iload_n 2, 1) := by decide +kernel
theorem dX4_find_27 : decode cX4_find 27 = .ok (.iload_n 1, 1) := by decide +kernel
theorem dX4_find_28 : decode cX4_find 28 = .ok (.invokevirtual 27, 3) := by decide +kernel
theorem dX4_find_31 : decode cX4_find 31 = .ok (.iastore, 1) := by decide +kernel
theorem dX4_find_32 : decode cX4_find 32 = .ok (.iinc 2 1, 3) := by decide +kernel
theorem dX4_find_35 : decode cX4_find 35 = .ok (.goto (-21), 3) := by decide +kernel
theorem dX4_find_38 : decode cX4_find 38 = .ok (.iconst 0, 1) := by decide +kernel
theorem dX4_find_39 : decode cX4_find 39 = .ok (.istore_n 2, 1) := by decide +kernel
theorem dX4_find_40 : decode cX4_find 40 = .ok (.iload_n 2, 1) := by decide +kernel
theorem dX4_find_41 : decode cX4_find 41 = .ok (.bipush 10, 2) := by decide +kernel
theorem dX4_find_43 : decode cX4_find 43 = .ok (.if_icmp .ge 78, 3) := by decide +kernel
theorem dX4_find_46 : decode cX4_find 46 = .ok (.aload_n 0, 1) := by decide +kernel
theorem dX4_find_47 : decode cX4_find 47 = .ok (.getfield 16, 3) := by decide +kernel
theorem dX4_find_50 : decode cX4_find 50 = .ok (.ldc 15, 2) := by decide +kernel
theorem dX4_find_52 : decode cX4_find 52 = .ok (.if_icmp .ne 69, 3) := by decide +kernel
theorem dX4_find_55 : decode cX4_find 55 = .ok (.iload_n 2, 1) := by decide +kernel
theorem dX4_find_56 : decode cX4_find 56 = .ok (.iconst 1, 1) := by decide +kernel
theorem dX4_find_57 : decode cX4_find 57 = .ok (.iadd, 1) := by decide +kernel
theorem dX4_find_58 : decode cX4_find 58 = .ok (.istore_n 3, 1) := by decide +kernel
theorem dX4_find_59 : decode cX4_find 59 = .ok (.iload_n 3, 1) := by decide +kernel
theorem dX4_find_60 : decode cX4_find 60 = .ok (.bipush 10, 2) := by decide +kernel
theorem dX4_find_62 : decode cX4_find 62 = .ok (.if_icmp .ge 53, 3) := by decide +kernel
theorem dX4_find_65 : decode cX4_find 65 = .ok (.aload_n 0, 1) := by decide +kernel
theorem dX4_find_66 : decode cX4_find 66 = .ok (.getfield 16, 3) := by decide +kernel
theorem dX4_find_69 : decode cX4_find 69 = .ok (.ldc 15, 2) := by decide +kernel
theorem dX4_find_71 : decode cX4_find 71 = .ok (.if_icmp .ne 44, 3) := by decide +kernel
theorem dX4_find_74 : decode cX4_find 74 = .ok (.aload_n 0, 1) := by decide +kernel
theorem dX4_find_75 : decode cX4_find 75 = .ok (.iload_n 2, 1) := by decide +kernel
theorem dX4_find_76 : decode cX4_find 76 = .ok (.iload_n 3, 1) := by decide +kernel
theorem dX4_find_77 : decode cX4_find 77 = .ok (.invokevirtual 31, 3) := by decide +kernel
theorem dX4_find_80 : decode cX4_find 80 = .ok (.ifCond .eq 29, 3) := by decide +kernel
theorem dX4_find_83 : decode cX4_find 83 = .ok (.aload_n 0, 1) := by decide +kernel
theorem dX4_find_84 : decode cX4_find 84 = .ok (.iload_n 2, 1) := by decide +kernel
theorem dX4_find_85 : decode cX4_find 85 = .ok (.iload_n 3, 1) := by decide +kernel
theorem dX4_find_86 : decode cX4_find 86 = .ok (.iload_n 1, 1) := by decide +kernel
theorem dX4_find_87 : decode cX4_find 87 = .ok (.invokevirtual 35, 3) := by decide +kernel
theorem dX4_find_90 : decode cX4_find 90 = .ok (.ifCond .eq 19, 3) := by decide +kernel
theorem dX4_find_93 : decode cX4_find 93 = .ok (.aload_n 0, 1) := by decide +kernel
theorem dX4_find_94 : decode cX4_find 94 = .ok (.iload_n 2, 1) := by decide +kernel
theorem dX4_find_95 : decode cX4_find 95 = .ok (.invokestatic 39, 3) := by decide +kernel
theorem dX4_find_98 : decode cX4_find 98 = .ok (.putfield 16, 3) := by decide +kernel
theorem dX4_find_101 : decode cX4_find 101 = .ok (.aload_n 0, 1) := by decide +kernel
theorem dX4_find_102 : decode cX4_find 102 = .ok (.iload_n 3, 1) := by decide +kernel
theorem dX4_find_103 : decode cX4_find 103 = .ok (.invokestatic 39, 3) := by decide +kernel
theorem dX4_find_106 : decode cX4_find 106 = .ok (.putfield 20, 3) := by decide +kernel
theorem dX4_find_109 : decode cX4_find 109 = .ok (.iinc 3 1, 3) := by decide +kernel
theorem dX4_find_112 : decode cX4_find 112 = .ok (.goto (-53), 3) := by decide +kernel
theorem dX4_find_115 : decode cX4_find 115 = .ok (.iinc 2 1, 3) := by decide +kernel
theorem dX4_find_118 : decode cX4_find 118 = .ok (.goto (-78), 3) := by decide +kernel
theorem dX4_find_121 : decode cX4_find 121 = .ok (.return_, 1) := by decide +kernel
set_option maxRecDepth 20000 in
theorem ggX4_pairsTiedWith_X6_load : GoodIn wsX4_pairsTiedWith wsX6_load := goodIn_r _ [6, 7, 8, 9, 10, 11, 12, 13, 14, 15, 16, 5, 17, 18, 19, 20, 21, 22, 23, 24, 25, 26, 27, 28, 29, 30, 31, 32, 33, 34, 35, 36, 37, 38, 39, 40, 41, 42, 43, 44, 45, 46, 47, 48, 49, 50, 51, 52, 53, 54, 55, 56, 57, 58, 59, 60, 61, 62, 63, 64, 65, 66, 67, 68, 69, 70, 71, 72, 73, 74, 75, 76, 77, 78, 79, 80, 81, 82, 83, 84, 85, 86, 87, 88, 89, 90, 91, 92, 93, 94, 95, 96, 97, 98, 99, 100, 101, 102, 103, 104, 105, 106, 107, 108, 109, 110, 111, 112, 113, 114, 115, 116, 117, 118, 119, 120, 121, 122, 123, 124, 125, 126, 127, 128, 129, 130, 131, 132, 133, 134, 135, 136, 212, 213, 214, 215, 216, 217, 218, 219, 220, 221, 222, 223, 224, 225, 226, 227, 228, 229, 230, 231, 232, 233, 234, 235, 236, 237, 238, 239] (by decide +kernel) (by decide +kernel)
set_option maxRecDepth 20000 in
theorem gX4_pairsTiedWith_X6_load : GoodIn wsX4_pairsTiedWith (wsV RX4 43 RX6 yX6_load wsX6_load) := goodIn_app (goodIn_of _ (by decide +kernel)) ggX4_pairsTiedWith_X6_load
set_option maxRecDepth 20000 in
theorem ggX4_pairsTiedWith_X4_demandDifferentNames : GoodIn wsX4_pairsTiedWith wsX4_demandDifferentNames := goodIn_r _ [141, 1, 142, 74, 75, 5, 76, 7, 13, 77, 78, 79, 80, 81, 82, 83, 84, 85, 86, 87, 88, 89, 90, 208, 209, 210, 211, 212, 213, 214, 215, 216, 217, 218, 219, 220, 221, 228, 229, 230, 231, 232, 233, 234] (by decide +kernel) (by decide +kernel)
set_option maxRecDepth 20000 in
theorem gX4_pairsTiedWith_X4_demandDifferentNames : GoodIn wsX4_pairsTiedWith (wsV RX4 49 RX4 yX4_demandDifferentNames wsX4_demandDifferentNames) := goodIn_app (goodIn_of _ (by decide +kernel)) ggX4_pairsTiedWith_X4_demandDifferentNames
set_option maxRecDepth 20000 in
theorem ggX4_pairsTiedWith_X6_hasSolution : GoodIn wsX4_pairsTiedWith wsX6_hasSolution := goodIn_r _ [146, 8, 9, 147, 148, 149, 5, 150, 10, 151, 13, 152, 153, 154, 155, 156, 19, 18, 157, 158, 159, 160, 161, 162, 163, 23, 164, 25, 26, 100, 70, 71, 72, 165, 166, 167, 168, 7, 169, 170, 171, 80, 172, 82, 83, 89, 90, 84, 120, 121, 173, 174, 175, 176, 177, 178, 179, 180, 181, 182, 183, 184, 185, 186, 187, 188, 189, 190, 191, 192, 193, 194, 195, 196, 197, 198, 212, 213, 214, 215, 216, 217, 218, 219, 220, 221, 222, 228, 229, 230, 231, 232, 233, 234] (by decide +kernel) (by decide +kernel)
set_option maxRecDepth 20000 in
theorem gX4_pairsTiedWith_X6_hasSolution : GoodIn wsX4_pairsTiedWith (wsV RX4 52 RX6 yX6_hasSolution wsX6_hasSolution) := goodIn_app (goodIn_of _ (by decide +kernel)) ggX4_pairsTiedWith_X6_hasSolution
set_option maxRecDepth 20000 in
theorem ggX4_pairsTiedWith_X6_foundEqual : GoodIn wsX4_pairsTiedWith wsX6_foundEqual := goodIn_r _ [202, 151, 203, 204, 205, 23, 206, 207, 162, 163, 164, 25, 26, 212, 213, 214, 215, 216, 217, 218, 219, 220, 221, 222] (by decide +kernel) (by decide +kernel)
set_option maxRecDepth 20000 in
theorem gX4_pairsTiedWith_X6_foundEqual : GoodIn wsX4_pairsTiedWith (wsV RX4 62 RX6 yX6_foundEqual wsX6_foundEqual) := goodIn_app (goodIn_of _ (by decide +kernel)) ggX4_pairsTiedWith_X6_foundEqual
theorem dX4_pairsTiedWith_0 : decode cX4_pairsTiedWith 0 = .ok (.aload_n 0, 1) := by decide +kernel
theorem dX4_pairsTiedWith_1 : decode cX4_pairsTiedWith 1 = .ok (.getfield 23, 3) := by decide +kernel
theorem dX4_pairsTiedWith_4 : decode cX4_pairsTiedWith 4 = .ok (.iload_n 2, 1) := by decide +kernel
theorem dX4_pairsTiedWith_5 : decode cX4_pairsTiedWith 5 = .ok (.invokevirtual 43, 3) := by decide +kernel
theorem dX4_pairsTiedWith_8 : decode cX4_pairsTiedWith 8 = .ok (.aload_n 0, 1) := by decide +kernel
theorem dX4_pairsTiedWith_9 : decode cX4_pairsTiedWith 9 = .ok (.iload_n 1, 1) := by decide +kernel
theorem dX4_pairsTiedWith_10 : decode cX4_pairsTiedWith 10 = .ok (.invokevirtual 49, 3) := by decide +kernel
theorem dX4_pairsTiedWith_13 : decode cX4_pairsTiedWith 13 = .ok (.aload_n 0, 1) := by decide +kernel
theorem dX4_pairsTiedWith_14 : decode cX4_pairsTiedWith 14 = .ok (.getfield 23, 3) := by decide +kernel
theorem dX4_pairsTiedWith_17 : decode cX4_pairsTiedWith 17 = .ok (.invokevirtual 52, 3) := by decide +kernel
theorem dX4_pairsTiedWith_20 : decode cX4_pairsTiedWith 20 = .ok (.ifCond .ne 5, 3) := by decide +kernel
theorem dX4_pairsTiedWith_23 : decode cX4_pairsTiedWith 23 = .ok (.iconst (-1), 1) := by decide +kernel
theorem dX4_pairsTiedWith_24 : decode cX4_pairsTiedWith 24 = .ok (.ireturn, 1) := by decide +kernel
theorem dX4_pairsTiedWith_25 : decode cX4_pairsTiedWith 25 = .ok (.iconst 0, 1) := by decide +kernel
theorem dX4_pairsTiedWith_26 : decode cX4_pairsTiedWith 26 = .ok (.istore_n 3, 1) := by decide +kernel
theorem dX4_pairsTiedWith_27 : decode cX4_pairsTiedWith 27 = .ok (.iconst 0, 1) := by decide +kernel
theorem dX4_pairsTiedWith_28 : decode cX4_pairsTiedWith 28 = .ok (.istore 4, 2) := by decide +kernel
theorem dX4_pairsTiedWith_30 : decode cX4_pairsTiedWith 30 = .ok (.iload 4, 2) := by decide +kernel
theorem dX4_pairsTiedWith_32 : decode cX4_pairsTiedWith 32 = .ok (.bipush 10, 2) := by decide +kernel
theorem dX4_pairsTiedWith_34 : decode cX4_pairsTiedWith 34 = .ok (.if_icmp .ge 38, 3) := by decide +kernel
theorem dX4_pairsTiedWith_37 : decode cX4_pairsTiedWith 37 = .ok (.aload_n 0, 1) := by decide +kernel
theorem dX4_pairsTiedWith_38 : decode cX4_pairsTiedWith 38 = .ok (.getfield 23, 3) := by decide +kernel
theorem dX4_pairsTiedWith_41 : decode cX4_pairsTiedWith 41 = .ok (.getstatic 56, 3) := by decide +kernel
theorem dX4_pairsTiedWith_44 : decode cX4_pairsTiedWith 44 = .ok (.iload 4, 2) := by decide +kernel
theorem dX4_pairsTiedWith_46 : decode cX4_pairsTiedWith 46 = .ok (.iaload, 1) := by decide +kernel
theorem dX4_pairsTiedWith_47 : decode cX4_pairsTiedWith 47 = .ok (.getstatic 59, 3) := by decide +kernel
theorem dX4_pairsTiedWith_50 : decode cX4_pairsTiedWith 50 = .ok (.iload 4, 2) := by decide +kernel
theorem dX4_pairsTiedWith_52 : decode cX4_pairsTiedWith 52 = .ok (.iaload, 1) := by decide +kernel
theorem dX4_pairsTiedWith_53 : decode cX4_pairsTiedWith 53 = .ok (.invokevirtual 62, 3) := by decide +kernel
theorem dX4_pairsTiedWith_56 : decode cX4_pairsTiedWith 56 = .ok (.ifCond .eq 10, 3) := by decide +kernel
theorem dX4_pairsTiedWith_59 : decode cX4_pairsTiedWith 59 = .ok (.iload_n 3, 1) := by decide +kernel
theorem dX4_pairsTiedWith_60 : decode cX4_pairsTiedWith 60 = .ok (.iconst 1, 1) := by decide +kernel
theorem dX4_pairsTiedWith_61 : decode cX4_pairsTiedWith 61 = .ok (.iload 4, 2) := by decide +kernel
theorem dX4_pairsTiedWith_63 : decode cX4_pairsTiedWith 63 = .ok (.ishl, 1) := by decide +kernel
theorem dX4_pairsTiedWith_64 : decode cX4_pairsTiedWith 64 = .ok (.ior, 1) := by decide +kernel
theorem dX4_pairsTiedWith_65 : decode cX4_pairsTiedWith 65 = .ok (.istore_n 3, 1) := by decide +kernel
theorem dX4_pairsTiedWith_66 : decode cX4_pairsTiedWith 66 = .ok (.iinc 4 1, 3) := by decide +kernel
theorem dX4_pairsTiedWith_69 : decode cX4_pairsTiedWith 69 = .ok (.goto (-39), 3) := by decide +kernel
theorem dX4_pairsTiedWith_72 : decode cX4_pairsTiedWith 72 = .ok (.iload_n 3, 1) := by decide +kernel
theorem dX4_pairsTiedWith_73 : decode cX4_pairsTiedWith 73 = .ok (.ireturn, 1) := by decide +kernel
theorem dX4_areTied_0 : decode cX4_areTied 0 = .ok (.aload_n 0, 1) := by decide +kernel
theorem dX4_areTied_1 : decode cX4_areTied 1 = .ok (.getfield 9, 3) := by decide +kernel
theorem dX4_areTied_4 : decode cX4_areTied 4 = .ok (.iload_n 1, 1) := by decide +kernel
theorem dX4_areTied_5 : decode cX4_areTied 5 = .ok (.iaload, 1) := by decide +kernel
theorem dX4_areTied_6 : decode cX4_areTied 6 = .ok (.iconst (-1), 1) := by decide +kernel
theorem dX4_areTied_7 : decode cX4_areTied 7 = .ok (.if_icmp .eq 13, 3) := by decide +kernel
theorem dX4_areTied_10 : decode cX4_areTied 10 = .ok (.aload_n 0, 1) := by decide +kernel
theorem dX4_areTied_11 : decode cX4_areTied 11 = .ok (.getfield 9, 3) := by decide +kernel
theorem dX4_areTied_14 : decode cX4_areTied 14 = .ok (.iload_n 2, 1) := by decide +kernel
theorem dX4_areTied_15 : decode cX4_areTied 15 = .ok (.iaload, 1) := by decide +kernel
theorem dX4_areTied_16 : decode cX4_areTied 16 = .ok (.iconst (-1), 1) := by decide +kernel
theorem dX4_areTied_17 : decode cX4_areTied 17 = .ok (.if_icmp .ne 5, 3) := by decide +kernel
theorem dX4_areTied_20 : decode cX4_areTied 20 = .ok (.iconst 0, 1) := by decide +kernel
theorem dX4_areTied_21 : decode cX4_areTied 21 = .ok (.ireturn, 1) := by decide +kernel
theorem dX4_areTied_22 : decode cX4_areTied 22 = .ok (.aload_n 0, 1) := by decide +kernel
theorem dX4_areTied_23 : decode cX4_areTied 23 = .ok (.getfield 9, 3) := by decide +kernel
theorem dX4_areTied_26 : decode cX4_areTied 26 = .ok (.iload_n 1, 1) := by decide +kernel
theorem dX4_areTied_27 : decode cX4_areTied 27 = .ok (.iaload, 1) := by decide +kernel
theorem dX4_areTied_28 : decode cX4_areTied 28 = .ok (.iload_n 2, 1) := by decide +kernel
theorem dX4_areTied_29 : decode cX4_areTied 29 = .ok (.ishr, 1) := by decide +kernel
theorem dX4_areTied_30 : decode cX4_areTied 30 = .ok (.iconst 1, 1) := by decide +kernel
theorem dX4_areTied_31 : decode cX4_areTied 31 = .ok (.iand, 1) := by decide +kernel
theorem dX4_areTied_32 : decode cX4_areTied 32 = .ok (.iconst 1, 1) := by decide +kernel
theorem dX4_areTied_33 : decode cX4_areTied 33 = .ok (.if_icmp .ne 21, 3) := by decide +kernel
theorem dX4_areTied_36 : decode cX4_areTied 36 = .ok (.aload_n 0, 1) := by decide +kernel
theorem dX4_areTied_37 : decode cX4_areTied 37 = .ok (.getfield 9, 3) := by decide +kernel
theorem dX4_areTied_40 : decode cX4_areTied 40 = .ok (.iload_n 2, 1) := by decide +kernel
theorem dX4_areTied_41 : decode cX4_areTied 41 = .ok (.iaload, 1) := by decide +kernel
theorem dX4_areTied_42 : decode cX4_areTied 42 = .ok (.iload_n 1, 1) := by decide +kernel
theorem dX4_areTied_43 : decode cX4_areTied 43 = .ok (.ishr, 1) := by decide +kernel
theorem dX4_areTied_44 : decode cX4_areTied 44 = .ok (.iconst 1, 1) := by decide +kernel
theorem dX4_areTied_45 : decode cX4_areTied 45 = .ok (.iand, 1) := by decide +kernel
theorem dX4_areTied_46 : decode cX4_areTied 46 = .ok (.iconst 1, 1) := by decide +kernel
theorem dX4_areTied_47 : decode cX4_areTied 47 = .ok (.if_icmp .ne 7, 3) := by decide +kernel
theorem dX4_areTied_50 : decode cX4_areTied 50 = .ok (.iconst 1, 1) := by decide +kernel
theorem dX4_areTied_51 : decode cX4_areTied 51 = .ok (.goto 4, 3) := by decide +kernel
theorem dX4_areTied_54 : decode cX4_areTied 54 = .ok (.iconst 0, 1) := by decide +kernel
theorem dX4_areTied_55 : decode cX4_areTied 55 = .ok (.ireturn, 1) := by decide +kernel
set_option maxRecDepth 20000 in
theorem ggX4_oneIsEqual_X6_load : GoodIn wsX4_oneIsEqual wsX6_load := goodIn_r _ [6, 7, 8, 9, 10, 11, 12, 13, 14, 15, 16, 5, 17, 18, 19, 20, 21, 22, 23, 24, 25, 26, 27, 28, 29, 30, 31, 32, 33, 34, 35, 36, 37, 38, 39, 40, 41, 42, 43, 44, 45, 46, 47, 48, 49, 50, 51, 52, 53, 54, 55, 56, 57, 58, 59, 60, 61, 62, 63, 64, 65, 66, 67, 68, 69, 70, 71, 72, 73, 74, 75, 76, 77, 78, 79, 80, 81, 82, 83, 84, 85, 86, 87, 88, 89, 90, 91, 92, 93, 94, 95, 96, 97, 98, 99, 100, 101, 102, 103, 104, 105, 106, 107, 108, 109, 110, 111, 112, 113, 114, 115, 116, 117, 118, 119, 120, 121, 122, 123, 124, 125, 126, 127, 128, 129, 130, 131, 132, 133, 134, 135, 136, 203, 204, 205, 206, 207, 208, 209, 210, 211, 212, 213, 214, 215, 216, 217, 218, 219, 220, 221, 222, 223, 224, 225, 226, 227, 228, 229, 230] (by decide +kernel) (by decide +kernel)
set_option maxRecDepth 20000 in
theorem gX4_oneIsEqual_X6_load : GoodIn wsX4_oneIsEqual (wsV RX4 43 RX6 yX6_load wsX6_load) := goodIn_app (goodIn_of _ (by decide +kernel)) ggX4_oneIsEqual_X6_load
set_option maxRecDepth 20000 in
theorem ggX4_oneIsEqual_X4_demandDifferentNames : GoodIn wsX4_oneIsEqual wsX4_demandDifferentNames := goodIn_r _ [141, 1, 142, 74, 75, 5, 76, 7, 13, 77, 78, 79, 80, 81, 82, 83, 84, 85, 86, 87, 88, 89, 90, 199, 200, 201, 202, 203, 204, 205, 206, 207, 208, 209, 210, 211, 212, 219, 220, 221, 222, 223, 224, 225] (by decide +kernel) (by decide +kernel)
set_option maxRecDepth 20000 in
theorem gX4_oneIsEqual_X4_demandDifferentNames : GoodIn wsX4_oneIsEqual (wsV RX4 49 RX4 yX4_demandDifferentNames wsX4_demandDifferentNames) := goodIn_app (goodIn_of _ (by decide +kernel)) ggX4_oneIsEqual_X4_demandDifferentNames
set_option maxRecDepth 20000 in
theorem ggX4_oneIsEqual_X6_hasSolution : GoodIn wsX4_oneIsEqual wsX6_hasSolution := goodIn_r _ [146, 8, 9, 147, 148, 149, 5, 150, 10, 151, 13, 152, 153, 154, 155, 156, 19, 18, 157, 158, 159, 160, 161, 162, 163, 23, 164, 25, 26, 100, 70, 71, 72, 165, 166, 167, 168, 7, 169, 170, 171, 80, 172, 82, 83, 89, 90, 84, 120, 121, 173, 174, 175, 176, 177, 178, 179, 180, 181, 182, 183, 184, 185, 186, 187, 188, 189, 190, 191, 192, 193, 194, 195, 196, 197, 198, 203, 204, 205, 206, 207, 208, 209, 210, 211, 212, 213, 219, 220, 221, 222, 223, 224, 225] (by decide +kernel) (by decide +kernel)
set_option maxRecDepth 20000 in
theorem gX4_oneIsEqual_X6_hasSolution : GoodIn wsX4_oneIsEqual (wsV RX4 52 RX6 yX6_hasSolution wsX6_hasSolution) := goodIn_app (goodIn_of _ (by decide +kernel)) ggX4_oneIsEqual_X6_hasSolution
theorem dX4_oneIsEqual_0 : decode cX4_oneIsEqual 0 = .ok (.aload_n 0, 1) := by decide +kernel
theorem dX4_oneIsEqual_1 : decode cX4_oneIsEqual 1 = .ok (.getfield 23, 3) := by decide +kernel
theorem dX4_oneIsEqual_4 : decode cX4_oneIsEqual 4 = .ok (.iload_n 3, 1) := by decide +kernel
theorem dX4_oneIsEqual_5 : decode cX4_oneIsEqual 5 = .ok (.invokevirtual 43, 3) := by decide +kernel
theorem dX4_oneIsEqual_8 : decode cX4_oneIsEqual 8 = .ok (.aload_n 0, 1) := by decide +kernel
theorem dX4_oneIsEqual_9 : decode cX4_oneIsEqual 9 = .ok (.iload_n 1, 1) := by decide +kernel
theorem dX4_oneIsEqual_10 : decode cX4_oneIsEqual 10 = .ok (.invokevirtual 49, 3) := by decide +kernel
theorem dX4_oneIsEqual_13 : decode cX4_oneIsEqual 13 = .ok (.aload_n 0, 1) := by decide +kernel
theorem dX4_oneIsEqual_14 : decode cX4_oneIsEqual 14 = .ok (.iload_n 2, 1) := by decide +kernel
theorem dX4_oneIsEqual_15 : decode cX4_oneIsEqual 15 = .ok (.invokevirtual 49, 3) := by decide +kernel
theorem dX4_oneIsEqual_18 : decode cX4_oneIsEqual 18 = .ok (.aload_n 0, 1) := by decide +kernel
theorem dX4_oneIsEqual_19 : decode cX4_oneIsEqual 19 = .ok (.getfield 23, 3) := by decide +kernel
theorem dX4_oneIsEqual_22 : decode cX4_oneIsEqual 22 = .ok (.invokevirtual 52, 3) := by decide +kernel
theorem dX4_oneIsEqual_25 : decode cX4_oneIsEqual 25 = .ok (.ifCond .ne 7, 3) := by decide +kernel
theorem dX4_oneIsEqual_28 : decode cX4_oneIsEqual 28 = .ok (.iconst 1, 1) := by decide +kernel
theorem dX4_oneIsEqual_29 : decode cX4_oneIsEqual 29 = .ok (.goto 4, 3) := by decide +kernel
theorem dX4_oneIsEqual_32 : decode cX4_oneIsEqual 32 = .ok (.iconst 0, 1) := by decide +kernel
theorem dX4_oneIsEqual_33 : decode cX4_oneIsEqual 33 = .ok (.ireturn, 1) := by decide +kernel
set_option maxRecDepth 20000 in
theorem ggX4_demandDifferentNames_X6_demandDifferent : GoodIn wsX4_demandDifferentNames wsX6_demandDifferent := goodIn_r _ [6, 7, 8, 9, 10, 11, 12, 13, 14, 15, 16, 17, 18, 19, 20, 21, 22, 27, 28, 29, 30, 31, 32, 33, 34, 35, 36, 37, 38, 39, 40, 41, 42, 43] (by decide +kernel) (by decide +kernel)
set_option maxRecDepth 20000 in
theorem gX4_demandDifferentNames_X6_demandDifferent : GoodIn wsX4_demandDifferentNames (wsV RX4 65 RX6 yX6_demandDifferent wsX6_demandDifferent) := goodIn_app (goodIn_of _ (by decide +kernel)) ggX4_demandDifferentNames_X6_demandDifferent
theorem dX4_demandDifferentNames_0 : decode cX4_demandDifferentNames 0 = .ok (.iload_n 1, 1) := by decide +kernel
theorem dX4_demandDifferentNames_1 : decode cX4_demandDifferentNames 1 = .ok (.ifCond .lt 26, 3) := by decide +kernel
theorem dX4_demandDifferentNames_4 : decode cX4_demandDifferentNames 4 = .ok (.iload_n 1, 1) := by decide +kernel
theorem dX4_demandDifferentNames_5 : decode cX4_demandDifferentNames 5 = .ok (.bipush 10, 2) := by decide +kernel
theorem dX4_demandDifferentNames_7 : decode cX4_demandDifferentNames 7 = .ok (.if_icmp .ge 20, 3) := by decide +kernel
theorem dX4_demandDifferentNames_10 : decode cX4_demandDifferentNames 10 = .ok (.aload_n 0, 1) := by decide +kernel
theorem dX4_demandDifferentNames_11 : decode cX4_demandDifferentNames 11 = .ok (.getfield 23, 3) := by decide +kernel
theorem dX4_demandDifferentNames_14 : decode cX4_demandDifferentNames 14 = .ok (.getstatic 56, 3) := by decide +kernel
theorem dX4_demandDifferentNames_17 : decode cX4_demandDifferentNames 17 = .ok (.iload_n 1, 1) := by decide +kernel
theorem dX4_demandDifferentNames_18 : decode cX4_demandDifferentNames 18 = .ok (.iaload, 1) := by decide +kernel
theorem dX4_demandDifferentNames_19 : decode cX4_demandDifferentNames 19 = .ok (.getstatic 59, 3) := by decide +kernel
theorem dX4_demandDifferentNames_22 : decode cX4_demandDifferentNames 22 = .ok (.iload_n 1, 1) := by decide +kernel
theorem dX4_demandDifferentNames_23 : decode cX4_demandDifferentNames 23 = .ok (.iaload, 1) := by decide +kernel
theorem dX4_demandDifferentNames_24 : decode cX4_demandDifferentNames 24 = .ok (.invokevirtual 65, 3) := by decide +kernel
theorem dX4_demandDifferentNames_27 : decode cX4_demandDifferentNames 27 = .ok (.return_, 1) := by decide +kernel
theorem dX4_asAnswerOf_0 : decode cX4_asAnswerOf 0 = .ok (.iload_n 0, 1) := by decide +kernel
theorem dX4_asAnswerOf_1 : decode cX4_asAnswerOf 1 = .ok (.ifCond .lt 26, 3) := by decide +kernel
theorem dX4_asAnswerOf_4 : decode cX4_asAnswerOf 4 = .ok (.iload_n 0, 1) := by decide +kernel
theorem dX4_asAnswerOf_5 : decode cX4_asAnswerOf 5 = .ok (.bipush 10, 2) := by decide +kernel
theorem dX4_asAnswerOf_7 : decode cX4_asAnswerOf 7 = .ok (.if_icmp .ge 20, 3) := by decide +kernel
theorem dX4_asAnswerOf_10 : decode cX4_asAnswerOf 10 = .ok (.bipush 10, 2) := by decide +kernel
theorem dX4_asAnswerOf_12 : decode cX4_asAnswerOf 12 = .ok (.getstatic 56, 3) := by decide +kernel
theorem dX4_asAnswerOf_15 : decode cX4_asAnswerOf 15 = .ok (.iload_n 0, 1) := by decide +kernel
theorem dX4_asAnswerOf_16 : decode cX4_asAnswerOf 16 = .ok (.iaload, 1) := by decide +kernel
theorem dX4_asAnswerOf_17 : decode cX4_asAnswerOf 17 = .ok (.imul, 1) := by decide +kernel
theorem dX4_asAnswerOf_18 : decode cX4_asAnswerOf 18 = .ok (.getstatic 59, 3) := by decide +kernel
theorem dX4_asAnswerOf_21 : decode cX4_asAnswerOf 21 = .ok (.iload_n 0, 1) := by decide +kernel
theorem dX4_asAnswerOf_22 : decode cX4_asAnswerOf 22 = .ok (.iaload, 1) := by decide +kernel
theorem dX4_asAnswerOf_23 : decode cX4_asAnswerOf 23 = .ok (.iadd, 1) := by decide +kernel
theorem dX4_asAnswerOf_24 : decode cX4_asAnswerOf 24 = .ok (.goto 5, 3) := by decide +kernel
theorem dX4_asAnswerOf_27 : decode cX4_asAnswerOf 27 = .ok (.ldc 15, 2) := by decide +kernel
theorem dX4_asAnswerOf_29 : decode cX4_asAnswerOf 29 = .ok (.ireturn, 1) := by decide +kernel
theorem dX5_init_0 : decode cX5_init 0 = .ok (.aload_n 0, 1) := by decide +kernel
theorem dX5_init_1 : decode cX5_init 1 = .ok (.invokespecial 3, 3) := by decide +kernel
theorem dX5_init_4 : decode cX5_init 4 = .ok (.aload_n 0, 1) := by decide +kernel
theorem dX5_init_5 : decode cX5_init 5 = .ok (.bipush 40, 2) := by decide +kernel
theorem dX5_init_7 : decode cX5_init 7 = .ok (.newarray .int, 2) := by decide +kernel
theorem dX5_init_9 : decode cX5_init 9 = .ok (.putfield 9, 3) := by decide +kernel
theorem dX5_init_12 : decode cX5_init 12 = .ok (.aload_n 0, 1) := by decide +kernel
theorem dX5_init_13 : decode cX5_init 13 = .ok (.bipush 40, 2) := by decide +kernel
theorem dX5_init_15 : decode cX5_init 15 = .ok (.newarray .int, 2) := by decide +kernel
theorem dX5_init_17 : decode cX5_init 17 = .ok (.putfield 15, 3) := by decide +kernel
theorem dX5_init_20 : decode cX5_init 20 = .ok (.aload_n 0, 1) := by decide +kernel
theorem dX5_init_21 : decode cX5_init 21 = .ok (.bipush 40, 2) := by decide +kernel
theorem dX5_init_23 : decode cX5_init 23 = .ok (.newarray .int, 2) := by decide +kernel
theorem dX5_init_25 : decode cX5_init 25 = .ok (.putfield 18, 3) := by decide +kernel
theorem dX5_init_28 : decode cX5_init 28 = .ok (.return_, 1) := by decide +kernel
set_option maxRecDepth 20000 in
theorem ggX5_firstFault_X5_goesOnWith : GoodIn wsX5_firstFault wsX5_goesOnWith := goodIn_r _ [11, 1, 2, 12, 13, 14, 10, 15, 16, 17, 18, 19, 20, 3, 21, 22, 23, 24, 25, 26, 27, 28, 29, 4, 5, 30, 31, 32, 33, 34, 35, 36, 6, 37, 38, 39, 40, 41, 42, 43, 44, 45, 46, 47] (by decide +kernel) (by decide +kernel)
set_option maxRecDepth 20000 in
theorem gX5_firstFault_X5_goesOnWith : GoodIn wsX5_firstFault (wsV RX5 41 RX5 yX5_goesOnWith wsX5_goesOnWith) := goodIn_app (goodIn_of _ (by decide +kernel)) ggX5_firstFault_X5_goesOnWith
theorem dX5_firstFault_0 : decode cX5_firstFault 0 = .ok (.aload_n 0, 1) := by decide +kernel
theorem dX5_firstFault_1 : decode cX5_firstFault 1 = .ok (.iconst 0, 1) := by decide +kernel
theorem dX5_firstFault_2 : decode cX5_firstFault 2 = .ok (.putfield 21, 3) := by decide +kernel
theorem dX5_firstFault_5 : decode cX5_firstFault 5 = .ok (.aload_n 0, 1) := by decide +kernel
theorem dX5_firstFault_6 : decode cX5_firstFault 6 = .ok (.iconst 0, 1) := by decide +kernel
theorem dX5_firstFault_7 : decode cX5_firstFault 7 = .ok (.putfield 25, 3) := by decide +kernel
theorem dX5_firstFault_10 : decode cX5_firstFault 10 = .ok (.aload_n 0, 1) := by decide +kernel
theorem dX5_firstFault_11 : decode cX5_firstFault 11 = .ok (.iconst 0, 1) := by decide +kernel
theorem dX5_firstFault_12 : decode cX5_firstFault 12 = .ok (.putfield 28, 3) := by decide +kernel
theorem dX5_firstFault_15 : decode cX5_firstFault 15 = .ok (.aload_n 0, 1) := by decide +kernel
theorem dX5_firstFault_16 : decode cX5_firstFault 16 = .ok (.iconst (-1), 1) := by decide +kernel
theorem dX5_firstFault_17 : decode cX5_firstFault 17 = .ok (.putfield 31, 3) := by decide +kernel
theorem dX5_firstFault_20 : decode cX5_firstFault 20 = .ok (.aload_n 0, 1) := by decide +kernel
theorem dX5_firstFault_21 : decode cX5_firstFault 21 = .ok (.iconst 0, 1) := by decide +kernel
theorem dX5_firstFault_22 : decode cX5_firstFault 22 = .ok (.putfield 34, 3) := by decide +kernel
theorem dX5_firstFault_25 : decode cX5_firstFault 25 = .ok (.aload_n 0, 1) := by decide +kernel
theorem dX5_firstFault_26 : decode cX5_firstFault 26 = .ok (.iconst 0, 1) := by decide +kernel
theorem dX5_firstFault_27 : decode cX5_firstFault 27 = .ok (.putfield 38, 3) := by decide +kernel
theorem dX5_firstFault_30 : decode cX5_firstFault 30 = .ok (.iconst 0, 1) := by decide +kernel
theorem dX5_firstFault_31 : decode cX5_firstFault 31 = .ok (.istore_n 3, 1) := by decide +kernel
theorem dX5_firstFault_32 : decode cX5_firstFault 32 = .ok (.iload_n 3, 1) := by decide +kernel
theorem dX5_firstFault_33 : decode cX5_firstFault 33 = .ok (.iload_n 2, 1) := by decide +kernel
theorem dX5_firstFault_34 : decode cX5_firstFault 34 = .ok (.if_icmp .ge 27, 3) := by decide +kernel
theorem dX5_firstFault_37 : decode cX5_firstFault 37 = .ok (.iload_n 3, 1) := by decide +kernel
theorem dX5_firstFault_38 : decode cX5_firstFault 38 = .ok (.aload_n 1, 1) := by decide +kernel
theorem dX5_firstFault_39 : decode cX5_firstFault 39 = .ok (.arraylength, 1) := by decide +kernel
theorem dX5_firstFault_40 : decode cX5_firstFault 40 = .ok (.if_icmp .ge 21, 3) := by decide +kernel
theorem dX5_firstFault_43 : decode cX5_firstFault 43 = .ok (.aload_n 0, 1) := by decide +kernel
theorem dX5_firstFault_44 : decode cX5_firstFault 44 = .ok (.aload_n 1, 1) := by decide +kernel
theorem dX5_firstFault_45 : decode cX5_firstFault 45 = .ok (.iload_n 3, 1) := by decide +kernel
theorem dX5_firstFault_46 : decode cX5_firstFault 46 = .ok (.iaload, 1) := by decide +kernel
theorem dX5_firstFault_47 : decode cX5_firstFault 47 = .ok (.invokevirtual 41, 3) := by decide +kernel
theorem dX5_firstFault_50 : decode cX5_firstFault 50 = .ok (.ifCond .ne 5, 3) := by decide +kernel
theorem dX5_firstFault_53 : decode cX5_firstFault 53 = .ok (.iload_n 3, 1) := by decide +kernel
theorem dX5_firstFault_54 : decode cX5_firstFault 54 = .ok (.ireturn, 1) := by decide +kernel
theorem dX5_firstFault_55 : decode cX5_firstFault 55 = .ok (.iinc 3 1, 3) := by decide +kernel
theorem dX5_firstFault_58 : decode cX5_firstFault 58 = .ok (.goto (-26), 3) := by decide +kernel
theorem dX5_firstFault_61 : decode cX5_firstFault 61 = .ok (.iload_n 2, 1) := by decide +kernel
theorem dX5_firstFault_62 : decode cX5_firstFault 62 = .ok (.ireturn, 1) := by decide +kernel
theorem dX5_isComplete_0 : decode cX5_isComplete 0 = .ok (.aload_n 0, 1) := by decide +kernel
theorem dX5_isComplete_1 : decode cX5_isComplete 1 = .ok (.getfield 21, 3) := by decide +kernel
theorem dX5_isComplete_4 : decode cX5_isComplete 4 = .ok (.iconst 2, 1) := by decide +kernel
theorem dX5_isComplete_5 : decode cX5_isComplete 5 = .ok (.if_icmp .ne 22, 3) := by decide +kernel
theorem dX5_isComplete_8 : decode cX5_isComplete 8 = .ok (.aload_n 0, 1) := by decide +kernel
theorem dX5_isComplete_9 : decode cX5_isComplete 9 = .ok (.getfield 25, 3) := by decide +kernel
theorem dX5_isComplete_12 : decode cX5_isComplete 12 = .ok (.ifCond .ne 15, 3) := by decide +kernel
theorem dX5_isComplete_15 : decode cX5_isComplete 15 = .ok (.aload_n 0, 1) := by decide +kernel
theorem dX5_isComplete_16 : decode cX5_isComplete 16 = .ok (.getfield 31, 3) := by decide +kernel
theorem dX5_isComplete_19 : decode cX5_isComplete 19 = .ok (.iconst (-1), 1) := by decide +kernel
theorem dX5_isComplete_20 : decode cX5_isComplete 20 = .ok (.if_icmp .eq 7, 3) := by decide +kernel
theorem dX5_isComplete_23 : decode cX5_isComplete 23 = .ok (.iconst 1, 1) := by decide +kernel
theorem dX5_isComplete_24 : decode cX5_isComplete 24 = .ok (.goto 4, 3) := by decide +kernel
theorem dX5_isComplete_27 : decode cX5_isComplete 27 = .ok (.iconst 0, 1) := by decide +kernel
theorem dX5_isComplete_28 : decode cX5_isComplete 28 = .ok (.istore_n 1, 1) := by decide +kernel
theorem dX5_isComplete_29 : decode cX5_isComplete 29 = .ok (.iload_n 1, 1) := by decide +kernel
theorem dX5_isComplete_30 : decode cX5_isComplete 30 = .ok (.ifCond .ne 11, 3) := by decide +kernel
theorem dX5_isComplete_33 : decode cX5_isComplete 33 = .ok (.aload_n 0, 1) := by decide +kernel
theorem dX5_isComplete_34 : decode cX5_isComplete 34 = .ok (.getfield 21, 3) := by decide +kernel
theorem dX5_isComplete_37 : decode cX5_isComplete 37 = .ok (.iconst 4, 1) := by decide +kernel
theorem dX5_isComplete_38 : decode cX5_isComplete 38 = .ok (.if_icmp .ne 7, 3) := by decide +kernel
theorem dX5_isComplete_41 : decode cX5_isComplete 41 = .ok (.iconst 1, 1) := by decide +kernel
theorem dX5_isComplete_42 : decode cX5_isComplete 42 = .ok (.goto 4, 3) := by decide +kernel
theorem dX5_isComplete_45 : decode cX5_isComplete 45 = .ok (.iconst 0, 1) := by decide +kernel
theorem dX5_isComplete_46 : decode cX5_isComplete 46 = .ok (.ireturn, 1) := by decide +kernel
theorem dX5_kind_0 : decode cX5_kind 0 = .ok (.aload_n 0, 1) := by decide +kernel
theorem dX5_kind_1 : decode cX5_kind 1 = .ok (.getfield 31, 3) := by decide +kernel
theorem dX5_kind_4 : decode cX5_kind 4 = .ok (.ireturn, 1) := by decide +kernel
theorem dX5_number_0 : decode cX5_number 0 = .ok (.aload_n 0, 1) := by decide +kernel
theorem dX5_number_1 : decode cX5_number 1 = .ok (.getfield 34, 3) := by decide +kernel
theorem dX5_number_4 : decode cX5_number 4 = .ok (.ifCond .eq 11, 3) := by decide +kernel
theorem dX5_number_7 : decode cX5_number 7 = .ok (.aload_n 0, 1) := by decide +kernel
theorem dX5_number_8 : decode cX5_number 8 = .ok (.getfield 38, 3) := by decide +kernel
theorem dX5_number_11 : decode cX5_number 11 = .ok (.ineg, 1) := by decide +kernel
theorem dX5_number_12 : decode cX5_number 12 = .ok (.goto 7, 3) := by decide +kernel
theorem dX5_number_15 : decode cX5_number 15 = .ok (.aload_n 0, 1) := by decide +kernel
theorem dX5_number_16 : decode cX5_number 16 = .ok (.getfield 38, 3) := by decide +kernel
theorem dX5_number_19 : decode cX5_number 19 = .ok (.ireturn, 1) := by decide +kernel
theorem dX5_left_0 : decode cX5_left 0 = .ok (.aload_n 0, 1) := by decide +kernel
theorem dX5_left_1 : decode cX5_left 1 = .ok (.getfield 45, 3) := by decide +kernel
theorem dX5_left_4 : decode cX5_left 4 = .ok (.iconst 2, 1) := by decide +kernel
theorem dX5_left_5 : decode cX5_left 5 = .ok (.if_icmp .ne 12, 3) := by decide +kernel
theorem dX5_left_8 : decode cX5_left 8 = .ok (.aload_n 0, 1) := by decide +kernel
theorem dX5_left_9 : decode cX5_left 9 = .ok (.getfield 18, 3) := by decide +kernel
theorem dX5_left_12 : decode cX5_left 12 = .ok (.iconst 0, 1) := by decide +kernel
theorem dX5_left_13 : decode cX5_left 13 = .ok (.iaload, 1) := by decide +kernel
theorem dX5_left_14 : decode cX5_left 14 = .ok (.goto 5, 3) := by decide +kernel
theorem dX5_left_17 : decode cX5_left 17 = .ok (.ldc 48, 2) := by decide +kernel
theorem dX5_left_19 : decode cX5_left 19 = .ok (.ireturn, 1) := by decide +kernel
theorem dX5_right_0 : decode cX5_right 0 = .ok (.aload_n 0, 1) := by decide +kernel
theorem dX5_right_1 : decode cX5_right 1 = .ok (.getfield 45, 3) := by decide +kernel
theorem dX5_right_4 : decode cX5_right 4 = .ok (.iconst 2, 1) := by decide +kernel
theorem dX5_right_5 : decode cX5_right 5 = .ok (.if_icmp .ne 12, 3) := by decide +kernel
theorem dX5_right_8 : decode cX5_right 8 = .ok (.aload_n 0, 1) := by decide +kernel
theorem dX5_right_9 : decode cX5_right 9 = .ok (.getfield 18, 3) := by decide +kernel
theorem dX5_right_12 : decode cX5_right 12 = .ok (.iconst 1, 1) := by decide +kernel
theorem dX5_right_13 : decode cX5_right 13 = .ok (.iaload, 1) := by decide +kernel
theorem dX5_right_14 : decode cX5_right 14 = .ok (.goto 5, 3) := by decide +kernel
theorem dX5_right_17 : decode cX5_right 17 = .ok (.ldc 48, 2) := by decide +kernel
theorem dX5_right_19 : decode cX5_right 19 = .ok (.ireturn, 1) := by decide +kernel
set_option maxRecDepth 20000 in
theorem ggX5_goesOnWith_X5_beginsTerm : GoodIn wsX5_goesOnWith wsX5_beginsTerm := goodIn_r _ [7, 1, 2, 8, 9, 10, 11, 6, 12, 13, 14, 34, 35, 36, 37, 38, 39, 40, 41, 42, 43] (by decide +kernel) (by decide +kernel)
set_option maxRecDepth 20000 in
theorem gX5_goesOnWith_X5_beginsTerm : GoodIn wsX5_goesOnWith (wsV RX5 49 RX5 yX5_beginsTerm wsX5_beginsTerm) := goodIn_app (goodIn_of _ (by decide +kernel)) ggX5_goesOnWith_X5_beginsTerm
set_option maxRecDepth 20000 in
theorem ggX5_goesOnWith_X5_goesOnInBrackets : GoodIn wsX5_goesOnWith wsX5_goesOnInBrackets := goodIn_r _ [18, 2, 8, 1, 9, 10, 11, 6, 12, 13, 14, 34, 35, 36, 37, 38, 39, 40, 41, 42, 43] (by decide +kernel) (by decide +kernel)
set_option maxRecDepth 20000 in
theorem gX5_goesOnWith_X5_goesOnInBrackets : GoodIn wsX5_goesOnWith (wsV RX5 52 RX5 yX5_goesOnInBrackets wsX5_goesOnInBrackets) := goodIn_app (goodIn_of _ (by decide +kernel)) ggX5_goesOnWith_X5_goesOnInBrackets
set_option maxRecDepth 20000 in
theorem ggX5_goesOnWith_X5_goesOnOutside : GoodIn wsX5_goesOnWith wsX5_goesOnOutside := goodIn_r _ [22, 23, 1, 24, 25, 26, 6, 27, 34, 35, 36, 37, 38, 39, 40, 41, 42, 43] (by decide +kernel) (by decide +kernel)
set_option maxRecDepth 20000 in
theorem gX5_goesOnWith_X5_goesOnOutside : GoodIn wsX5_goesOnWith (wsV RX5 55 RX5 yX5_goesOnOutside wsX5_goesOnOutside) := goodIn_app (goodIn_of _ (by decide +kernel)) ggX5_goesOnWith_X5_goesOnOutside
set_option maxRecDepth 20000 in
theorem ggX5_goesOnWith_X5_goesOnInNumber : GoodIn wsX5_goesOnWith wsX5_goesOnInNumber := goodIn_r _ [31, 1, 32, 33, 34, 35, 36, 37, 38, 39, 40, 41, 42, 43] (by decide +kernel) (by decide +kernel)
set_option maxRecDepth 20000 in
theorem gX5_goesOnWith_X5_goesOnInNumber : GoodIn wsX5_goesOnWith (wsV RX5 58 RX5 yX5_goesOnInNumber wsX5_goesOnInNumber) := goodIn_app (goodIn_of _ (by decide +kernel)) ggX5_goesOnWith_X5_goesOnInNumber
theorem dX5_goesOnWith_0 : decode cX5_goesOnWith 0 = .ok (.aload_n 0, 1) := by decide +kernel
theorem dX5_goesOnWith_1 : decode cX5_goesOnWith 1 = .ok (.getfield 21, 3) := by decide +kernel
theorem dX5_goesOnWith_4 : decode cX5_goesOnWith 4 = .ok (.tableswitch 72 0 2 #[28, 34, 51], 28) := by decide +kernel
theorem dX5_goesOnWith_32 : decode cX5_goesOnWith 32 = .ok (.aload_n 0, 1) := by decide +kernel
theorem dX5_goesOnWith_33 : decode cX5_goesOnWith 33 = .ok (.iload_n 1, 1) := by decide +kernel
theorem dX5_goesOnWith_34 : decode cX5_goesOnWith 34 = .ok (.invokevirtual 49, 3) := by decide +kernel
theorem dX5_goesOnWith_37 : decode cX5_goesOnWith 37 = .ok (.ireturn, 1) := by decide +kernel
theorem dX5_goesOnWith_38 : decode cX5_goesOnWith 38 = .ok (.aload_n 0, 1) := by decide +kernel
theorem dX5_goesOnWith_39 : decode cX5_goesOnWith 39 = .ok (.iconst 0, 1) := by decide +kernel
theorem dX5_goesOnWith_40 : decode cX5_goesOnWith 40 = .ok (.putfield 21, 3) := by decide +kernel
theorem dX5_goesOnWith_43 : decode cX5_goesOnWith 43 = .ok (.iload_n 1, 1) := by decide +kernel
theorem dX5_goesOnWith_44 : decode cX5_goesOnWith 44 = .ok (.bipush 40, 2) := by decide +kernel
theorem dX5_goesOnWith_46 : decode cX5_goesOnWith 46 = .ok (.if_icmp .ne 7, 3) := by decide +kernel
theorem dX5_goesOnWith_49 : decode cX5_goesOnWith 49 = .ok (.iconst 1, 1) := by decide +kernel
theorem dX5_goesOnWith_50 : decode cX5_goesOnWith 50 = .ok (.goto 4, 3) := by decide +kernel
theorem dX5_goesOnWith_53 : decode cX5_goesOnWith 53 = .ok (.iconst 0, 1) := by decide +kernel
theorem dX5_goesOnWith_54 : decode cX5_goesOnWith 54 = .ok (.ireturn, 1) := by decide +kernel
theorem dX5_goesOnWith_55 : decode cX5_goesOnWith 55 = .ok (.aload_n 0, 1) := by decide +kernel
theorem dX5_goesOnWith_56 : decode cX5_goesOnWith 56 = .ok (.getfield 25, 3) := by decide +kernel
theorem dX5_goesOnWith_59 : decode cX5_goesOnWith 59 = .ok (.ifCond .le 11, 3) := by decide +kernel
theorem dX5_goesOnWith_62 : decode cX5_goesOnWith 62 = .ok (.aload_n 0, 1) := by decide +kernel
theorem dX5_goesOnWith_63 : decode cX5_goesOnWith 63 = .ok (.iload_n 1, 1) := by decide +kernel
theorem dX5_goesOnWith_64 : decode cX5_goesOnWith 64 = .ok (.invokevirtual 52, 3) := by decide +kernel
theorem dX5_goesOnWith_67 : decode cX5_goesOnWith 67 = .ok (.goto 8, 3) := by decide +kernel
theorem dX5_goesOnWith_70 : decode cX5_goesOnWith 70 = .ok (.aload_n 0, 1) := by decide +kernel
theorem dX5_goesOnWith_71 : decode cX5_goesOnWith 71 = .ok (.iload_n 1, 1) := by decide +kernel
theorem dX5_goesOnWith_72 : decode cX5_goesOnWith 72 = .ok (.invokevirtual 55, 3) := by decide +kernel
theorem dX5_goesOnWith_75 : decode cX5_goesOnWith 75 = .ok (.ireturn, 1) := by decide +kernel
theorem dX5_goesOnWith_76 : decode cX5_goesOnWith 76 = .ok (.aload_n 0, 1) := by decide +kernel
theorem dX5_goesOnWith_77 : decode cX5_goesOnWith 77 = .ok (.iload_n 1, 1) := by decide +kernel
theorem dX5_goesOnWith_78 : decode cX5_goesOnWith 78 = .ok (.invokevirtual 58, 3) := by decide +kernel
theorem dX5_goesOnWith_81 : decode cX5_goesOnWith 81 = .ok (.ireturn, 1) := by decide +kernel
set_option maxRecDepth 20000 in
theorem ggX5_beginsTerm_X5_write : GoodIn wsX5_beginsTerm wsX5_write := goodIn_r _ [8, 9, 10, 11, 12, 13, 14, 15, 16, 17, 18, 19, 20] (by decide +kernel) (by decide +kernel)
set_option maxRecDepth 20000 in
theorem gX5_beginsTerm_X5_write : GoodIn wsX5_beginsTerm (wsV RX5 61 RX5 yX5_write wsX5_write) := goodIn_app (goodIn_of _ (by decide +kernel)) ggX5_beginsTerm_X5_write
theorem dX5_beginsTerm_0 : decode cX5_beginsTerm 0 = .ok (.iload_n 1, 1) := by decide +kernel
theorem dX5_beginsTerm_1 : decode cX5_beginsTerm 1 = .ok (.bipush 97, 2) := by decide +kernel
theorem dX5_beginsTerm_3 : decode cX5_beginsTerm 3 = .ok (.if_icmp .lt 23, 3) := by decide +kernel
theorem dX5_beginsTerm_6 : decode cX5_beginsTerm 6 = .ok (.iload_n 1, 1) := by decide +kernel
theorem dX5_beginsTerm_7 : decode cX5_beginsTerm 7 = .ok (.bipush 101, 2) := by decide +kernel
theorem dX5_beginsTerm_9 : decode cX5_beginsTerm 9 = .ok (.if_icmp .gt 17, 3) := by decide +kernel
theorem dX5_beginsTerm_12 : decode cX5_beginsTerm 12 = .ok (.aload_n 0, 1) := by decide +kernel
theorem dX5_beginsTerm_13 : decode cX5_beginsTerm 13 = .ok (.iconst 2, 1) := by decide +kernel
theorem dX5_beginsTerm_14 : decode cX5_beginsTerm 14 = .ok (.putfield 21, 3) := by decide +kernel
theorem dX5_beginsTerm_17 : decode cX5_beginsTerm 17 = .ok (.aload_n 0, 1) := by decide +kernel
theorem dX5_beginsTerm_18 : decode cX5_beginsTerm 18 = .ok (.iload_n 1, 1) := by decide +kernel
theorem dX5_beginsTerm_19 : decode cX5_beginsTerm 19 = .ok (.bipush 97, 2) := by decide +kernel
theorem dX5_beginsTerm_21 : decode cX5_beginsTerm 21 = .ok (.isub, 1) := by decide +kernel
theorem dX5_beginsTerm_22 : decode cX5_beginsTerm 22 = .ok (.invokevirtual 61, 3) := by decide +kernel
theorem dX5_beginsTerm_25 : decode cX5_beginsTerm 25 = .ok (.ireturn, 1) := by decide +kernel
theorem dX5_beginsTerm_26 : decode cX5_beginsTerm 26 = .ok (.iload_n 1, 1) := by decide +kernel
theorem dX5_beginsTerm_27 : decode cX5_beginsTerm 27 = .ok (.bipush 102, 2) := by decide +kernel
theorem dX5_beginsTerm_29 : decode cX5_beginsTerm 29 = .ok (.if_icmp .eq 9, 3) := by decide +kernel
theorem dX5_beginsTerm_32 : decode cX5_beginsTerm 32 = .ok (.iload_n 1, 1) := by decide +kernel
theorem dX5_beginsTerm_33 : decode cX5_beginsTerm 33 = .ok (.bipush 103, 2) := by decide +kernel
theorem dX5_beginsTerm_35 : decode cX5_beginsTerm 35 = .ok (.if_icmp .ne 19, 3) := by decide +kernel
theorem dX5_beginsTerm_38 : decode cX5_beginsTerm 38 = .ok (.aload_n 0, 1) := by decide +kernel
theorem dX5_beginsTerm_39 : decode cX5_beginsTerm 39 = .ok (.getfield 25, 3) := by decide +kernel
theorem dX5_beginsTerm_42 : decode cX5_beginsTerm 42 = .ok (.ifCond .lt 12, 3) := by decide +kernel
theorem dX5_beginsTerm_45 : decode cX5_beginsTerm 45 = .ok (.aload_n 0, 1) := by decide +kernel
theorem dX5_beginsTerm_46 : decode cX5_beginsTerm 46 = .ok (.getfield 25, 3) := by decide +kernel
theorem dX5_beginsTerm_49 : decode cX5_beginsTerm 49 = .ok (.bipush 40, 2) := by decide +kernel
theorem dX5_beginsTerm_51 : decode cX5_beginsTerm 51 = .ok (.if_icmp .lt 5, 3) := by decide +kernel
theorem dX5_beginsTerm_54 : decode cX5_beginsTerm 54 = .ok (.iconst 0, 1) := by decide +kernel
theorem dX5_beginsTerm_55 : decode cX5_beginsTerm 55 = .ok (.ireturn, 1) := by decide +kernel
theorem dX5_beginsTerm_56 : decode cX5_beginsTerm 56 = .ok (.aload_n 0, 1) := by decide +kernel
theorem dX5_beginsTerm_57 : decode cX5_beginsTerm 57 = .ok (.getfield 9, 3) := by decide +kernel
theorem dX5_beginsTerm_60 : decode cX5_beginsTerm 60 = .ok (.aload_n 0, 1) := by decide +kernel
theorem dX5_beginsTerm_61 : decode cX5_beginsTerm 61 = .ok (.getfield 25, 3) := by decide +kernel
theorem dX5_beginsTerm_64 : decode cX5_beginsTerm 64 = .ok (.iload_n 1, 1) := by decide +kernel
theorem dX5_beginsTerm_65 : decode cX5_beginsTerm 65 = .ok (.bipush 102, 2) := by decide +kernel
theorem dX5_beginsTerm_67 : decode cX5_beginsTerm 67 = .ok (.if_icmp .ne 7, 3) := by decide +kernel
theorem dX5_beginsTerm_70 : decode cX5_beginsTerm 70 = .ok (.iconst 0, 1) := by decide +kernel
theorem dX5_beginsTerm_71 : decode cX5_beginsTerm 71 = .ok (.goto 4, 3) := by decide +kernel
theorem dX5_beginsTerm_74 : decode cX5_beginsTerm 74 = .ok (.iconst 1, 1) := by decide +kernel
theorem dX5_beginsTerm_75 : decode cX5_beginsTerm 75 = .ok (.iastore, 1) := by decide +kernel
theorem dX5_beginsTerm_76 : decode cX5_beginsTerm 76 = .ok (.aload_n 0, 1) := by decide +kernel
theorem dX5_beginsTerm_77 : decode cX5_beginsTerm 77 = .ok (.dup, 1) := by decide +kernel
theorem dX5_beginsTerm_78 : decode cX5_beginsTerm 78 = .ok (.getfield 25, 3) := by decide +kernel
theorem dX5_beginsTerm_81 : decode cX5_beginsTerm 81 = .ok (.iconst 1, 1) := by decide +kernel
theorem dX5_beginsTerm_82 : decode cX5_beginsTerm 82 = .ok (.iadd, 1) := by decide +kernel
theorem dX5_beginsTerm_83 : decode cX5_beginsTerm 83 = .ok (.putfield 25, 3) := by decide +kernel
theorem dX5_beginsTerm_86 : decode cX5_beginsTerm 86 = .ok (.aload_n 0, 1) := by decide +kernel
theorem dX5_beginsTerm_87 : decode cX5_beginsTerm 87 = .ok (.iconst 1, 1) := by decide +kernel
theorem dX5_beginsTerm_88 : decode cX5_beginsTerm 88 = .ok (.putfield 21, 3) := by decide +kernel
theorem dX5_beginsTerm_91 : decode cX5_beginsTerm 91 = .ok (.iconst 1, 1) := by decide +kernel
theorem dX5_beginsTerm_92 : decode cX5_beginsTerm 92 = .ok (.ireturn, 1) := by decide +kernel
set_option maxRecDepth 20000 in
theorem ggX5_goesOnInBrackets_X5_write : GoodIn wsX5_goesOnInBrackets wsX5_write := goodIn_r _ [8, 9, 10, 11, 12, 13, 14, 15, 16, 17, 18, 19, 20] (by decide +kernel) (by decide +kernel)
set_option maxRecDepth 20000 in
theorem gX5_goesOnInBrackets_X5_write : GoodIn wsX5_goesOnInBrackets (wsV RX5 61 RX5 yX5_write wsX5_write) := goodIn_app (goodIn_of _ (by decide +kernel)) ggX5_goesOnInBrackets_X5_write
theorem dX5_goesOnInBrackets_0 : decode cX5_goesOnInBrackets 0 = .ok (.aload_n 0, 1) := by decide +kernel
theorem dX5_goesOnInBrackets_1 : decode cX5_goesOnInBrackets 1 = .ok (.getfield 25, 3) := by decide +kernel
theorem dX5_goesOnInBrackets_4 : decode cX5_goesOnInBrackets 4 = .ok (.iconst 1, 1) := by decide +kernel
theorem dX5_goesOnInBrackets_5 : decode cX5_goesOnInBrackets 5 = .ok (.if_icmp .lt 12, 3) := by decide +kernel
theorem dX5_goesOnInBrackets_8 : decode cX5_goesOnInBrackets 8 = .ok (.aload_n 0, 1) := by decide +kernel
theorem dX5_goesOnInBrackets_9 : decode cX5_goesOnInBrackets 9 = .ok (.getfield 25, 3) := by decide +kernel
theorem dX5_goesOnInBrackets_12 : decode cX5_goesOnInBrackets 12 = .ok (.bipush 40, 2) := by decide +kernel
theorem dX5_goesOnInBrackets_14 : decode cX5_goesOnInBrackets 14 = .ok (.if_icmp .le 5, 3) := by decide +kernel
theorem dX5_goesOnInBrackets_17 : decode cX5_goesOnInBrackets 17 = .ok (.iconst 0, 1) := by decide +kernel
theorem dX5_goesOnInBrackets_18 : decode cX5_goesOnInBrackets 18 = .ok (.ireturn, 1) := by decide +kernel
theorem dX5_goesOnInBrackets_19 : decode cX5_goesOnInBrackets 19 = .ok (.aload_n 0, 1) := by decide +kernel
theorem dX5_goesOnInBrackets_20 : decode cX5_goesOnInBrackets 20 = .ok (.getfield 9, 3) := by decide +kernel
theorem dX5_goesOnInBrackets_23 : decode cX5_goesOnInBrackets 23 = .ok (.aload_n 0, 1) := by decide +kernel
theorem dX5_goesOnInBrackets_24 : decode cX5_goesOnInBrackets 24 = .ok (.getfield 25, 3) := by decide +kernel
theorem dX5_goesOnInBrackets_27 : decode cX5_goesOnInBrackets 27 = .ok (.iconst 1, 1) := by decide +kernel
theorem dX5_goesOnInBrackets_28 : decode cX5_goesOnInBrackets 28 = .ok (.isub, 1) := by decide +kernel
theorem dX5_goesOnInBrackets_29 : decode cX5_goesOnInBrackets 29 = .ok (.iaload, 1) := by decide +kernel
theorem dX5_goesOnInBrackets_30 : decode cX5_goesOnInBrackets 30 = .ok (.istore_n 2, 1) := by decide +kernel
theorem dX5_goesOnInBrackets_31 : decode cX5_goesOnInBrackets 31 = .ok (.iload_n 2, 1) := by decide +kernel
theorem dX5_goesOnInBrackets_32 : decode cX5_goesOnInBrackets 32 = .ok (.iconst 1, 1) := by decide +kernel
theorem dX5_goesOnInBrackets_33 : decode cX5_goesOnInBrackets 33 = .ok (.if_icmp .ne 32, 3) := by decide +kernel
theorem dX5_goesOnInBrackets_36 : decode cX5_goesOnInBrackets 36 = .ok (.aload_n 0, 1) := by decide +kernel
theorem dX5_goesOnInBrackets_37 : decode cX5_goesOnInBrackets 37 = .ok (.getfield 9, 3) := by decide +kernel
theorem dX5_goesOnInBrackets_40 : decode cX5_goesOnInBrackets 40 = .ok (.aload_n 0, 1) := by decide +kernel
theorem dX5_goesOnInBrackets_41 : decode cX5_goesOnInBrackets 41 = .ok (.getfield 25, 3) := by decide +kernel
theorem dX5_goesOnInBrackets_44 : decode cX5_goesOnInBrackets 44 = .ok (.iconst 1, 1) := by decide +kernel
theorem dX5_goesOnInBrackets_45 : decode cX5_goesOnInBrackets 45 = .ok (.isub, 1) := by decide +kernel
theorem dX5_goesOnInBrackets_46 : decode cX5_goesOnInBrackets 46 = .ok (.iconst 2, 1) := by decide +kernel
theorem dX5_goesOnInBrackets_47 : decode cX5_goesOnInBrackets 47 = .ok (.iastore, 1) := by decide +kernel
theorem dX5_goesOnInBrackets_48 : decode cX5_goesOnInBrackets 48 = .ok (.aload_n 0, 1) := by decide +kernel
theorem dX5_goesOnInBrackets_49 : decode cX5_goesOnInBrackets 49 = .ok (.iconst 0, 1) := by decide +kernel
theorem dX5_goesOnInBrackets_50 : decode cX5_goesOnInBrackets 50 = .ok (.putfield 21, 3) := by decide +kernel
theorem dX5_goesOnInBrackets_53 : decode cX5_goesOnInBrackets 53 = .ok (.iload_n 1, 1) := by decide +kernel
theorem dX5_goesOnInBrackets_54 : decode cX5_goesOnInBrackets 54 = .ok (.bipush 44, 2) := by decide +kernel
theorem dX5_goesOnInBrackets_56 : decode cX5_goesOnInBrackets 56 = .ok (.if_icmp .ne 7, 3) := by decide +kernel
theorem dX5_goesOnInBrackets_59 : decode cX5_goesOnInBrackets 59 = .ok (.iconst 1, 1) := by decide +kernel
theorem dX5_goesOnInBrackets_60 : decode cX5_goesOnInBrackets 60 = .ok (.goto 4, 3) := by decide +kernel
theorem dX5_goesOnInBrackets_63 : decode cX5_goesOnInBrackets 63 = .ok (.iconst 0, 1) := by decide +kernel
theorem dX5_goesOnInBrackets_64 : decode cX5_goesOnInBrackets 64 = .ok (.ireturn, 1) := by decide +kernel
theorem dX5_goesOnInBrackets_65 : decode cX5_goesOnInBrackets 65 = .ok (.aload_n 0, 1) := by decide +kernel
theorem dX5_goesOnInBrackets_66 : decode cX5_goesOnInBrackets 66 = .ok (.dup, 1) := by decide +kernel
theorem dX5_goesOnInBrackets_67 : decode cX5_goesOnInBrackets 67 = .ok (.getfield 25, 3) := by decide +kernel
theorem dX5_goesOnInBrackets_70 : decode cX5_goesOnInBrackets 70 = .ok (.iconst 1, 1) := by decide +kernel
theorem dX5_goesOnInBrackets_71 : decode cX5_goesOnInBrackets 71 = .ok (.isub, 1) := by decide +kernel
theorem dX5_goesOnInBrackets_72 : decode cX5_goesOnInBrackets 72 = .ok (.putfield 25, 3) := by decide +kernel
theorem dX5_goesOnInBrackets_75 : decode cX5_goesOnInBrackets 75 = .ok (.iload_n 1, 1) := by decide +kernel
theorem dX5_goesOnInBrackets_76 : decode cX5_goesOnInBrackets 76 = .ok (.bipush 41, 2) := by decide +kernel
theorem dX5_goesOnInBrackets_78 : decode cX5_goesOnInBrackets 78 = .ok (.if_icmp .ne 24, 3) := by decide +kernel
theorem dX5_goesOnInBrackets_81 : decode cX5_goesOnInBrackets 81 = .ok (.aload_n 0, 1) := by decide +kernel
theorem dX5_goesOnInBrackets_82 : decode cX5_goesOnInBrackets 82 = .ok (.iload_n 2, 1) := by decide +kernel
theorem dX5_goesOnInBrackets_83 : decode cX5_goesOnInBrackets 83 = .ok (.ifCond .ne 7, 3) := by decide +kernel
theorem dX5_goesOnInBrackets_86 : decode cX5_goesOnInBrackets 86 = .ok (.iconst 5, 1) := by decide +kernel
theorem dX5_goesOnInBrackets_87 : decode cX5_goesOnInBrackets 87 = .ok (.goto 5, 3) := by decide +kernel
theorem dX5_goesOnInBrackets_90 : decode cX5_goesOnInBrackets 90 = .ok (.bipush 6, 2) := by decide +kernel
theorem dX5_goesOnInBrackets_92 : decode cX5_goesOnInBrackets 92 = .ok (.invokevirtual 61, 3) := by decide +kernel
theorem dX5_goesOnInBrackets_95 : decode cX5_goesOnInBrackets 95 = .ok (.ifCond .eq 7, 3) := by decide +kernel
theorem dX5_goesOnInBrackets_98 : decode cX5_goesOnInBrackets 98 = .ok (.iconst 1, 1) := by decide +kernel
theorem dX5_goesOnInBrackets_99 : decode cX5_goesOnInBrackets 99 = .ok (.goto 4, 3) := by decide +kernel
theorem dX5_goesOnInBrackets_102 : decode cX5_goesOnInBrackets 102 = .ok (.iconst 0, 1) := by decide +kernel
theorem dX5_goesOnInBrackets_103 : decode cX5_goesOnInBrackets 103 = .ok (.ireturn, 1) := by decide +kernel
set_option maxRecDepth 20000 in
theorem ggX5_goesOnOutside_X5_kindOfSign : GoodIn wsX5_goesOnOutside wsX5_kindOfSign := goodIn_r _ [7] (by decide +kernel) (by decide +kernel)
set_option maxRecDepth 20000 in
theorem gX5_goesOnOutside_X5_kindOfSign : GoodIn wsX5_goesOnOutside (va_wsS RX5 64 yX5_kindOfSign wsX5_kindOfSign) := goodIn_app (goodIn_of _ (by decide +kernel)) ggX5_goesOnOutside_X5_kindOfSign
theorem dX5_goesOnOutside_0 : decode cX5_goesOnOutside 0 = .ok (.aload_n 0, 1) := by decide +kernel
theorem dX5_goesOnOutside_1 : decode cX5_goesOnOutside 1 = .ok (.getfield 31, 3) := by decide +kernel
theorem dX5_goesOnOutside_4 : decode cX5_goesOnOutside 4 = .ok (.iconst (-1), 1) := by decide +kernel
theorem dX5_goesOnOutside_5 : decode cX5_goesOnOutside 5 = .ok (.if_icmp .ne 30, 3) := by decide +kernel
theorem dX5_goesOnOutside_8 : decode cX5_goesOnOutside 8 = .ok (.aload_n 0, 1) := by decide +kernel
theorem dX5_goesOnOutside_9 : decode cX5_goesOnOutside 9 = .ok (.iload_n 1, 1) := by decide +kernel
theorem dX5_goesOnOutside_10 : decode cX5_goesOnOutside 10 = .ok (.invokestatic 64, 3) := by decide +kernel
theorem dX5_goesOnOutside_13 : decode cX5_goesOnOutside 13 = .ok (.putfield 31, 3) := by decide +kernel
theorem dX5_goesOnOutside_16 : decode cX5_goesOnOutside 16 = .ok (.aload_n 0, 1) := by decide +kernel
theorem dX5_goesOnOutside_17 : decode cX5_goesOnOutside 17 = .ok (.iconst 0, 1) := by decide +kernel
theorem dX5_goesOnOutside_18 : decode cX5_goesOnOutside 18 = .ok (.putfield 21, 3) := by decide +kernel
theorem dX5_goesOnOutside_21 : decode cX5_goesOnOutside 21 = .ok (.aload_n 0, 1) := by decide +kernel
theorem dX5_goesOnOutside_22 : decode cX5_goesOnOutside 22 = .ok (.getfield 31, 3) := by decide +kernel
theorem dX5_goesOnOutside_25 : decode cX5_goesOnOutside 25 = .ok (.iconst (-1), 1) := by decide +kernel
theorem dX5_goesOnOutside_26 : decode cX5_goesOnOutside 26 = .ok (.if_icmp .eq 7, 3) := by decide +kernel
theorem dX5_goesOnOutside_29 : decode cX5_goesOnOutside 29 = .ok (.iconst 1, 1) := by decide +kernel
theorem dX5_goesOnOutside_30 : decode cX5_goesOnOutside 30 = .ok (.goto 4, 3) := by decide +kernel
theorem dX5_goesOnOutside_33 : decode cX5_goesOnOutside 33 = .ok (.iconst 0, 1) := by decide +kernel
theorem dX5_goesOnOutside_34 : decode cX5_goesOnOutside 34 = .ok (.ireturn, 1) := by decide +kernel
theorem dX5_goesOnOutside_35 : decode cX5_goesOnOutside 35 = .ok (.aload_n 0, 1) := by decide +kernel
theorem dX5_goesOnOutside_36 : decode cX5_goesOnOutside 36 = .ok (.iload_n 1, 1) := by decide +kernel
theorem dX5_goesOnOutside_37 : decode cX5_goesOnOutside 37 = .ok (.bipush 45, 2) := by decide +kernel
theorem dX5_goesOnOutside_39 : decode cX5_goesOnOutside 39 = .ok (.if_icmp .ne 7, 3) := by decide +kernel
theorem dX5_goesOnOutside_42 : decode cX5_goesOnOutside 42 = .ok (.iconst 1, 1) := by decide +kernel
theorem dX5_goesOnOutside_43 : decode cX5_goesOnOutside 43 = .ok (.goto 4, 3) := by decide +kernel
theorem dX5_goesOnOutside_46 : decode cX5_goesOnOutside 46 = .ok (.iconst 0, 1) := by decide +kernel
theorem dX5_goesOnOutside_47 : decode cX5_goesOnOutside 47 = .ok (.putfield 34, 3) := by decide +kernel
theorem dX5_goesOnOutside_50 : decode cX5_goesOnOutside 50 = .ok (.aload_n 0, 1) := by decide +kernel
theorem dX5_goesOnOutside_51 : decode cX5_goesOnOutside 51 = .ok (.iconst 3, 1) := by decide +kernel
theorem dX5_goesOnOutside_52 : decode cX5_goesOnOutside 52 = .ok (.putfield 21, 3) := by decide +kernel
theorem dX5_goesOnOutside_55 : decode cX5_goesOnOutside 55 = .ok (.aload_n 0, 1) := by decide +kernel
theorem dX5_goesOnOutside_56 : decode cX5_goesOnOutside 56 = .ok (.getfield 31, 3) := by decide +kernel
theorem dX5_goesOnOutside_59 : decode cX5_goesOnOutside 59 = .ok (.iconst 2, 1) := by decide +kernel
theorem dX5_goesOnOutside_60 : decode cX5_goesOnOutside 60 = .ok (.if_icmp .ne 19, 3) := by decide +kernel
theorem dX5_goesOnOutside_63 : decode cX5_goesOnOutside 63 = .ok (.iload_n 1, 1) := by decide +kernel
theorem dX5_goesOnOutside_64 : decode cX5_goesOnOutside 64 = .ok (.bipush 43, 2) := by decide +kernel
theorem dX5_goesOnOutside_66 : decode cX5_goesOnOutside 66 = .ok (.if_icmp .eq 9, 3) := by decide +kernel
theorem dX5_goesOnOutside_69 : decode cX5_goesOnOutside 69 = .ok (.iload_n 1, 1) := by decide +kernel
theorem dX5_goesOnOutside_70 : decode cX5_goesOnOutside 70 = .ok (.bipush 45, 2) := by decide +kernel
theorem dX5_goesOnOutside_72 : decode cX5_goesOnOutside 72 = .ok (.if_icmp .ne 7, 3) := by decide +kernel
theorem dX5_goesOnOutside_75 : decode cX5_goesOnOutside 75 = .ok (.iconst 1, 1) := by decide +kernel
theorem dX5_goesOnOutside_76 : decode cX5_goesOnOutside 76 = .ok (.goto 4, 3) := by decide +kernel
theorem dX5_goesOnOutside_79 : decode cX5_goesOnOutside 79 = .ok (.iconst 0, 1) := by decide +kernel
theorem dX5_goesOnOutside_80 : decode cX5_goesOnOutside 80 = .ok (.ireturn, 1) := by decide +kernel
theorem dX5_kindOfSign_0 : decode cX5_kindOfSign 0 = .ok (.iload_n 0, 1) := by decide +kernel
theorem dX5_kindOfSign_1 : decode cX5_kindOfSign 1 = .ok (.bipush 61, 2) := by decide +kernel
theorem dX5_kindOfSign_3 : decode cX5_kindOfSign 3 = .ok (.if_icmp .ne 5, 3) := by decide +kernel
theorem dX5_kindOfSign_6 : decode cX5_kindOfSign 6 = .ok (.iconst 0, 1) := by decide +kernel
theorem dX5_kindOfSign_7 : decode cX5_kindOfSign 7 = .ok (.ireturn, 1) := by decide +kernel
theorem dX5_kindOfSign_8 : decode cX5_kindOfSign 8 = .ok (.iload_n 0, 1) := by decide +kernel
theorem dX5_kindOfSign_9 : decode cX5_kindOfSign 9 = .ok (.bipush 35, 2) := by decide +kernel
theorem dX5_kindOfSign_11 : decode cX5_kindOfSign 11 = .ok (.if_icmp .ne 5, 3) := by decide +kernel
theorem dX5_kindOfSign_14 : decode cX5_kindOfSign 14 = .ok (.iconst 1, 1) := by decide +kernel
theorem dX5_kindOfSign_15 : decode cX5_kindOfSign 15 = .ok (.ireturn, 1) := by decide +kernel
theorem dX5_kindOfSign_16 : decode cX5_kindOfSign 16 = .ok (.iload_n 0, 1) := by decide +kernel
theorem dX5_kindOfSign_17 : decode cX5_kindOfSign 17 = .ok (.bipush 60, 2) := by decide +kernel
theorem dX5_kindOfSign_19 : decode cX5_kindOfSign 19 = .ok (.if_icmp .ne 7, 3) := by decide +kernel
theorem dX5_kindOfSign_22 : decode cX5_kindOfSign 22 = .ok (.iconst 2, 1) := by decide +kernel
theorem dX5_kindOfSign_23 : decode cX5_kindOfSign 23 = .ok (.goto 4, 3) := by decide +kernel
theorem dX5_kindOfSign_26 : decode cX5_kindOfSign 26 = .ok (.iconst (-1), 1) := by decide +kernel
theorem dX5_kindOfSign_27 : decode cX5_kindOfSign 27 = .ok (.ireturn, 1) := by decide +kernel
theorem dX5_goesOnInNumber_0 : decode cX5_goesOnInNumber 0 = .ok (.aload_n 0, 1) := by decide +kernel
theorem dX5_goesOnInNumber_1 : decode cX5_goesOnInNumber 1 = .ok (.getfield 21, 3) := by decide +kernel
theorem dX5_goesOnInNumber_4 : decode cX5_goesOnInNumber 4 = .ok (.iconst 3, 1) := by decide +kernel
theorem dX5_goesOnInNumber_5 : decode cX5_goesOnInNumber 5 = .ok (.if_icmp .ne 8, 3) := by decide +kernel
theorem dX5_goesOnInNumber_8 : decode cX5_goesOnInNumber 8 = .ok (.bipush 49, 2) := by decide +kernel
theorem dX5_goesOnInNumber_10 : decode cX5_goesOnInNumber 10 = .ok (.goto 5, 3) := by decide +kernel
theorem dX5_goesOnInNumber_13 : decode cX5_goesOnInNumber 13 = .ok (.bipush 48, 2) := by decide +kernel
theorem dX5_goesOnInNumber_15 : decode cX5_goesOnInNumber 15 = .ok (.istore_n 2, 1) := by decide +kernel
theorem dX5_goesOnInNumber_16 : decode cX5_goesOnInNumber 16 = .ok (.iload_n 1, 1) := by decide +kernel
theorem dX5_goesOnInNumber_17 : decode cX5_goesOnInNumber 17 = .ok (.iload_n 2, 1) := by decide +kernel
theorem dX5_goesOnInNumber_18 : decode cX5_goesOnInNumber 18 = .ok (.if_icmp .lt 9, 3) := by decide +kernel
theorem dX5_goesOnInNumber_21 : decode cX5_goesOnInNumber 21 = .ok (.iload_n 1, 1) := by decide +kernel
theorem dX5_goesOnInNumber_22 : decode cX5_goesOnInNumber 22 = .ok (.bipush 57, 2) := by decide +kernel
theorem dX5_goesOnInNumber_24 : decode cX5_goesOnInNumber 24 = .ok (.if_icmp .le 5, 3) := by decide +kernel
theorem dX5_goesOnInNumber_27 : decode cX5_goesOnInNumber 27 = .ok (.iconst 0, 1) := by decide +kernel
theorem dX5_goesOnInNumber_28 : decode cX5_goesOnInNumber 28 = .ok (.ireturn, 1) := by decide +kernel
theorem dX5_goesOnInNumber_29 : decode cX5_goesOnInNumber 29 = .ok (.aload_n 0, 1) := by decide +kernel
theorem dX5_goesOnInNumber_30 : decode cX5_goesOnInNumber 30 = .ok (.bipush 10, 2) := by decide +kernel
theorem dX5_goesOnInNumber_32 : decode cX5_goesOnInNumber 32 = .ok (.aload_n 0, 1) := by decide +kernel
theorem dX5_goesOnInNumber_33 : decode cX5_goesOnInNumber 33 = .ok (.getfield 38, 3) := by decide +kernel
theorem dX5_goesOnInNumber_36 : decode cX5_goesOnInNumber 36 = .ok (.imul, 1) := by decide +kernel
theorem dX5_goesOnInNumber_37 : decode cX5_goesOnInNumber 37 = .ok (.iload_n 1, 1) := by decide +kernel
theorem dX5_goesOnInNumber_38 : decode cX5_goesOnInNumber 38 = .ok (.bipush 48, 2) := by decide +kernel
theorem dX5_goesOnInNumber_40 : decode cX5_goesOnInNumber 40 = .ok (.isub, 1) := by decide +kernel
theorem dX5_goesOnInNumber_41 : decode cX5_goesOnInNumber 41 = .ok (.iadd, 1) := by decide +kernel
theorem dX5_goesOnInNumber_42 : decode cX5_goesOnInNumber 42 = .ok (.putfield 38, 3) := by decide +kernel
theorem dX5_goesOnInNumber_45 : decode cX5_goesOnInNumber 45 = .ok (.aload_n 0, 1) := by decide +kernel
theorem dX5_goesOnInNumber_46 : decode cX5_goesOnInNumber 46 = .ok (.iconst 4, 1) := by decide +kernel
theorem dX5_goesOnInNumber_47 : decode cX5_goesOnInNumber 47 = .ok (.putfield 21, 3) := by decide +kernel
theorem dX5_goesOnInNumber_50 : decode cX5_goesOnInNumber 50 = .ok (.aload_n 0, 1) := by decide +kernel
theorem dX5_goesOnInNumber_51 : decode cX5_goesOnInNumber 51 = .ok (.getfield 38, 3) := by decide +kernel
theorem dX5_goesOnInNumber_54 : decode cX5_goesOnInNumber 54 = .ok (.ldc 68, 2) := by decide +kernel
theorem dX5_goesOnInNumber_56 : decode cX5_goesOnInNumber 56 = .ok (.if_icmp .gt 7, 3) := by decide +kernel
theorem dX5_goesOnInNumber_59 : decode cX5_goesOnInNumber 59 = .ok (.iconst 1, 1) := by decide +kernel
theorem dX5_goesOnInNumber_60 : decode cX5_goesOnInNumber 60 = .ok (.goto 4, 3) := by decide +kernel
theorem dX5_goesOnInNumber_63 : decode cX5_goesOnInNumber 63 = .ok (.iconst 0, 1) := by decide +kernel
theorem dX5_goesOnInNumber_64 : decode cX5_goesOnInNumber 64 = .ok (.ireturn, 1) := by decide +kernel
theorem dX5_write_0 : decode cX5_write 0 = .ok (.aload_n 0, 1) := by decide +kernel
theorem dX5_write_1 : decode cX5_write 1 = .ok (.getfield 28, 3) := by decide +kernel
theorem dX5_write_4 : decode cX5_write 4 = .ok (.ifCond .lt 12, 3) := by decide +kernel
theorem dX5_write_7 : decode cX5_write 7 = .ok (.aload_n 0, 1) := by decide +kernel
theorem dX5_write_8 : decode cX5_write 8 = .ok (.getfield 28, 3) := by decide +kernel
theorem dX5_write_11 : decode cX5_write 11 = .ok (.bipush 40, 2) := by decide +kernel
theorem dX5_write_13 : decode cX5_write 13 = .ok (.if_icmp .lt 5, 3) := by decide +kernel
theorem dX5_write_16 : decode cX5_write 16 = .ok (.iconst 0, 1) := by decide +kernel
theorem dX5_write_17 : decode cX5_write 17 = .ok (.ireturn, 1) := by decide +kernel
theorem dX5_write_18 : decode cX5_write 18 = .ok (.aload_n 0, 1) := by decide +kernel
theorem dX5_write_19 : decode cX5_write 19 = .ok (.getfield 15, 3) := by decide +kernel
theorem dX5_write_22 : decode cX5_write 22 = .ok (.aload_n 0, 1) := by decide +kernel
theorem dX5_write_23 : decode cX5_write 23 = .ok (.getfield 28, 3) := by decide +kernel
theorem dX5_write_26 : decode cX5_write 26 = .ok (.iload_n 1, 1) := by decide +kernel
theorem dX5_write_27 : decode cX5_write 27 = .ok (.iastore, 1) := by decide +kernel
theorem dX5_write_28 : decode cX5_write 28 = .ok (.aload_n 0, 1) := by decide +kernel
theorem dX5_write_29 : decode cX5_write 29 = .ok (.dup, 1) := by decide +kernel
theorem dX5_write_30 : decode cX5_write 30 = .ok (.getfield 28, 3) := by decide +kernel
theorem dX5_write_33 : decode cX5_write 33 = .ok (.iconst 1, 1) := by decide +kernel
theorem dX5_write_34 : decode cX5_write 34 = .ok (.iadd, 1) := by decide +kernel
theorem dX5_write_35 : decode cX5_write 35 = .ok (.putfield 28, 3) := by decide +kernel
theorem dX5_write_38 : decode cX5_write 38 = .ok (.iconst 1, 1) := by decide +kernel
theorem dX5_write_39 : decode cX5_write 39 = .ok (.ireturn, 1) := by decide +kernel
set_option maxRecDepth 20000 in
theorem ggX5_buildIn_X5_takeBuilt : GoodIn wsX5_buildIn wsX5_takeBuilt := goodIn_r _ [10, 1, 4, 5, 30, 31, 32, 33, 34, 35, 36, 37, 38, 39] (by decide +kernel) (by decide +kernel)
set_option maxRecDepth 20000 in
theorem gX5_buildIn_X5_takeBuilt : GoodIn wsX5_buildIn (wsV RX5 69 RX5 yX5_takeBuilt wsX5_takeBuilt) := goodIn_app (goodIn_of _ (by decide +kernel)) ggX5_buildIn_X5_takeBuilt
set_option maxRecDepth 20000 in
theorem ggX5_buildIn_X7_numberFor : GoodIn wsX5_buildIn wsX7_numberFor := goodIn_r _ [15, 16, 17, 18, 19, 20, 21, 22, 23, 24, 14, 25, 26, 27, 28, 29, 40, 41, 42, 43, 44] (by decide +kernel) (by decide +kernel)
set_option maxRecDepth 20000 in
theorem gX5_buildIn_X7_numberFor : GoodIn wsX5_buildIn (wsV RX5 73 RX7 yX7_numberFor wsX7_numberFor) := goodIn_app (goodIn_of _ (by decide +kernel)) ggX5_buildIn_X7_numberFor
theorem dX5_buildIn_0 : decode cX5_buildIn 0 = .ok (.aload_n 0, 1) := by decide +kernel
theorem dX5_buildIn_1 : decode cX5_buildIn 1 = .ok (.iconst 0, 1) := by decide +kernel
theorem dX5_buildIn_2 : decode cX5_buildIn 2 = .ok (.putfield 45, 3) := by decide +kernel
theorem dX5_buildIn_5 : decode cX5_buildIn 5 = .ok (.iconst 0, 1) := by decide +kernel
theorem dX5_buildIn_6 : decode cX5_buildIn 6 = .ok (.istore_n 2, 1) := by decide +kernel
theorem dX5_buildIn_7 : decode cX5_buildIn 7 = .ok (.iload_n 2, 1) := by decide +kernel
theorem dX5_buildIn_8 : decode cX5_buildIn 8 = .ok (.aload_n 0, 1) := by decide +kernel
theorem dX5_buildIn_9 : decode cX5_buildIn 9 = .ok (.getfield 28, 3) := by decide +kernel
theorem dX5_buildIn_12 : decode cX5_buildIn 12 = .ok (.if_icmp .ge 110, 3) := by decide +kernel
theorem dX5_buildIn_15 : decode cX5_buildIn 15 = .ok (.iload_n 2, 1) := by decide +kernel
theorem dX5_buildIn_16 : decode cX5_buildIn 16 = .ok (.bipush 40, 2) := by decide +kernel
theorem dX5_buildIn_18 : decode cX5_buildIn 18 = .ok (.if_icmp .ge 104, 3) := by decide +kernel
theorem dX5_buildIn_21 : decode cX5_buildIn 21 = .ok (.aload_n 0, 1) := by decide +kernel
theorem dX5_buildIn_22 : decode cX5_buildIn 22 = .ok (.getfield 15, 3) := by decide +kernel
theorem dX5_buildIn_25 : decode cX5_buildIn 25 = .ok (.iload_n 2, 1) := by decide +kernel
theorem dX5_buildIn_26 : decode cX5_buildIn 26 = .ok (.iaload, 1) := by decide +kernel
theorem dX5_buildIn_27 : decode cX5_buildIn 27 = .ok (.istore_n 3, 1) := by decide +kernel
theorem dX5_buildIn_28 : decode cX5_buildIn 28 = .ok (.iload_n 3, 1) := by decide +kernel
theorem dX5_buildIn_29 : decode cX5_buildIn 29 = .ok (.iconst 5, 1) := by decide +kernel
theorem dX5_buildIn_30 : decode cX5_buildIn 30 = .ok (.if_icmp .ne 18, 3) := by decide +kernel
theorem dX5_buildIn_33 : decode cX5_buildIn 33 = .ok (.aload_n 1, 1) := by decide +kernel
theorem dX5_buildIn_34 : decode cX5_buildIn 34 = .ok (.iconst 1, 1) := by decide +kernel
theorem dX5_buildIn_35 : decode cX5_buildIn 35 = .ok (.aload_n 0, 1) := by decide +kernel
theorem dX5_buildIn_36 : decode cX5_buildIn 36 = .ok (.invokevirtual 69, 3) := by decide +kernel
theorem dX5_buildIn_39 : decode cX5_buildIn 39 = .ok (.ldc 48, 2) := by decide +kernel
theorem dX5_buildIn_41 : decode cX5_buildIn 41 = .ok (.invokevirtual 73, 3) := by decide +kernel
theorem dX5_buildIn_44 : decode cX5_buildIn 44 = .ok (.istore_n 3, 1) := by decide +kernel
theorem dX5_buildIn_45 : decode cX5_buildIn 45 = .ok (.goto 27, 3) := by decide +kernel
theorem dX5_buildIn_48 : decode cX5_buildIn 48 = .ok (.iload_n 3, 1) := by decide +kernel
theorem dX5_buildIn_49 : decode cX5_buildIn 49 = .ok (.bipush 6, 2) := by decide +kernel
theorem dX5_buildIn_51 : decode cX5_buildIn 51 = .ok (.if_icmp .ne 21, 3) := by decide +kernel
theorem dX5_buildIn_54 : decode cX5_buildIn 54 = .ok (.aload_n 0, 1) := by decide +kernel
theorem dX5_buildIn_55 : decode cX5_buildIn 55 = .ok (.invokevirtual 69, 3) := by decide +kernel
theorem dX5_buildIn_58 : decode cX5_buildIn 58 = .ok (.istore 4, 2) := by decide +kernel
theorem dX5_buildIn_60 : decode cX5_buildIn 60 = .ok (.aload_n 1, 1) := by decide +kernel
theorem dX5_buildIn_61 : decode cX5_buildIn 61 = .ok (.iconst 2, 1) := by decide +kernel
theorem dX5_buildIn_62 : decode cX5_buildIn 62 = .ok (.aload_n 0, 1) := by decide +kernel
theorem dX5_buildIn_63 : decode cX5_buildIn 63 = .ok (.invokevirtual 69, 3) := by decide +kernel
theorem dX5_buildIn_66 : decode cX5_buildIn 66 = .ok (.iload 4, 2) := by decide +kernel
theorem dX5_buildIn_68 : decode cX5_buildIn 68 = .ok (.invokevirtual 73, 3) := by decide +kernel
theorem dX5_buildIn_71 : decode cX5_buildIn 71 = .ok (.istore_n 3, 1) := by decide +kernel
theorem dX5_buildIn_72 : decode cX5_buildIn 72 = .ok (.iload_n 3, 1) := by decide +kernel
theorem dX5_buildIn_73 : decode cX5_buildIn 73 = .ok (.ldc 48, 2) := by decide +kernel
theorem dX5_buildIn_75 : decode cX5_buildIn 75 = .ok (.if_icmp .eq 19, 3) := by decide +kernel
theorem dX5_buildIn_78 : decode cX5_buildIn 78 = .ok (.aload_n 0, 1) := by decide +kernel
theorem dX5_buildIn_79 : decode cX5_buildIn 79 = .ok (.getfield 45, 3) := by decide +kernel
theorem dX5_buildIn_82 : decode cX5_buildIn 82 = .ok (.ifCond .lt 12, 3) := by decide +kernel
theorem dX5_buildIn_85 : decode cX5_buildIn 85 = .ok (.aload_n 0, 1) := by decide +kernel
theorem dX5_buildIn_86 : decode cX5_buildIn 86 = .ok (.getfield 45, 3) := by decide +kernel
theorem dX5_buildIn_89 : decode cX5_buildIn 89 = .ok (.bipush 40, 2) := by decide +kernel
theorem dX5_buildIn_91 : decode cX5_buildIn 91 = .ok (.if_icmp .lt 5, 3) := by decide +kernel
theorem dX5_buildIn_94 : decode cX5_buildIn 94 = .ok (.iconst 0, 1) := by decide +kernel
theorem dX5_buildIn_95 : decode cX5_buildIn 95 = .ok (.ireturn, 1) := by decide +kernel
theorem dX5_buildIn_96 : decode cX5_buildIn 96 = .ok (.aload_n 0, 1) := by decide +kernel
theorem dX5_buildIn_97 : decode cX5_buildIn 97 = .ok (.getfield 18, 3) := by decide +kernel
theorem dX5_buildIn_100 : decode cX5_buildIn 100 = .ok (.aload_n 0, 1) := by decide +kernel
theorem dX5_buildIn_101 : decode cX5_buildIn 101 = .ok (.getfield 45, 3) := by decide +kernel
theorem dX5_buildIn_104 : decode cX5_buildIn 104 = .ok (.iload_n 3, 1) := by decide +kernel
theorem dX5_buildIn_105 : decode cX5_buildIn 105 = .ok (.iastore, 1) := by decide +kernel
theorem dX5_buildIn_106 : decode cX5_buildIn 106 = .ok (.aload_n 0, 1) := by decide +kernel
theorem dX5_buildIn_107 : decode cX5_buildIn 107 = .ok (.dup, 1) := by decide +kernel
theorem dX5_buildIn_108 : decode cX5_buildIn 108 = .ok (.getfield 45, 3) := by decide +kernel
theorem dX5_buildIn_111 : decode cX5_buildIn 111 = .ok (.iconst 1, 1) := by decide +kernel
theorem dX5_buildIn_112 : decode cX5_buildIn 112 = .ok (.iadd, 1) := by decide +kernel
theorem dX5_buildIn_113 : decode cX5_buildIn 113 = .ok (.putfield 45, 3) := by decide +kernel
theorem dX5_buildIn_116 : decode cX5_buildIn 116 = .ok (.iinc 2 1, 3) := by decide +kernel
theorem dX5_buildIn_119 : decode cX5_buildIn 119 = .ok (.goto (-112), 3) := by decide +kernel
theorem dX5_buildIn_122 : decode cX5_buildIn 122 = .ok (.aload_n 0, 1) := by decide +kernel
theorem dX5_buildIn_123 : decode cX5_buildIn 123 = .ok (.getfield 45, 3) := by decide +kernel
theorem dX5_buildIn_126 : decode cX5_buildIn 126 = .ok (.iconst 2, 1) := by decide +kernel
theorem dX5_buildIn_127 : decode cX5_buildIn 127 = .ok (.if_icmp .ne 7, 3) := by decide +kernel
theorem dX5_buildIn_130 : decode cX5_buildIn 130 = .ok (.iconst 1, 1) := by decide +kernel
theorem dX5_buildIn_131 : decode cX5_buildIn 131 = .ok (.goto 4, 3) := by decide +kernel
theorem dX5_buildIn_134 : decode cX5_buildIn 134 = .ok (.iconst 0, 1) := by decide +kernel
theorem dX5_buildIn_135 : decode cX5_buildIn 135 = .ok (.ireturn, 1) := by decide +kernel
theorem dX5_takeBuilt_0 : decode cX5_takeBuilt 0 = .ok (.aload_n 0, 1) := by decide +kernel
theorem dX5_takeBuilt_1 : decode cX5_takeBuilt 1 = .ok (.getfield 45, 3) := by decide +kernel
theorem dX5_takeBuilt_4 : decode cX5_takeBuilt 4 = .ok (.iconst 1, 1) := by decide +kernel
theorem dX5_takeBuilt_5 : decode cX5_takeBuilt 5 = .ok (.if_icmp .lt 12, 3) := by decide +kernel
theorem dX5_takeBuilt_8 : decode cX5_takeBuilt 8 = .ok (.aload_n 0, 1) := by decide +kernel
theorem dX5_takeBuilt_9 : decode cX5_takeBuilt 9 = .ok (.getfield 45, 3) := by decide +kernel
theorem dX5_takeBuilt_12 : decode cX5_takeBuilt 12 = .ok (.bipush 40, 2) := by decide +kernel
theorem dX5_takeBuilt_14 : decode cX5_takeBuilt 14 = .ok (.if_icmp .le 6, 3) := by decide +kernel
theorem dX5_takeBuilt_17 : decode cX5_takeBuilt 17 = .ok (.ldc 48, 2) := by decide +kernel
