theorem dX9_boundLiteral_70 : decode cX9_boundLiteral 70 = .ok (.iload_n 1, 1) := by decide +kernel
theorem dX9_boundLiteral_71 : decode cX9_boundLiteral 71 = .ok (.iaload, 1) := by decide +kernel
theorem dX9_boundLiteral_72 : decode cX9_boundLiteral 72 = .ok (.i2l, 1) := by decide +kernel
theorem dX9_boundLiteral_73 : decode cX9_boundLiteral 73 = .ok (.invokevirtual 217, 3) := by decide +kernel
theorem dX9_boundLiteral_76 : decode cX9_boundLiteral 76 = .ok (.ireturn, 1) := by decide +kernel
set_option maxRecDepth 20000 in
theorem ggX9_layFirst_X9_boundLiteral : GoodIn wsX9_layFirst wsX9_boundLiteral := goodIn_r _ [13, 14, 15, 16, 17, 18, 19, 20, 12, 21, 22, 23, 24, 25, 26, 27, 28, 29, 2, 3, 1, 30, 31, 32, 33, 34, 35, 36, 37, 38, 39, 40, 41, 42, 43, 44, 45, 46, 47, 48, 49, 50, 51, 52, 53, 54, 55, 56, 57, 58, 59, 60, 61, 62, 63, 64, 65, 66, 67, 68, 69, 70, 71, 72, 73, 74, 75, 76, 77, 78, 79, 80] (by decide +kernel) (by decide +kernel)
set_option maxRecDepth 20000 in
theorem gX9_layFirst_X9_boundLiteral : GoodIn wsX9_layFirst (wsV RX9 230 RX9 yX9_boundLiteral wsX9_boundLiteral) := goodIn_app (goodIn_of _ (by decide +kernel)) ggX9_layFirst_X9_boundLiteral
set_option maxRecDepth 20000 in
theorem ggX9_layFirst_X9_boundBoth : GoodIn wsX9_layFirst wsX9_boundBoth := goodIn_r _ [25, 26, 27, 28, 12, 29, 2, 3, 1, 30, 31, 32, 33, 34, 35, 36, 37, 38, 39, 40, 41, 42, 43, 44, 45, 46, 47, 48, 49, 50, 51, 52, 53, 54, 55, 56, 57, 58, 59, 60, 61, 62, 63, 64, 65, 66, 67, 68, 69, 70, 71, 72, 73, 74, 75, 76, 77, 78, 79, 80] (by decide +kernel) (by decide +kernel)
set_option maxRecDepth 20000 in
theorem gX9_layFirst_X9_boundBoth : GoodIn wsX9_layFirst (wsV RX9 227 RX9 yX9_boundBoth wsX9_boundBoth) := goodIn_app (goodIn_of _ (by decide +kernel)) ggX9_layFirst_X9_boundBoth
set_option maxRecDepth 20000 in
theorem ggX9_layFirst_X9_bound : GoodIn wsX9_layFirst wsX9_bound := goodIn_r _ [29, 2, 3, 1, 30, 31, 12, 32, 33, 34, 35, 36, 37, 38, 39, 40, 41, 42, 43, 44, 45, 46, 47, 48, 49, 50, 51, 52, 53, 54, 55, 56, 57, 58, 59, 60, 61, 62, 63, 64, 65, 66, 67, 68, 69, 70, 71, 72, 73, 74, 75, 76, 77, 78, 79, 80] (by decide +kernel) (by decide +kernel)
set_option maxRecDepth 20000 in
theorem gX9_layFirst_X9_bound : GoodIn wsX9_layFirst (wsV RX9 217 RX9 yX9_bound wsX9_bound) := goodIn_app (goodIn_of _ (by decide +kernel)) ggX9_layFirst_X9_bound
theorem dX9_layFirst_0 : decode cX9_layFirst 0 = .ok (.iconst 0, 1) := by decide +kernel
theorem dX9_layFirst_1 : decode cX9_layFirst 1 = .ok (.istore_n 1, 1) := by decide +kernel
theorem dX9_layFirst_2 : decode cX9_layFirst 2 = .ok (.iload_n 1, 1) := by decide +kernel
theorem dX9_layFirst_3 : decode cX9_layFirst 3 = .ok (.aload_n 0, 1) := by decide +kernel
theorem dX9_layFirst_4 : decode cX9_layFirst 4 = .ok (.getfield 133, 3) := by decide +kernel
theorem dX9_layFirst_7 : decode cX9_layFirst 7 = .ok (.if_icmp .ge 48, 3) := by decide +kernel
theorem dX9_layFirst_10 : decode cX9_layFirst 10 = .ok (.iconst 0, 1) := by decide +kernel
theorem dX9_layFirst_11 : decode cX9_layFirst 11 = .ok (.istore_n 2, 1) := by decide +kernel
theorem dX9_layFirst_12 : decode cX9_layFirst 12 = .ok (.iload_n 2, 1) := by decide +kernel
theorem dX9_layFirst_13 : decode cX9_layFirst 13 = .ok (.aload_n 0, 1) := by decide +kernel
theorem dX9_layFirst_14 : decode cX9_layFirst 14 = .ok (.getfield 133, 3) := by decide +kernel
theorem dX9_layFirst_17 : decode cX9_layFirst 17 = .ok (.if_icmp .ge 32, 3) := by decide +kernel
theorem dX9_layFirst_20 : decode cX9_layFirst 20 = .ok (.aload_n 0, 1) := by decide +kernel
theorem dX9_layFirst_21 : decode cX9_layFirst 21 = .ok (.getfield 53, 3) := by decide +kernel
theorem dX9_layFirst_24 : decode cX9_layFirst 24 = .ok (.bipush 10, 2) := by decide +kernel
theorem dX9_layFirst_26 : decode cX9_layFirst 26 = .ok (.iload_n 1, 1) := by decide +kernel
theorem dX9_layFirst_27 : decode cX9_layFirst 27 = .ok (.imul, 1) := by decide +kernel
theorem dX9_layFirst_28 : decode cX9_layFirst 28 = .ok (.iload_n 2, 1) := by decide +kernel
theorem dX9_layFirst_29 : decode cX9_layFirst 29 = .ok (.iadd, 1) := by decide +kernel
theorem dX9_layFirst_30 : decode cX9_layFirst 30 = .ok (.iload_n 1, 1) := by decide +kernel
theorem dX9_layFirst_31 : decode cX9_layFirst 31 = .ok (.iload_n 2, 1) := by decide +kernel
theorem dX9_layFirst_32 : decode cX9_layFirst 32 = .ok (.if_icmp .ne 7, 3) := by decide +kernel
theorem dX9_layFirst_35 : decode cX9_layFirst 35 = .ok (.lconst 0, 1) := by decide +kernel
theorem dX9_layFirst_36 : decode cX9_layFirst 36 = .ok (.goto 6, 3) := by decide +kernel
theorem dX9_layFirst_39 : decode cX9_layFirst 39 = .ok (.ldc2_w 176, 3) := by decide +kernel
theorem dX9_layFirst_42 : decode cX9_layFirst 42 = .ok (.lastore, 1) := by decide +kernel
theorem dX9_layFirst_43 : decode cX9_layFirst 43 = .ok (.iinc 2 1, 3) := by decide +kernel
theorem dX9_layFirst_46 : decode cX9_layFirst 46 = .ok (.goto (-34), 3) := by decide +kernel
theorem dX9_layFirst_49 : decode cX9_layFirst 49 = .ok (.iinc 1 1, 3) := by decide +kernel
theorem dX9_layFirst_52 : decode cX9_layFirst 52 = .ok (.goto (-50), 3) := by decide +kernel
theorem dX9_layFirst_55 : decode cX9_layFirst 55 = .ok (.iconst 1, 1) := by decide +kernel
theorem dX9_layFirst_56 : decode cX9_layFirst 56 = .ok (.istore_n 1, 1) := by decide +kernel
theorem dX9_layFirst_57 : decode cX9_layFirst 57 = .ok (.iconst 0, 1) := by decide +kernel
theorem dX9_layFirst_58 : decode cX9_layFirst 58 = .ok (.istore_n 2, 1) := by decide +kernel
theorem dX9_layFirst_59 : decode cX9_layFirst 59 = .ok (.iload_n 2, 1) := by decide +kernel
theorem dX9_layFirst_60 : decode cX9_layFirst 60 = .ok (.aload_n 0, 1) := by decide +kernel
theorem dX9_layFirst_61 : decode cX9_layFirst 61 = .ok (.getfield 141, 3) := by decide +kernel
theorem dX9_layFirst_64 : decode cX9_layFirst 64 = .ok (.if_icmp .ge 27, 3) := by decide +kernel
theorem dX9_layFirst_67 : decode cX9_layFirst 67 = .ok (.iload_n 1, 1) := by decide +kernel
theorem dX9_layFirst_68 : decode cX9_layFirst 68 = .ok (.ifCond .eq 15, 3) := by decide +kernel
theorem dX9_layFirst_71 : decode cX9_layFirst 71 = .ok (.aload_n 0, 1) := by decide +kernel
theorem dX9_layFirst_72 : decode cX9_layFirst 72 = .ok (.iload_n 2, 1) := by decide +kernel
theorem dX9_layFirst_73 : decode cX9_layFirst 73 = .ok (.invokevirtual 230, 3) := by decide +kernel
theorem dX9_layFirst_76 : decode cX9_layFirst 76 = .ok (.ifCond .eq 7, 3) := by decide +kernel
theorem dX9_layFirst_79 : decode cX9_layFirst 79 = .ok (.iconst 1, 1) := by decide +kernel
theorem dX9_layFirst_80 : decode cX9_layFirst 80 = .ok (.goto 4, 3) := by decide +kernel
theorem dX9_layFirst_83 : decode cX9_layFirst 83 = .ok (.iconst 0, 1) := by decide +kernel
theorem dX9_layFirst_84 : decode cX9_layFirst 84 = .ok (.istore_n 1, 1) := by decide +kernel
theorem dX9_layFirst_85 : decode cX9_layFirst 85 = .ok (.iinc 2 1, 3) := by decide +kernel
theorem dX9_layFirst_88 : decode cX9_layFirst 88 = .ok (.goto (-29), 3) := by decide +kernel
theorem dX9_layFirst_91 : decode cX9_layFirst 91 = .ok (.iload_n 1, 1) := by decide +kernel
theorem dX9_layFirst_92 : decode cX9_layFirst 92 = .ok (.ifCond .eq 30, 3) := by decide +kernel
theorem dX9_layFirst_95 : decode cX9_layFirst 95 = .ok (.aload_n 0, 1) := by decide +kernel
theorem dX9_layFirst_96 : decode cX9_layFirst 96 = .ok (.getfield 233, 3) := by decide +kernel
theorem dX9_layFirst_99 : decode cX9_layFirst 99 = .ok (.ifCond .ne 19, 3) := by decide +kernel
theorem dX9_layFirst_102 : decode cX9_layFirst 102 = .ok (.aload_n 0, 1) := by decide +kernel
theorem dX9_layFirst_103 : decode cX9_layFirst 103 = .ok (.iconst 0, 1) := by decide +kernel
theorem dX9_layFirst_104 : decode cX9_layFirst 104 = .ok (.aload_n 0, 1) := by decide +kernel
theorem dX9_layFirst_105 : decode cX9_layFirst 105 = .ok (.getfield 236, 3) := by decide +kernel
theorem dX9_layFirst_108 : decode cX9_layFirst 108 = .ok (.aload_n 0, 1) := by decide +kernel
theorem dX9_layFirst_109 : decode cX9_layFirst 109 = .ok (.getfield 239, 3) := by decide +kernel
theorem dX9_layFirst_112 : decode cX9_layFirst 112 = .ok (.invokevirtual 227, 3) := by decide +kernel
theorem dX9_layFirst_115 : decode cX9_layFirst 115 = .ok (.ifCond .eq 7, 3) := by decide +kernel
theorem dX9_layFirst_118 : decode cX9_layFirst 118 = .ok (.iconst 1, 1) := by decide +kernel
theorem dX9_layFirst_119 : decode cX9_layFirst 119 = .ok (.goto 4, 3) := by decide +kernel
theorem dX9_layFirst_122 : decode cX9_layFirst 122 = .ok (.iconst 0, 1) := by decide +kernel
theorem dX9_layFirst_123 : decode cX9_layFirst 123 = .ok (.istore_n 1, 1) := by decide +kernel
theorem dX9_layFirst_124 : decode cX9_layFirst 124 = .ok (.iload_n 1, 1) := by decide +kernel
theorem dX9_layFirst_125 : decode cX9_layFirst 125 = .ok (.ifCond .eq 34, 3) := by decide +kernel
theorem dX9_layFirst_128 : decode cX9_layFirst 128 = .ok (.aload_n 0, 1) := by decide +kernel
theorem dX9_layFirst_129 : decode cX9_layFirst 129 = .ok (.getfield 233, 3) := by decide +kernel
theorem dX9_layFirst_132 : decode cX9_layFirst 132 = .ok (.iconst 2, 1) := by decide +kernel
theorem dX9_layFirst_133 : decode cX9_layFirst 133 = .ok (.if_icmp .ne 22, 3) := by decide +kernel
theorem dX9_layFirst_136 : decode cX9_layFirst 136 = .ok (.aload_n 0, 1) := by decide +kernel
theorem dX9_layFirst_137 : decode cX9_layFirst 137 = .ok (.iconst 0, 1) := by decide +kernel
theorem dX9_layFirst_138 : decode cX9_layFirst 138 = .ok (.aload_n 0, 1) := by decide +kernel
theorem dX9_layFirst_139 : decode cX9_layFirst 139 = .ok (.getfield 236, 3) := by decide +kernel
theorem dX9_layFirst_142 : decode cX9_layFirst 142 = .ok (.aload_n 0, 1) := by decide +kernel
theorem dX9_layFirst_143 : decode cX9_layFirst 143 = .ok (.getfield 239, 3) := by decide +kernel
theorem dX9_layFirst_146 : decode cX9_layFirst 146 = .ok (.ldc2_w 242, 3) := by decide +kernel
theorem dX9_layFirst_149 : decode cX9_layFirst 149 = .ok (.invokevirtual 217, 3) := by decide +kernel
theorem dX9_layFirst_152 : decode cX9_layFirst 152 = .ok (.ifCond .eq 7, 3) := by decide +kernel
theorem dX9_layFirst_155 : decode cX9_layFirst 155 = .ok (.iconst 1, 1) := by decide +kernel
theorem dX9_layFirst_156 : decode cX9_layFirst 156 = .ok (.goto 4, 3) := by decide +kernel
theorem dX9_layFirst_159 : decode cX9_layFirst 159 = .ok (.iconst 0, 1) := by decide +kernel
theorem dX9_layFirst_160 : decode cX9_layFirst 160 = .ok (.ireturn, 1) := by decide +kernel
set_option maxRecDepth 20000 in
theorem ggX9_fill_X9_least : GoodIn wsX9_fill wsX9_least := goodIn_r _ [11] (by decide +kernel) (by decide +kernel)
set_option maxRecDepth 20000 in
theorem gX9_fill_X9_least : GoodIn wsX9_fill (va_wsS RX9 178 yX9_least wsX9_least) := goodIn_app (goodIn_of _ (by decide +kernel)) ggX9_fill_X9_least
theorem dX9_fill_0 : decode cX9_fill 0 = .ok (.iconst 0, 1) := by decide +kernel
theorem dX9_fill_1 : decode cX9_fill 1 = .ok (.istore_n 2, 1) := by decide +kernel
theorem dX9_fill_2 : decode cX9_fill 2 = .ok (.iload_n 2, 1) := by decide +kernel
theorem dX9_fill_3 : decode cX9_fill 3 = .ok (.aload_n 0, 1) := by decide +kernel
theorem dX9_fill_4 : decode cX9_fill 4 = .ok (.getfield 133, 3) := by decide +kernel
theorem dX9_fill_7 : decode cX9_fill 7 = .ok (.if_icmp .ge 123, 3) := by decide +kernel
theorem dX9_fill_10 : decode cX9_fill 10 = .ok (.ldc2_w 176, 3) := by decide +kernel
theorem dX9_fill_13 : decode cX9_fill 13 = .ok (.lstore_n 3, 1) := by decide +kernel
theorem dX9_fill_14 : decode cX9_fill 14 = .ok (.iconst 0, 1) := by decide +kernel
theorem dX9_fill_15 : decode cX9_fill 15 = .ok (.istore 5, 2) := by decide +kernel
theorem dX9_fill_17 : decode cX9_fill 17 = .ok (.iload 5, 2) := by decide +kernel
theorem dX9_fill_19 : decode cX9_fill 19 = .ok (.aload_n 0, 1) := by decide +kernel
theorem dX9_fill_20 : decode cX9_fill 20 = .ok (.getfield 133, 3) := by decide +kernel
theorem dX9_fill_23 : decode cX9_fill 23 = .ok (.if_icmp .ge 31, 3) := by decide +kernel
theorem dX9_fill_26 : decode cX9_fill 26 = .ok (.lload_n 3, 1) := by decide +kernel
theorem dX9_fill_27 : decode cX9_fill 27 = .ok (.aload_n 0, 1) := by decide +kernel
theorem dX9_fill_28 : decode cX9_fill 28 = .ok (.getfield 53, 3) := by decide +kernel
theorem dX9_fill_31 : decode cX9_fill 31 = .ok (.bipush 100, 2) := by decide +kernel
theorem dX9_fill_33 : decode cX9_fill 33 = .ok (.iload_n 1, 1) := by decide +kernel
theorem dX9_fill_34 : decode cX9_fill 34 = .ok (.imul, 1) := by decide +kernel
theorem dX9_fill_35 : decode cX9_fill 35 = .ok (.bipush 10, 2) := by decide +kernel
theorem dX9_fill_37 : decode cX9_fill 37 = .ok (.iload_n 2, 1) := by decide +kernel
theorem dX9_fill_38 : decode cX9_fill 38 = .ok (.imul, 1) := by decide +kernel
theorem dX9_fill_39 : decode cX9_fill 39 = .ok (.iadd, 1) := by decide +kernel
theorem dX9_fill_40 : decode cX9_fill 40 = .ok (.iload 5, 2) := by decide +kernel
theorem dX9_fill_42 : decode cX9_fill 42 = .ok (.iadd, 1) := by decide +kernel
theorem dX9_fill_43 : decode cX9_fill 43 = .ok (.laload, 1) := by decide +kernel
theorem dX9_fill_44 : decode cX9_fill 44 = .ok (.invokestatic 178, 3) := by decide +kernel
theorem dX9_fill_47 : decode cX9_fill 47 = .ok (.lstore_n 3, 1) := by decide +kernel
theorem dX9_fill_48 : decode cX9_fill 48 = .ok (.iinc 5 1, 3) := by decide +kernel
theorem dX9_fill_51 : decode cX9_fill 51 = .ok (.goto (-34), 3) := by decide +kernel
theorem dX9_fill_54 : decode cX9_fill 54 = .ok (.aload_n 0, 1) := by decide +kernel
theorem dX9_fill_55 : decode cX9_fill 55 = .ok (.getfield 244, 3) := by decide +kernel
theorem dX9_fill_58 : decode cX9_fill 58 = .ok (.ldc 140, 2) := by decide +kernel
theorem dX9_fill_60 : decode cX9_fill 60 = .ok (.if_icmp .ne 9, 3) := by decide +kernel
theorem dX9_fill_63 : decode cX9_fill 63 = .ok (.ldc2_w 176, 3) := by decide +kernel
theorem dX9_fill_66 : decode cX9_fill 66 = .ok (.goto 22, 3) := by decide +kernel
theorem dX9_fill_69 : decode cX9_fill 69 = .ok (.aload_n 0, 1) := by decide +kernel
theorem dX9_fill_70 : decode cX9_fill 70 = .ok (.getfield 53, 3) := by decide +kernel
theorem dX9_fill_73 : decode cX9_fill 73 = .ok (.bipush 100, 2) := by decide +kernel
theorem dX9_fill_75 : decode cX9_fill 75 = .ok (.iload_n 1, 1) := by decide +kernel
theorem dX9_fill_76 : decode cX9_fill 76 = .ok (.imul, 1) := by decide +kernel
theorem dX9_fill_77 : decode cX9_fill 77 = .ok (.bipush 10, 2) := by decide +kernel
theorem dX9_fill_79 : decode cX9_fill 79 = .ok (.iload_n 2, 1) := by decide +kernel
theorem dX9_fill_80 : decode cX9_fill 80 = .ok (.imul, 1) := by decide +kernel
theorem dX9_fill_81 : decode cX9_fill 81 = .ok (.iadd, 1) := by decide +kernel
theorem dX9_fill_82 : decode cX9_fill 82 = .ok (.aload_n 0, 1) := by decide +kernel
theorem dX9_fill_83 : decode cX9_fill 83 = .ok (.getfield 244, 3) := by decide +kernel
theorem dX9_fill_86 : decode cX9_fill 86 = .ok (.iadd, 1) := by decide +kernel
theorem dX9_fill_87 : decode cX9_fill 87 = .ok (.laload, 1) := by decide +kernel
theorem dX9_fill_88 : decode cX9_fill 88 = .ok (.lstore 5, 2) := by decide +kernel
theorem dX9_fill_90 : decode cX9_fill 90 = .ok (.aload_n 0, 1) := by decide +kernel
theorem dX9_fill_91 : decode cX9_fill 91 = .ok (.getfield 56, 3) := by decide +kernel
theorem dX9_fill_94 : decode cX9_fill 94 = .ok (.bipush 10, 2) := by decide +kernel
theorem dX9_fill_96 : decode cX9_fill 96 = .ok (.iload_n 1, 1) := by decide +kernel
theorem dX9_fill_97 : decode cX9_fill 97 = .ok (.imul, 1) := by decide +kernel
theorem dX9_fill_98 : decode cX9_fill 98 = .ok (.iload_n 2, 1) := by decide +kernel
theorem dX9_fill_99 : decode cX9_fill 99 = .ok (.iadd, 1) := by decide +kernel
theorem dX9_fill_100 : decode cX9_fill 100 = .ok (.aload_n 0, 1) := by decide +kernel
theorem dX9_fill_101 : decode cX9_fill 101 = .ok (.getfield 244, 3) := by decide +kernel
theorem dX9_fill_104 : decode cX9_fill 104 = .ok (.ldc 140, 2) := by decide +kernel
theorem dX9_fill_106 : decode cX9_fill 106 = .ok (.if_icmp .ne 7, 3) := by decide +kernel
theorem dX9_fill_109 : decode cX9_fill 109 = .ok (.lload_n 3, 1) := by decide +kernel
theorem dX9_fill_110 : decode cX9_fill 110 = .ok (.goto 13, 3) := by decide +kernel
theorem dX9_fill_113 : decode cX9_fill 113 = .ok (.lload 5, 2) := by decide +kernel
theorem dX9_fill_115 : decode cX9_fill 115 = .ok (.lload_n 3, 1) := by decide +kernel
theorem dX9_fill_116 : decode cX9_fill 116 = .ok (.ldc2_w 247, 3) := by decide +kernel
theorem dX9_fill_119 : decode cX9_fill 119 = .ok (.ladd, 1) := by decide +kernel
theorem dX9_fill_120 : decode cX9_fill 120 = .ok (.invokestatic 178, 3) := by decide +kernel
theorem dX9_fill_123 : decode cX9_fill 123 = .ok (.lastore, 1) := by decide +kernel
theorem dX9_fill_124 : decode cX9_fill 124 = .ok (.iinc 2 1, 3) := by decide +kernel
theorem dX9_fill_127 : decode cX9_fill 127 = .ok (.goto (-125), 3) := by decide +kernel
theorem dX9_fill_130 : decode cX9_fill 130 = .ok (.return_, 1) := by decide +kernel
theorem dX9_areEven_0 : decode cX9_areEven 0 = .ok (.aload_n 0, 1) := by decide +kernel
theorem dX9_areEven_1 : decode cX9_areEven 1 = .ok (.getfield 56, 3) := by decide +kernel
theorem dX9_areEven_4 : decode cX9_areEven 4 = .ok (.bipush 10, 2) := by decide +kernel
theorem dX9_areEven_6 : decode cX9_areEven 6 = .ok (.iload_n 1, 1) := by decide +kernel
theorem dX9_areEven_7 : decode cX9_areEven 7 = .ok (.imul, 1) := by decide +kernel
theorem dX9_areEven_8 : decode cX9_areEven 8 = .ok (.iload_n 2, 1) := by decide +kernel
theorem dX9_areEven_9 : decode cX9_areEven 9 = .ok (.iadd, 1) := by decide +kernel
theorem dX9_areEven_10 : decode cX9_areEven 10 = .ok (.laload, 1) := by decide +kernel
theorem dX9_areEven_11 : decode cX9_areEven 11 = .ok (.aload_n 0, 1) := by decide +kernel
theorem dX9_areEven_12 : decode cX9_areEven 12 = .ok (.getfield 56, 3) := by decide +kernel
theorem dX9_areEven_15 : decode cX9_areEven 15 = .ok (.bipush 10, 2) := by decide +kernel
theorem dX9_areEven_17 : decode cX9_areEven 17 = .ok (.iload_n 1, 1) := by decide +kernel
theorem dX9_areEven_18 : decode cX9_areEven 18 = .ok (.imul, 1) := by decide +kernel
theorem dX9_areEven_19 : decode cX9_areEven 19 = .ok (.iload_n 3, 1) := by decide +kernel
theorem dX9_areEven_20 : decode cX9_areEven 20 = .ok (.iadd, 1) := by decide +kernel
theorem dX9_areEven_21 : decode cX9_areEven 21 = .ok (.laload, 1) := by decide +kernel
theorem dX9_areEven_22 : decode cX9_areEven 22 = .ok (.lcmp, 1) := by decide +kernel
theorem dX9_areEven_23 : decode cX9_areEven 23 = .ok (.ifCond .ne 7, 3) := by decide +kernel
theorem dX9_areEven_26 : decode cX9_areEven 26 = .ok (.iconst 1, 1) := by decide +kernel
theorem dX9_areEven_27 : decode cX9_areEven 27 = .ok (.goto 4, 3) := by decide +kernel
theorem dX9_areEven_30 : decode cX9_areEven 30 = .ok (.iconst 0, 1) := by decide +kernel
theorem dX9_areEven_31 : decode cX9_areEven 31 = .ok (.ireturn, 1) := by decide +kernel
set_option maxRecDepth 20000 in
theorem ggX9_isBroken_X9_areEven : GoodIn wsX9_isBroken wsX9_areEven := goodIn_r _ [8, 9, 10, 11, 12, 13, 14, 15, 16, 17, 18, 19, 20, 21, 22, 23, 24, 25, 26, 27, 28, 29, 30, 31, 32, 33, 34, 35, 36, 37, 38, 39, 40, 41, 42, 43, 44, 45, 46, 47, 48, 49, 50, 51, 52, 53, 54, 55, 56, 57] (by decide +kernel) (by decide +kernel)
set_option maxRecDepth 20000 in
theorem gX9_isBroken_X9_areEven : GoodIn wsX9_isBroken (wsV RX9 249 RX9 yX9_areEven wsX9_areEven) := goodIn_app (goodIn_of _ (by decide +kernel)) ggX9_isBroken_X9_areEven
theorem dX9_isBroken_0 : decode cX9_isBroken 0 = .ok (.aload_n 0, 1) := by decide +kernel
theorem dX9_isBroken_1 : decode cX9_isBroken 1 = .ok (.getfield 28, 3) := by decide +kernel
theorem dX9_isBroken_4 : decode cX9_isBroken 4 = .ok (.iload_n 2, 1) := by decide +kernel
theorem dX9_isBroken_5 : decode cX9_isBroken 5 = .ok (.iaload, 1) := by decide +kernel
theorem dX9_isBroken_6 : decode cX9_isBroken 6 = .ok (.ifCond .le 52, 3) := by decide +kernel
theorem dX9_isBroken_9 : decode cX9_isBroken 9 = .ok (.aload_n 0, 1) := by decide +kernel
theorem dX9_isBroken_10 : decode cX9_isBroken 10 = .ok (.getfield 28, 3) := by decide +kernel
theorem dX9_isBroken_13 : decode cX9_isBroken 13 = .ok (.iload_n 2, 1) := by decide +kernel
theorem dX9_isBroken_14 : decode cX9_isBroken 14 = .ok (.iaload, 1) := by decide +kernel
theorem dX9_isBroken_15 : decode cX9_isBroken 15 = .ok (.aload_n 0, 1) := by decide +kernel
theorem dX9_isBroken_16 : decode cX9_isBroken 16 = .ok (.getfield 28, 3) := by decide +kernel
theorem dX9_isBroken_19 : decode cX9_isBroken 19 = .ok (.iload_n 3, 1) := by decide +kernel
theorem dX9_isBroken_20 : decode cX9_isBroken 20 = .ok (.iaload, 1) := by decide +kernel
theorem dX9_isBroken_21 : decode cX9_isBroken 21 = .ok (.if_icmp .ne 37, 3) := by decide +kernel
theorem dX9_isBroken_24 : decode cX9_isBroken 24 = .ok (.aload_n 0, 1) := by decide +kernel
theorem dX9_isBroken_25 : decode cX9_isBroken 25 = .ok (.iload_n 1, 1) := by decide +kernel
theorem dX9_isBroken_26 : decode cX9_isBroken 26 = .ok (.iload_n 2, 1) := by decide +kernel
theorem dX9_isBroken_27 : decode cX9_isBroken 27 = .ok (.iload_n 3, 1) := by decide +kernel
theorem dX9_isBroken_28 : decode cX9_isBroken 28 = .ok (.invokevirtual 249, 3) := by decide +kernel
theorem dX9_isBroken_31 : decode cX9_isBroken 31 = .ok (.ifCond .ne 27, 3) := by decide +kernel
theorem dX9_isBroken_34 : decode cX9_isBroken 34 = .ok (.aload_n 0, 1) := by decide +kernel
theorem dX9_isBroken_35 : decode cX9_isBroken 35 = .ok (.iload_n 1, 1) := by decide +kernel
theorem dX9_isBroken_36 : decode cX9_isBroken 36 = .ok (.aload_n 0, 1) := by decide +kernel
theorem dX9_isBroken_37 : decode cX9_isBroken 37 = .ok (.getfield 31, 3) := by decide +kernel
theorem dX9_isBroken_40 : decode cX9_isBroken 40 = .ok (.iload_n 2, 1) := by decide +kernel
theorem dX9_isBroken_41 : decode cX9_isBroken 41 = .ok (.iaload, 1) := by decide +kernel
theorem dX9_isBroken_42 : decode cX9_isBroken 42 = .ok (.aload_n 0, 1) := by decide +kernel
theorem dX9_isBroken_43 : decode cX9_isBroken 43 = .ok (.getfield 31, 3) := by decide +kernel
theorem dX9_isBroken_46 : decode cX9_isBroken 46 = .ok (.iload_n 3, 1) := by decide +kernel
theorem dX9_isBroken_47 : decode cX9_isBroken 47 = .ok (.iaload, 1) := by decide +kernel
theorem dX9_isBroken_48 : decode cX9_isBroken 48 = .ok (.invokevirtual 249, 3) := by decide +kernel
theorem dX9_isBroken_51 : decode cX9_isBroken 51 = .ok (.ifCond .eq 7, 3) := by decide +kernel
theorem dX9_isBroken_54 : decode cX9_isBroken 54 = .ok (.iconst 1, 1) := by decide +kernel
theorem dX9_isBroken_55 : decode cX9_isBroken 55 = .ok (.goto 4, 3) := by decide +kernel
theorem dX9_isBroken_58 : decode cX9_isBroken 58 = .ok (.iconst 0, 1) := by decide +kernel
theorem dX9_isBroken_59 : decode cX9_isBroken 59 = .ok (.istore 4, 2) := by decide +kernel
theorem dX9_isBroken_61 : decode cX9_isBroken 61 = .ok (.iload 4, 2) := by decide +kernel
theorem dX9_isBroken_63 : decode cX9_isBroken 63 = .ok (.ifCond .eq 37, 3) := by decide +kernel
theorem dX9_isBroken_66 : decode cX9_isBroken 66 = .ok (.aload_n 0, 1) := by decide +kernel
theorem dX9_isBroken_67 : decode cX9_isBroken 67 = .ok (.getfield 28, 3) := by decide +kernel
theorem dX9_isBroken_70 : decode cX9_isBroken 70 = .ok (.iload_n 2, 1) := by decide +kernel
theorem dX9_isBroken_71 : decode cX9_isBroken 71 = .ok (.iaload, 1) := by decide +kernel
theorem dX9_isBroken_72 : decode cX9_isBroken 72 = .ok (.iconst 1, 1) := by decide +kernel
theorem dX9_isBroken_73 : decode cX9_isBroken 73 = .ok (.if_icmp .eq 23, 3) := by decide +kernel
theorem dX9_isBroken_76 : decode cX9_isBroken 76 = .ok (.aload_n 0, 1) := by decide +kernel
theorem dX9_isBroken_77 : decode cX9_isBroken 77 = .ok (.iload_n 1, 1) := by decide +kernel
theorem dX9_isBroken_78 : decode cX9_isBroken 78 = .ok (.aload_n 0, 1) := by decide +kernel
theorem dX9_isBroken_79 : decode cX9_isBroken 79 = .ok (.getfield 34, 3) := by decide +kernel
theorem dX9_isBroken_82 : decode cX9_isBroken 82 = .ok (.iload_n 2, 1) := by decide +kernel
theorem dX9_isBroken_83 : decode cX9_isBroken 83 = .ok (.iaload, 1) := by decide +kernel
theorem dX9_isBroken_84 : decode cX9_isBroken 84 = .ok (.aload_n 0, 1) := by decide +kernel
theorem dX9_isBroken_85 : decode cX9_isBroken 85 = .ok (.getfield 34, 3) := by decide +kernel
theorem dX9_isBroken_88 : decode cX9_isBroken 88 = .ok (.iload_n 3, 1) := by decide +kernel
theorem dX9_isBroken_89 : decode cX9_isBroken 89 = .ok (.iaload, 1) := by decide +kernel
theorem dX9_isBroken_90 : decode cX9_isBroken 90 = .ok (.invokevirtual 249, 3) := by decide +kernel
theorem dX9_isBroken_93 : decode cX9_isBroken 93 = .ok (.ifCond .eq 7, 3) := by decide +kernel
theorem dX9_isBroken_96 : decode cX9_isBroken 96 = .ok (.iconst 1, 1) := by decide +kernel
theorem dX9_isBroken_97 : decode cX9_isBroken 97 = .ok (.goto 4, 3) := by decide +kernel
theorem dX9_isBroken_100 : decode cX9_isBroken 100 = .ok (.iconst 0, 1) := by decide +kernel
theorem dX9_isBroken_101 : decode cX9_isBroken 101 = .ok (.ireturn, 1) := by decide +kernel
theorem dX9_splits_0 : decode cX9_splits 0 = .ok (.aload_n 0, 1) := by decide +kernel
theorem dX9_splits_1 : decode cX9_splits 1 = .ok (.getfield 59, 3) := by decide +kernel
theorem dX9_splits_4 : decode cX9_splits 4 = .ok (.iload_n 1, 1) := by decide +kernel
theorem dX9_splits_5 : decode cX9_splits 5 = .ok (.iload_n 2, 1) := by decide +kernel
theorem dX9_splits_6 : decode cX9_splits 6 = .ok (.iastore, 1) := by decide +kernel
theorem dX9_splits_7 : decode cX9_splits 7 = .ok (.aload_n 0, 1) := by decide +kernel
theorem dX9_splits_8 : decode cX9_splits 8 = .ok (.getfield 62, 3) := by decide +kernel
theorem dX9_splits_11 : decode cX9_splits 11 = .ok (.iload_n 1, 1) := by decide +kernel
theorem dX9_splits_12 : decode cX9_splits 12 = .ok (.iload_n 3, 1) := by decide +kernel
theorem dX9_splits_13 : decode cX9_splits 13 = .ok (.iastore, 1) := by decide +kernel
theorem dX9_splits_14 : decode cX9_splits 14 = .ok (.aload_n 0, 1) := by decide +kernel
theorem dX9_splits_15 : decode cX9_splits 15 = .ok (.getfield 65, 3) := by decide +kernel
theorem dX9_splits_18 : decode cX9_splits 18 = .ok (.iload_n 1, 1) := by decide +kernel
theorem dX9_splits_19 : decode cX9_splits 19 = .ok (.iload 4, 2) := by decide +kernel
theorem dX9_splits_21 : decode cX9_splits 21 = .ok (.iastore, 1) := by decide +kernel
theorem dX9_splits_22 : decode cX9_splits 22 = .ok (.iconst 1, 1) := by decide +kernel
theorem dX9_splits_23 : decode cX9_splits 23 = .ok (.ireturn, 1) := by decide +kernel
set_option maxRecDepth 20000 in
theorem ggX9_findsSplit_X9_has : GoodIn wsX9_findsSplit wsX9_has := goodIn_r _ [16] (by decide +kernel) (by decide +kernel)
set_option maxRecDepth 20000 in
theorem gX9_findsSplit_X9_has : GoodIn wsX9_findsSplit (va_wsS RX9 224 yX9_has wsX9_has) := goodIn_app (goodIn_of _ (by decide +kernel)) ggX9_findsSplit_X9_has
set_option maxRecDepth 20000 in
theorem ggX9_findsSplit_X9_areEven : GoodIn wsX9_findsSplit wsX9_areEven := goodIn_r _ [20, 21, 36, 37, 38, 39, 40, 41, 42, 43, 44, 45, 46, 47, 48, 49, 50, 51, 52, 53, 54, 55, 56, 57, 58, 59, 60, 61, 62, 63, 64, 65, 66, 67, 68, 69, 70, 71, 72, 73, 74, 75, 76, 77, 78, 79, 80, 81, 82, 83] (by decide +kernel) (by decide +kernel)
set_option maxRecDepth 20000 in
theorem gX9_findsSplit_X9_areEven : GoodIn wsX9_findsSplit (wsV RX9 249 RX9 yX9_areEven wsX9_areEven) := goodIn_app (goodIn_of _ (by decide +kernel)) ggX9_findsSplit_X9_areEven
set_option maxRecDepth 20000 in
theorem ggX9_findsSplit_X9_splits : GoodIn wsX9_findsSplit wsX9_splits := goodIn_r _ [25, 26, 27, 28, 36, 37, 38, 39, 40, 41, 42, 43, 44, 45, 46, 47, 48, 49, 50, 51, 52, 53, 54, 55, 56, 57, 58, 59, 60, 61, 62, 63, 64, 65, 66, 67, 68, 69, 70, 71, 72, 73, 74, 75, 76, 77, 78, 79, 80, 81, 82, 83] (by decide +kernel) (by decide +kernel)
set_option maxRecDepth 20000 in
theorem gX9_findsSplit_X9_splits : GoodIn wsX9_findsSplit (wsV RX9 252 RX9 yX9_splits wsX9_splits) := goodIn_app (goodIn_of _ (by decide +kernel)) ggX9_findsSplit_X9_splits
set_option maxRecDepth 20000 in
theorem ggX9_findsSplit_X9_isBroken : GoodIn wsX9_findsSplit wsX9_isBroken := goodIn_r _ [32, 33, 34, 35, 17, 18, 19, 15, 20, 21, 36, 37, 38, 39, 40, 41, 42, 43, 44, 45, 46, 47, 48, 49, 50, 51, 52, 53, 54, 55, 56, 57, 58, 59, 60, 61, 62, 63, 64, 65, 66, 67, 68, 69, 70, 71, 72, 73, 74, 75, 76, 77, 78, 79, 80, 81, 82, 83] (by decide +kernel) (by decide +kernel)
set_option maxRecDepth 20000 in
theorem gX9_findsSplit_X9_isBroken : GoodIn wsX9_findsSplit (wsV RX9 262 RX9 yX9_isBroken wsX9_isBroken) := goodIn_app (goodIn_of _ (by decide +kernel)) ggX9_findsSplit_X9_isBroken
theorem dX9_findsSplit_0 : decode cX9_findsSplit 0 = .ok (.iconst 0, 1) := by decide +kernel
theorem dX9_findsSplit_1 : decode cX9_findsSplit 1 = .ok (.istore_n 2, 1) := by decide +kernel
theorem dX9_findsSplit_2 : decode cX9_findsSplit 2 = .ok (.iload_n 2, 1) := by decide +kernel
theorem dX9_findsSplit_3 : decode cX9_findsSplit 3 = .ok (.aload_n 0, 1) := by decide +kernel
theorem dX9_findsSplit_4 : decode cX9_findsSplit 4 = .ok (.getfield 141, 3) := by decide +kernel
theorem dX9_findsSplit_7 : decode cX9_findsSplit 7 = .ok (.if_icmp .ge 69, 3) := by decide +kernel
theorem dX9_findsSplit_10 : decode cX9_findsSplit 10 = .ok (.aload_n 0, 1) := by decide +kernel
theorem dX9_findsSplit_11 : decode cX9_findsSplit 11 = .ok (.getfield 221, 3) := by decide +kernel
theorem dX9_findsSplit_14 : decode cX9_findsSplit 14 = .ok (.iload_n 2, 1) := by decide +kernel
theorem dX9_findsSplit_15 : decode cX9_findsSplit 15 = .ok (.invokestatic 224, 3) := by decide +kernel
theorem dX9_findsSplit_18 : decode cX9_findsSplit 18 = .ok (.ifCond .eq 52, 3) := by decide +kernel
theorem dX9_findsSplit_21 : decode cX9_findsSplit 21 = .ok (.aload_n 0, 1) := by decide +kernel
theorem dX9_findsSplit_22 : decode cX9_findsSplit 22 = .ok (.getfield 19, 3) := by decide +kernel
theorem dX9_findsSplit_25 : decode cX9_findsSplit 25 = .ok (.iload_n 2, 1) := by decide +kernel
theorem dX9_findsSplit_26 : decode cX9_findsSplit 26 = .ok (.iaload, 1) := by decide +kernel
theorem dX9_findsSplit_27 : decode cX9_findsSplit 27 = .ok (.iconst 1, 1) := by decide +kernel
theorem dX9_findsSplit_28 : decode cX9_findsSplit 28 = .ok (.if_icmp .ne 42, 3) := by decide +kernel
theorem dX9_findsSplit_31 : decode cX9_findsSplit 31 = .ok (.aload_n 0, 1) := by decide +kernel
theorem dX9_findsSplit_32 : decode cX9_findsSplit 32 = .ok (.iload_n 1, 1) := by decide +kernel
theorem dX9_findsSplit_33 : decode cX9_findsSplit 33 = .ok (.aload_n 0, 1) := by decide +kernel
theorem dX9_findsSplit_34 : decode cX9_findsSplit 34 = .ok (.getfield 37, 3) := by decide +kernel
theorem dX9_findsSplit_37 : decode cX9_findsSplit 37 = .ok (.iload_n 2, 1) := by decide +kernel
theorem dX9_findsSplit_38 : decode cX9_findsSplit 38 = .ok (.iaload, 1) := by decide +kernel
theorem dX9_findsSplit_39 : decode cX9_findsSplit 39 = .ok (.aload_n 0, 1) := by decide +kernel
theorem dX9_findsSplit_40 : decode cX9_findsSplit 40 = .ok (.getfield 40, 3) := by decide +kernel
theorem dX9_findsSplit_43 : decode cX9_findsSplit 43 = .ok (.iload_n 2, 1) := by decide +kernel
theorem dX9_findsSplit_44 : decode cX9_findsSplit 44 = .ok (.iaload, 1) := by decide +kernel
theorem dX9_findsSplit_45 : decode cX9_findsSplit 45 = .ok (.invokevirtual 249, 3) := by decide +kernel
theorem dX9_findsSplit_48 : decode cX9_findsSplit 48 = .ok (.ifCond .eq 22, 3) := by decide +kernel
theorem dX9_findsSplit_51 : decode cX9_findsSplit 51 = .ok (.aload_n 0, 1) := by decide +kernel
theorem dX9_findsSplit_52 : decode cX9_findsSplit 52 = .ok (.iload_n 1, 1) := by decide +kernel
theorem dX9_findsSplit_53 : decode cX9_findsSplit 53 = .ok (.iconst 0, 1) := by decide +kernel
theorem dX9_findsSplit_54 : decode cX9_findsSplit 54 = .ok (.aload_n 0, 1) := by decide +kernel
theorem dX9_findsSplit_55 : decode cX9_findsSplit 55 = .ok (.getfield 37, 3) := by decide +kernel
theorem dX9_findsSplit_58 : decode cX9_findsSplit 58 = .ok (.iload_n 2, 1) := by decide +kernel
theorem dX9_findsSplit_59 : decode cX9_findsSplit 59 = .ok (.iaload, 1) := by decide +kernel
theorem dX9_findsSplit_60 : decode cX9_findsSplit 60 = .ok (.aload_n 0, 1) := by decide +kernel
theorem dX9_findsSplit_61 : decode cX9_findsSplit 61 = .ok (.getfield 40, 3) := by decide +kernel
theorem dX9_findsSplit_64 : decode cX9_findsSplit 64 = .ok (.iload_n 2, 1) := by decide +kernel
theorem dX9_findsSplit_65 : decode cX9_findsSplit 65 = .ok (.iaload, 1) := by decide +kernel
theorem dX9_findsSplit_66 : decode cX9_findsSplit 66 = .ok (.invokevirtual 252, 3) := by decide +kernel
theorem dX9_findsSplit_69 : decode cX9_findsSplit 69 = .ok (.ireturn, 1) := by decide +kernel
theorem dX9_findsSplit_70 : decode cX9_findsSplit 70 = .ok (.iinc 2 1, 3) := by decide +kernel
theorem dX9_findsSplit_73 : decode cX9_findsSplit 73 = .ok (.goto (-71), 3) := by decide +kernel
theorem dX9_findsSplit_76 : decode cX9_findsSplit 76 = .ok (.aload_n 0, 1) := by decide +kernel
theorem dX9_findsSplit_77 : decode cX9_findsSplit 77 = .ok (.getfield 233, 3) := by decide +kernel
theorem dX9_findsSplit_80 : decode cX9_findsSplit 80 = .ok (.iconst 1, 1) := by decide +kernel
theorem dX9_findsSplit_81 : decode cX9_findsSplit 81 = .ok (.if_icmp .ne 34, 3) := by decide +kernel
theorem dX9_findsSplit_84 : decode cX9_findsSplit 84 = .ok (.aload_n 0, 1) := by decide +kernel
theorem dX9_findsSplit_85 : decode cX9_findsSplit 85 = .ok (.iload_n 1, 1) := by decide +kernel
theorem dX9_findsSplit_86 : decode cX9_findsSplit 86 = .ok (.aload_n 0, 1) := by decide +kernel
theorem dX9_findsSplit_87 : decode cX9_findsSplit 87 = .ok (.getfield 236, 3) := by decide +kernel
theorem dX9_findsSplit_90 : decode cX9_findsSplit 90 = .ok (.aload_n 0, 1) := by decide +kernel
theorem dX9_findsSplit_91 : decode cX9_findsSplit 91 = .ok (.getfield 239, 3) := by decide +kernel
theorem dX9_findsSplit_94 : decode cX9_findsSplit 94 = .ok (.invokevirtual 249, 3) := by decide +kernel
theorem dX9_findsSplit_97 : decode cX9_findsSplit 97 = .ok (.ifCond .eq 18, 3) := by decide +kernel
theorem dX9_findsSplit_100 : decode cX9_findsSplit 100 = .ok (.aload_n 0, 1) := by decide +kernel
theorem dX9_findsSplit_101 : decode cX9_findsSplit 101 = .ok (.iload_n 1, 1) := by decide +kernel
theorem dX9_findsSplit_102 : decode cX9_findsSplit 102 = .ok (.iconst 0, 1) := by decide +kernel
theorem dX9_findsSplit_103 : decode cX9_findsSplit 103 = .ok (.aload_n 0, 1) := by decide +kernel
theorem dX9_findsSplit_104 : decode cX9_findsSplit 104 = .ok (.getfield 236, 3) := by decide +kernel
theorem dX9_findsSplit_107 : decode cX9_findsSplit 107 = .ok (.aload_n 0, 1) := by decide +kernel
theorem dX9_findsSplit_108 : decode cX9_findsSplit 108 = .ok (.getfield 239, 3) := by decide +kernel
theorem dX9_findsSplit_111 : decode cX9_findsSplit 111 = .ok (.invokevirtual 252, 3) := by decide +kernel
theorem dX9_findsSplit_114 : decode cX9_findsSplit 114 = .ok (.ireturn, 1) := by decide +kernel
theorem dX9_findsSplit_115 : decode cX9_findsSplit 115 = .ok (.aload_n 0, 1) := by decide +kernel
theorem dX9_findsSplit_116 : decode cX9_findsSplit 116 = .ok (.getfield 256, 3) := by decide +kernel
theorem dX9_findsSplit_119 : decode cX9_findsSplit 119 = .ok (.ldc 140, 2) := by decide +kernel
theorem dX9_findsSplit_121 : decode cX9_findsSplit 121 = .ok (.if_icmp .eq 34, 3) := by decide +kernel
theorem dX9_findsSplit_124 : decode cX9_findsSplit 124 = .ok (.aload_n 0, 1) := by decide +kernel
theorem dX9_findsSplit_125 : decode cX9_findsSplit 125 = .ok (.iload_n 1, 1) := by decide +kernel
theorem dX9_findsSplit_126 : decode cX9_findsSplit 126 = .ok (.aload_n 0, 1) := by decide +kernel
theorem dX9_findsSplit_127 : decode cX9_findsSplit 127 = .ok (.getfield 256, 3) := by decide +kernel
theorem dX9_findsSplit_130 : decode cX9_findsSplit 130 = .ok (.aload_n 0, 1) := by decide +kernel
theorem dX9_findsSplit_131 : decode cX9_findsSplit 131 = .ok (.getfield 259, 3) := by decide +kernel
theorem dX9_findsSplit_134 : decode cX9_findsSplit 134 = .ok (.invokevirtual 249, 3) := by decide +kernel
theorem dX9_findsSplit_137 : decode cX9_findsSplit 137 = .ok (.ifCond .eq 18, 3) := by decide +kernel
theorem dX9_findsSplit_140 : decode cX9_findsSplit 140 = .ok (.aload_n 0, 1) := by decide +kernel
theorem dX9_findsSplit_141 : decode cX9_findsSplit 141 = .ok (.iload_n 1, 1) := by decide +kernel
theorem dX9_findsSplit_142 : decode cX9_findsSplit 142 = .ok (.iconst 0, 1) := by decide +kernel
theorem dX9_findsSplit_143 : decode cX9_findsSplit 143 = .ok (.aload_n 0, 1) := by decide +kernel
theorem dX9_findsSplit_144 : decode cX9_findsSplit 144 = .ok (.getfield 256, 3) := by decide +kernel
theorem dX9_findsSplit_147 : decode cX9_findsSplit 147 = .ok (.aload_n 0, 1) := by decide +kernel
theorem dX9_findsSplit_148 : decode cX9_findsSplit 148 = .ok (.getfield 259, 3) := by decide +kernel
theorem dX9_findsSplit_151 : decode cX9_findsSplit 151 = .ok (.invokevirtual 252, 3) := by decide +kernel
theorem dX9_findsSplit_154 : decode cX9_findsSplit 154 = .ok (.ireturn, 1) := by decide +kernel
theorem dX9_findsSplit_155 : decode cX9_findsSplit 155 = .ok (.iconst 5, 1) := by decide +kernel
theorem dX9_findsSplit_156 : decode cX9_findsSplit 156 = .ok (.istore_n 2, 1) := by decide +kernel
theorem dX9_findsSplit_157 : decode cX9_findsSplit 157 = .ok (.iload_n 2, 1) := by decide +kernel
theorem dX9_findsSplit_158 : decode cX9_findsSplit 158 = .ok (.aload_n 0, 1) := by decide +kernel
theorem dX9_findsSplit_159 : decode cX9_findsSplit 159 = .ok (.getfield 133, 3) := by decide +kernel
theorem dX9_findsSplit_162 : decode cX9_findsSplit 162 = .ok (.if_icmp .ge 41, 3) := by decide +kernel
theorem dX9_findsSplit_165 : decode cX9_findsSplit 165 = .ok (.iconst 5, 1) := by decide +kernel
theorem dX9_findsSplit_166 : decode cX9_findsSplit 166 = .ok (.istore_n 3, 1) := by decide +kernel
theorem dX9_findsSplit_167 : decode cX9_findsSplit 167 = .ok (.iload_n 3, 1) := by decide +kernel
theorem dX9_findsSplit_168 : decode cX9_findsSplit 168 = .ok (.iload_n 2, 1) := by decide +kernel
theorem dX9_findsSplit_169 : decode cX9_findsSplit 169 = .ok (.if_icmp .ge 28, 3) := by decide +kernel
theorem dX9_findsSplit_172 : decode cX9_findsSplit 172 = .ok (.aload_n 0, 1) := by decide +kernel
theorem dX9_findsSplit_173 : decode cX9_findsSplit 173 = .ok (.iload_n 1, 1) := by decide +kernel
theorem dX9_findsSplit_174 : decode cX9_findsSplit 174 = .ok (.iload_n 2, 1) := by decide +kernel
theorem dX9_findsSplit_175 : decode cX9_findsSplit 175 = .ok (.iload_n 3, 1) := by decide +kernel
theorem dX9_findsSplit_176 : decode cX9_findsSplit 176 = .ok (.invokevirtual 262, 3) := by decide +kernel
theorem dX9_findsSplit_179 : decode cX9_findsSplit 179 = .ok (.ifCond .eq 12, 3) := by decide +kernel
theorem dX9_findsSplit_182 : decode cX9_findsSplit 182 = .ok (.aload_n 0, 1) := by decide +kernel
theorem dX9_findsSplit_183 : decode cX9_findsSplit 183 = .ok (.iload_n 1, 1) := by decide +kernel
theorem dX9_findsSplit_184 : decode cX9_findsSplit 184 = .ok (.iconst 1, 1) := by decide +kernel
theorem dX9_findsSplit_185 : decode cX9_findsSplit 185 = .ok (.iload_n 2, 1) := by decide +kernel
theorem dX9_findsSplit_186 : decode cX9_findsSplit 186 = .ok (.iload_n 3, 1) := by decide +kernel
theorem dX9_findsSplit_187 : decode cX9_findsSplit 187 = .ok (.invokevirtual 252, 3) := by decide +kernel
theorem dX9_findsSplit_190 : decode cX9_findsSplit 190 = .ok (.ireturn, 1) := by decide +kernel
theorem dX9_findsSplit_191 : decode cX9_findsSplit 191 = .ok (.iinc 3 1, 3) := by decide +kernel
theorem dX9_findsSplit_194 : decode cX9_findsSplit 194 = .ok (.goto (-27), 3) := by decide +kernel
theorem dX9_findsSplit_197 : decode cX9_findsSplit 197 = .ok (.iinc 2 1, 3) := by decide +kernel
theorem dX9_findsSplit_200 : decode cX9_findsSplit 200 = .ok (.goto (-43), 3) := by decide +kernel
theorem dX9_findsSplit_203 : decode cX9_findsSplit 203 = .ok (.iconst 0, 1) := by decide +kernel
theorem dX9_findsSplit_204 : decode cX9_findsSplit 204 = .ok (.ireturn, 1) := by decide +kernel
set_option maxRecDepth 20000 in
theorem ggX9_takesSide_X9_bound : GoodIn wsX9_takesSide wsX9_bound := goodIn_r _ [13, 3, 14, 15, 16, 17, 12, 18, 23, 24, 25, 26, 27, 28, 29, 30, 31, 32, 33, 34, 35, 36, 37, 38, 39, 40, 41, 42, 43, 44, 45, 46, 47, 48, 49, 50, 51, 52, 53, 54, 55, 56, 57, 58, 59, 60, 61, 62, 63, 64, 65, 66, 67, 68, 69, 70] (by decide +kernel) (by decide +kernel)
set_option maxRecDepth 20000 in
theorem gX9_takesSide_X9_bound : GoodIn wsX9_takesSide (wsV RX9 217 RX9 yX9_bound wsX9_bound) := goodIn_app (goodIn_of _ (by decide +kernel)) ggX9_takesSide_X9_bound
set_option maxRecDepth 20000 in
theorem ggX9_takesSide_X9_boundBoth : GoodIn wsX9_takesSide wsX9_boundBoth := goodIn_r _ [22, 9, 10, 11, 12, 13, 3, 14, 15, 16, 17, 18, 23, 24, 25, 26, 27, 28, 29, 30, 31, 32, 33, 34, 35, 36, 37, 38, 39, 40, 41, 42, 43, 44, 45, 46, 47, 48, 49, 50, 51, 52, 53, 54, 55, 56, 57, 58, 59, 60, 61, 62, 63, 64, 65, 66, 67, 68, 69, 70] (by decide +kernel) (by decide +kernel)
set_option maxRecDepth 20000 in
theorem gX9_takesSide_X9_boundBoth : GoodIn wsX9_takesSide (wsV RX9 227 RX9 yX9_boundBoth wsX9_boundBoth) := goodIn_app (goodIn_of _ (by decide +kernel)) ggX9_takesSide_X9_boundBoth
theorem dX9_takesSide_0 : decode cX9_takesSide 0 = .ok (.aload_n 0, 1) := by decide +kernel
theorem dX9_takesSide_1 : decode cX9_takesSide 1 = .ok (.getfield 62, 3) := by decide +kernel
theorem dX9_takesSide_4 : decode cX9_takesSide 4 = .ok (.iload_n 1, 1) := by decide +kernel
theorem dX9_takesSide_5 : decode cX9_takesSide 5 = .ok (.iaload, 1) := by decide +kernel
theorem dX9_takesSide_6 : decode cX9_takesSide 6 = .ok (.istore_n 3, 1) := by decide +kernel
theorem dX9_takesSide_7 : decode cX9_takesSide 7 = .ok (.aload_n 0, 1) := by decide +kernel
theorem dX9_takesSide_8 : decode cX9_takesSide 8 = .ok (.getfield 65, 3) := by decide +kernel
theorem dX9_takesSide_11 : decode cX9_takesSide 11 = .ok (.iload_n 1, 1) := by decide +kernel
theorem dX9_takesSide_12 : decode cX9_takesSide 12 = .ok (.iaload, 1) := by decide +kernel
theorem dX9_takesSide_13 : decode cX9_takesSide 13 = .ok (.istore 4, 2) := by decide +kernel
theorem dX9_takesSide_15 : decode cX9_takesSide 15 = .ok (.iconst 0, 1) := by decide +kernel
theorem dX9_takesSide_16 : decode cX9_takesSide 16 = .ok (.istore 5, 2) := by decide +kernel
theorem dX9_takesSide_18 : decode cX9_takesSide 18 = .ok (.iload 5, 2) := by decide +kernel
theorem dX9_takesSide_20 : decode cX9_takesSide 20 = .ok (.bipush 100, 2) := by decide +kernel
theorem dX9_takesSide_22 : decode cX9_takesSide 22 = .ok (.if_icmp .ge 36, 3) := by decide +kernel
theorem dX9_takesSide_25 : decode cX9_takesSide 25 = .ok (.aload_n 0, 1) := by decide +kernel
theorem dX9_takesSide_26 : decode cX9_takesSide 26 = .ok (.getfield 53, 3) := by decide +kernel
theorem dX9_takesSide_29 : decode cX9_takesSide 29 = .ok (.bipush 100, 2) := by decide +kernel
theorem dX9_takesSide_31 : decode cX9_takesSide 31 = .ok (.iload_n 1, 1) := by decide +kernel
theorem dX9_takesSide_32 : decode cX9_takesSide 32 = .ok (.imul, 1) := by decide +kernel
theorem dX9_takesSide_33 : decode cX9_takesSide 33 = .ok (.bipush 100, 2) := by decide +kernel
theorem dX9_takesSide_35 : decode cX9_takesSide 35 = .ok (.iadd, 1) := by decide +kernel
theorem dX9_takesSide_36 : decode cX9_takesSide 36 = .ok (.iload 5, 2) := by decide +kernel
theorem dX9_takesSide_38 : decode cX9_takesSide 38 = .ok (.iadd, 1) := by decide +kernel
theorem dX9_takesSide_39 : decode cX9_takesSide 39 = .ok (.aload_n 0, 1) := by decide +kernel
theorem dX9_takesSide_40 : decode cX9_takesSide 40 = .ok (.getfield 53, 3) := by decide +kernel
theorem dX9_takesSide_43 : decode cX9_takesSide 43 = .ok (.bipush 100, 2) := by decide +kernel
theorem dX9_takesSide_45 : decode cX9_takesSide 45 = .ok (.iload_n 1, 1) := by decide +kernel
theorem dX9_takesSide_46 : decode cX9_takesSide 46 = .ok (.imul, 1) := by decide +kernel
theorem dX9_takesSide_47 : decode cX9_takesSide 47 = .ok (.iload 5, 2) := by decide +kernel
theorem dX9_takesSide_49 : decode cX9_takesSide 49 = .ok (.iadd, 1) := by decide +kernel
theorem dX9_takesSide_50 : decode cX9_takesSide 50 = .ok (.laload, 1) := by decide +kernel
theorem dX9_takesSide_51 : decode cX9_takesSide 51 = .ok (.lastore, 1) := by decide +kernel
theorem dX9_takesSide_52 : decode cX9_takesSide 52 = .ok (.iinc 5 1, 3) := by decide +kernel
theorem dX9_takesSide_55 : decode cX9_takesSide 55 = .ok (.goto (-37), 3) := by decide +kernel
theorem dX9_takesSide_58 : decode cX9_takesSide 58 = .ok (.aload_n 0, 1) := by decide +kernel
theorem dX9_takesSide_59 : decode cX9_takesSide 59 = .ok (.getfield 59, 3) := by decide +kernel
theorem dX9_takesSide_62 : decode cX9_takesSide 62 = .ok (.iload_n 1, 1) := by decide +kernel
theorem dX9_takesSide_63 : decode cX9_takesSide 63 = .ok (.iaload, 1) := by decide +kernel
theorem dX9_takesSide_64 : decode cX9_takesSide 64 = .ok (.ifCond .ne 50, 3) := by decide +kernel
theorem dX9_takesSide_67 : decode cX9_takesSide 67 = .ok (.iload_n 2, 1) := by decide +kernel
theorem dX9_takesSide_68 : decode cX9_takesSide 68 = .ok (.ifCond .ne 19, 3) := by decide +kernel
theorem dX9_takesSide_71 : decode cX9_takesSide 71 = .ok (.aload_n 0, 1) := by decide +kernel
theorem dX9_takesSide_72 : decode cX9_takesSide 72 = .ok (.iload_n 1, 1) := by decide +kernel
theorem dX9_takesSide_73 : decode cX9_takesSide 73 = .ok (.iconst 1, 1) := by decide +kernel
theorem dX9_takesSide_74 : decode cX9_takesSide 74 = .ok (.iadd, 1) := by decide +kernel
theorem dX9_takesSide_75 : decode cX9_takesSide 75 = .ok (.iload_n 3, 1) := by decide +kernel
theorem dX9_takesSide_76 : decode cX9_takesSide 76 = .ok (.iload 4, 2) := by decide +kernel
theorem dX9_takesSide_78 : decode cX9_takesSide 78 = .ok (.ldc2_w 242, 3) := by decide +kernel
theorem dX9_takesSide_81 : decode cX9_takesSide 81 = .ok (.invokevirtual 217, 3) := by decide +kernel
theorem dX9_takesSide_84 : decode cX9_takesSide 84 = .ok (.goto 29, 3) := by decide +kernel
theorem dX9_takesSide_87 : decode cX9_takesSide 87 = .ok (.iload_n 2, 1) := by decide +kernel
theorem dX9_takesSide_88 : decode cX9_takesSide 88 = .ok (.iconst 1, 1) := by decide +kernel
theorem dX9_takesSide_89 : decode cX9_takesSide 89 = .ok (.if_icmp .ne 23, 3) := by decide +kernel
theorem dX9_takesSide_92 : decode cX9_takesSide 92 = .ok (.aload_n 0, 1) := by decide +kernel
theorem dX9_takesSide_93 : decode cX9_takesSide 93 = .ok (.iload_n 1, 1) := by decide +kernel
theorem dX9_takesSide_94 : decode cX9_takesSide 94 = .ok (.iconst 1, 1) := by decide +kernel
theorem dX9_takesSide_95 : decode cX9_takesSide 95 = .ok (.iadd, 1) := by decide +kernel
theorem dX9_takesSide_96 : decode cX9_takesSide 96 = .ok (.iload 4, 2) := by decide +kernel
theorem dX9_takesSide_98 : decode cX9_takesSide 98 = .ok (.iload_n 3, 1) := by decide +kernel
theorem dX9_takesSide_99 : decode cX9_takesSide 99 = .ok (.ldc2_w 242, 3) := by decide +kernel
theorem dX9_takesSide_102 : decode cX9_takesSide 102 = .ok (.invokevirtual 217, 3) := by decide +kernel
theorem dX9_takesSide_105 : decode cX9_takesSide 105 = .ok (.ifCond .eq 7, 3) := by decide +kernel
theorem dX9_takesSide_108 : decode cX9_takesSide 108 = .ok (.iconst 1, 1) := by decide +kernel
theorem dX9_takesSide_109 : decode cX9_takesSide 109 = .ok (.goto 4, 3) := by decide +kernel
theorem dX9_takesSide_112 : decode cX9_takesSide 112 = .ok (.iconst 0, 1) := by decide +kernel
theorem dX9_takesSide_113 : decode cX9_takesSide 113 = .ok (.ireturn, 1) := by decide +kernel
theorem dX9_takesSide_114 : decode cX9_takesSide 114 = .ok (.iload_n 2, 1) := by decide +kernel
theorem dX9_takesSide_115 : decode cX9_takesSide 115 = .ok (.iconst 4, 1) := by decide +kernel
theorem dX9_takesSide_116 : decode cX9_takesSide 116 = .ok (.if_icmp .ne 14, 3) := by decide +kernel
theorem dX9_takesSide_119 : decode cX9_takesSide 119 = .ok (.aload_n 0, 1) := by decide +kernel
theorem dX9_takesSide_120 : decode cX9_takesSide 120 = .ok (.iload_n 1, 1) := by decide +kernel
theorem dX9_takesSide_121 : decode cX9_takesSide 121 = .ok (.iconst 1, 1) := by decide +kernel
theorem dX9_takesSide_122 : decode cX9_takesSide 122 = .ok (.iadd, 1) := by decide +kernel
theorem dX9_takesSide_123 : decode cX9_takesSide 123 = .ok (.iload_n 3, 1) := by decide +kernel
theorem dX9_takesSide_124 : decode cX9_takesSide 124 = .ok (.iload 4, 2) := by decide +kernel
theorem dX9_takesSide_126 : decode cX9_takesSide 126 = .ok (.invokevirtual 227, 3) := by decide +kernel
theorem dX9_takesSide_129 : decode cX9_takesSide 129 = .ok (.ireturn, 1) := by decide +kernel
theorem dX9_takesSide_130 : decode cX9_takesSide 130 = .ok (.iload_n 2, 1) := by decide +kernel
theorem dX9_takesSide_131 : decode cX9_takesSide 131 = .ok (.iconst 1, 1) := by decide +kernel
theorem dX9_takesSide_132 : decode cX9_takesSide 132 = .ok (.if_icmp .le 15, 3) := by decide +kernel
theorem dX9_takesSide_135 : decode cX9_takesSide 135 = .ok (.aload_n 0, 1) := by decide +kernel
theorem dX9_takesSide_136 : decode cX9_takesSide 136 = .ok (.getfield 28, 3) := by decide +kernel
theorem dX9_takesSide_139 : decode cX9_takesSide 139 = .ok (.iload_n 3, 1) := by decide +kernel
theorem dX9_takesSide_140 : decode cX9_takesSide 140 = .ok (.iaload, 1) := by decide +kernel
theorem dX9_takesSide_141 : decode cX9_takesSide 141 = .ok (.iconst 1, 1) := by decide +kernel
theorem dX9_takesSide_142 : decode cX9_takesSide 142 = .ok (.if_icmp .ne 5, 3) := by decide +kernel
theorem dX9_takesSide_145 : decode cX9_takesSide 145 = .ok (.iconst 0, 1) := by decide +kernel
theorem dX9_takesSide_146 : decode cX9_takesSide 146 = .ok (.ireturn, 1) := by decide +kernel
theorem dX9_takesSide_147 : decode cX9_takesSide 147 = .ok (.iload_n 2, 1) := by decide +kernel
theorem dX9_takesSide_148 : decode cX9_takesSide 148 = .ok (.iconst 2, 1) := by decide +kernel
theorem dX9_takesSide_149 : decode cX9_takesSide 149 = .ok (.if_icmp .ge 12, 3) := by decide +kernel
theorem dX9_takesSide_152 : decode cX9_takesSide 152 = .ok (.aload_n 0, 1) := by decide +kernel
theorem dX9_takesSide_153 : decode cX9_takesSide 153 = .ok (.getfield 31, 3) := by decide +kernel
theorem dX9_takesSide_156 : decode cX9_takesSide 156 = .ok (.iload_n 3, 1) := by decide +kernel
theorem dX9_takesSide_157 : decode cX9_takesSide 157 = .ok (.iaload, 1) := by decide +kernel
theorem dX9_takesSide_158 : decode cX9_takesSide 158 = .ok (.goto 9, 3) := by decide +kernel
theorem dX9_takesSide_161 : decode cX9_takesSide 161 = .ok (.aload_n 0, 1) := by decide +kernel
theorem dX9_takesSide_162 : decode cX9_takesSide 162 = .ok (.getfield 34, 3) := by decide +kernel
theorem dX9_takesSide_165 : decode cX9_takesSide 165 = .ok (.iload_n 3, 1) := by decide +kernel
theorem dX9_takesSide_166 : decode cX9_takesSide 166 = .ok (.iaload, 1) := by decide +kernel
theorem dX9_takesSide_167 : decode cX9_takesSide 167 = .ok (.istore 5, 2) := by decide +kernel
theorem dX9_takesSide_169 : decode cX9_takesSide 169 = .ok (.iload_n 2, 1) := by decide +kernel
theorem dX9_takesSide_170 : decode cX9_takesSide 170 = .ok (.iconst 2, 1) := by decide +kernel
theorem dX9_takesSide_171 : decode cX9_takesSide 171 = .ok (.if_icmp .ge 13, 3) := by decide +kernel
theorem dX9_takesSide_174 : decode cX9_takesSide 174 = .ok (.aload_n 0, 1) := by decide +kernel
theorem dX9_takesSide_175 : decode cX9_takesSide 175 = .ok (.getfield 31, 3) := by decide +kernel
theorem dX9_takesSide_178 : decode cX9_takesSide 178 = .ok (.iload 4, 2) := by decide +kernel
theorem dX9_takesSide_180 : decode cX9_takesSide 180 = .ok (.iaload, 1) := by decide +kernel
theorem dX9_takesSide_181 : decode cX9_takesSide 181 = .ok (.goto 10, 3) := by decide +kernel
theorem dX9_takesSide_184 : decode cX9_takesSide 184 = .ok (.aload_n 0, 1) := by decide +kernel
theorem dX9_takesSide_185 : decode cX9_takesSide 185 = .ok (.getfield 34, 3) := by decide +kernel
theorem dX9_takesSide_188 : decode cX9_takesSide 188 = .ok (.iload 4, 2) := by decide +kernel
theorem dX9_takesSide_190 : decode cX9_takesSide 190 = .ok (.iaload, 1) := by decide +kernel
theorem dX9_takesSide_191 : decode cX9_takesSide 191 = .ok (.istore 6, 2) := by decide +kernel
theorem dX9_takesSide_193 : decode cX9_takesSide 193 = .ok (.iload_n 2, 1) := by decide +kernel
theorem dX9_takesSide_194 : decode cX9_takesSide 194 = .ok (.iconst 2, 1) := by decide +kernel
theorem dX9_takesSide_195 : decode cX9_takesSide 195 = .ok (.irem, 1) := by decide +kernel
theorem dX9_takesSide_196 : decode cX9_takesSide 196 = .ok (.ifCond .ne 20, 3) := by decide +kernel
theorem dX9_takesSide_199 : decode cX9_takesSide 199 = .ok (.aload_n 0, 1) := by decide +kernel
theorem dX9_takesSide_200 : decode cX9_takesSide 200 = .ok (.iload_n 1, 1) := by decide +kernel
theorem dX9_takesSide_201 : decode cX9_takesSide 201 = .ok (.iconst 1, 1) := by decide +kernel
theorem dX9_takesSide_202 : decode cX9_takesSide 202 = .ok (.iadd, 1) := by decide +kernel
theorem dX9_takesSide_203 : decode cX9_takesSide 203 = .ok (.iload 5, 2) := by decide +kernel
theorem dX9_takesSide_205 : decode cX9_takesSide 205 = .ok (.iload 6, 2) := by decide +kernel
theorem dX9_takesSide_207 : decode cX9_takesSide 207 = .ok (.ldc2_w 242, 3) := by decide +kernel
theorem dX9_takesSide_210 : decode cX9_takesSide 210 = .ok (.invokevirtual 217, 3) := by decide +kernel
theorem dX9_takesSide_213 : decode cX9_takesSide 213 = .ok (.goto 17, 3) := by decide +kernel
theorem dX9_takesSide_216 : decode cX9_takesSide 216 = .ok (.aload_n 0, 1) := by decide +kernel
theorem dX9_takesSide_217 : decode cX9_takesSide 217 = .ok (.iload_n 1, 1) := by decide +kernel
theorem dX9_takesSide_218 : decode cX9_takesSide 218 = .ok (.iconst 1, 1) := by decide +kernel
theorem dX9_takesSide_219 : decode cX9_takesSide 219 = .ok (.iadd, 1) := by decide +kernel
theorem dX9_takesSide_220 : decode cX9_takesSide 220 = .ok (.iload 6, 2) := by decide +kernel
theorem dX9_takesSide_222 : decode cX9_takesSide 222 = .ok (.iload 5, 2) := by decide +kernel
theorem dX9_takesSide_224 : decode cX9_takesSide 224 = .ok (.ldc2_w 242, 3) := by decide +kernel
theorem dX9_takesSide_227 : decode cX9_takesSide 227 = .ok (.invokevirtual 217, 3) := by decide +kernel
theorem dX9_takesSide_230 : decode cX9_takesSide 230 = .ok (.ireturn, 1) := by decide +kernel
theorem dX9_soughtBy_0 : decode cX9_soughtBy 0 = .ok (.aload_n 0, 1) := by decide +kernel
theorem dX9_soughtBy_1 : decode cX9_soughtBy 1 = .ok (.getfield 53, 3) := by decide +kernel
theorem dX9_soughtBy_4 : decode cX9_soughtBy 4 = .ok (.bipush 100, 2) := by decide +kernel
theorem dX9_soughtBy_6 : decode cX9_soughtBy 6 = .ok (.iload_n 1, 1) := by decide +kernel
theorem dX9_soughtBy_7 : decode cX9_soughtBy 7 = .ok (.imul, 1) := by decide +kernel
theorem dX9_soughtBy_8 : decode cX9_soughtBy 8 = .ok (.bipush 10, 2) := by decide +kernel
theorem dX9_soughtBy_10 : decode cX9_soughtBy 10 = .ok (.aload_n 0, 1) := by decide +kernel
theorem dX9_soughtBy_11 : decode cX9_soughtBy 11 = .ok (.getfield 265, 3) := by decide +kernel
theorem dX9_soughtBy_14 : decode cX9_soughtBy 14 = .ok (.imul, 1) := by decide +kernel
theorem dX9_soughtBy_15 : decode cX9_soughtBy 15 = .ok (.iadd, 1) := by decide +kernel
theorem dX9_soughtBy_16 : decode cX9_soughtBy 16 = .ok (.aload_n 0, 1) := by decide +kernel
theorem dX9_soughtBy_17 : decode cX9_soughtBy 17 = .ok (.getfield 244, 3) := by decide +kernel
theorem dX9_soughtBy_20 : decode cX9_soughtBy 20 = .ok (.iadd, 1) := by decide +kernel
theorem dX9_soughtBy_21 : decode cX9_soughtBy 21 = .ok (.laload, 1) := by decide +kernel
theorem dX9_soughtBy_22 : decode cX9_soughtBy 22 = .ok (.lreturn, 1) := by decide +kernel
theorem dX9_isDone_0 : decode cX9_isDone 0 = .ok (.aload_n 0, 1) := by decide +kernel
theorem dX9_isDone_1 : decode cX9_isDone 1 = .ok (.getfield 268, 3) := by decide +kernel
theorem dX9_isDone_4 : decode cX9_isDone 4 = .ok (.ifCond .ne 19, 3) := by decide +kernel
theorem dX9_isDone_7 : decode cX9_isDone 7 = .ok (.aload_n 0, 1) := by decide +kernel
theorem dX9_isDone_8 : decode cX9_isDone 8 = .ok (.getfield 271, 3) := by decide +kernel
theorem dX9_isDone_11 : decode cX9_isDone 11 = .ok (.ifCond .eq 16, 3) := by decide +kernel
theorem dX9_isDone_14 : decode cX9_isDone 14 = .ok (.aload_n 0, 1) := by decide +kernel
theorem dX9_isDone_15 : decode cX9_isDone 15 = .ok (.getfield 244, 3) := by decide +kernel
theorem dX9_isDone_18 : decode cX9_isDone 18 = .ok (.ldc 140, 2) := by decide +kernel
theorem dX9_isDone_20 : decode cX9_isDone 20 = .ok (.if_icmp .ne 7, 3) := by decide +kernel
theorem dX9_isDone_23 : decode cX9_isDone 23 = .ok (.iconst 1, 1) := by decide +kernel
theorem dX9_isDone_24 : decode cX9_isDone 24 = .ok (.goto 4, 3) := by decide +kernel
theorem dX9_isDone_27 : decode cX9_isDone 27 = .ok (.iconst 0, 1) := by decide +kernel
theorem dX9_isDone_28 : decode cX9_isDone 28 = .ok (.ireturn, 1) := by decide +kernel
set_option maxRecDepth 20000 in
theorem ggX9_opens_X9_soughtBy : GoodIn wsX9_opens wsX9_soughtBy := goodIn_r _ [11, 12, 13, 1, 59, 60, 61, 62, 63, 64, 65, 66, 67, 68, 69, 70, 71, 72, 73, 74, 75, 76, 77, 78, 79, 80, 81, 82, 83, 84, 85, 86, 87, 88, 89, 90, 91, 92, 93, 94, 95, 96, 97, 98, 99, 100, 101, 102, 103, 104, 105, 106] (by decide +kernel) (by decide +kernel)
set_option maxRecDepth 20000 in
theorem gX9_opens_X9_soughtBy : GoodIn wsX9_opens (wsV RX9 274 RX9 yX9_soughtBy wsX9_soughtBy) := goodIn_app (goodIn_of _ (by decide +kernel)) ggX9_opens_X9_soughtBy
set_option maxRecDepth 20000 in
theorem ggX9_opens_X9_fill : GoodIn wsX9_opens wsX9_fill := goodIn_r _ [17, 18, 5, 12, 1, 2, 19, 20, 21, 22, 10, 23, 59, 60, 61, 62, 63, 64, 65, 66, 67, 68, 69, 70, 71, 72, 73, 74, 75, 76, 77, 78, 79, 80, 81, 82, 83, 84, 85, 86, 87, 88, 89, 90, 91, 92, 93, 94, 95, 96, 97, 98, 99, 100, 101, 102, 103, 104, 105, 106] (by decide +kernel) (by decide +kernel)
set_option maxRecDepth 20000 in
theorem gX9_opens_X9_fill : GoodIn wsX9_opens (wsV RX9 282 RX9 yX9_fill wsX9_fill) := goodIn_app (goodIn_of _ (by decide +kernel)) ggX9_opens_X9_fill
set_option maxRecDepth 20000 in
theorem ggX9_opens_X9_findsSplit : GoodIn wsX9_opens wsX9_findsSplit := goodIn_r _ [27, 28, 29, 30, 31, 32, 33, 34, 35, 36, 2, 37, 18, 38, 39, 10, 40, 41, 42, 43, 44, 19, 45, 46, 47, 48, 49, 50, 51, 52, 53, 54, 55, 56, 57, 58, 59, 60, 61, 62, 63, 64, 65, 66, 67, 68, 69, 70, 71, 72, 73, 74, 75, 76, 77, 78, 79, 80, 81, 82, 83, 84, 85, 86, 87, 88, 89, 90, 91, 92, 93, 94, 95, 96, 97, 98, 99, 100, 101, 102, 103, 104, 105, 106] (by decide +kernel) (by decide +kernel)
set_option maxRecDepth 20000 in
theorem gX9_opens_X9_findsSplit : GoodIn wsX9_opens (wsV RX9 285 RX9 yX9_findsSplit wsX9_findsSplit) := goodIn_app (goodIn_of _ (by decide +kernel)) ggX9_opens_X9_findsSplit
theorem dX9_opens_0 : decode cX9_opens 0 = .ok (.aload_n 0, 1) := by decide +kernel
theorem dX9_opens_1 : decode cX9_opens 1 = .ok (.getfield 244, 3) := by decide +kernel
theorem dX9_opens_4 : decode cX9_opens 4 = .ok (.ldc 140, 2) := by decide +kernel
theorem dX9_opens_6 : decode cX9_opens 6 = .ok (.if_icmp .eq 25, 3) := by decide +kernel
theorem dX9_opens_9 : decode cX9_opens 9 = .ok (.aload_n 0, 1) := by decide +kernel
theorem dX9_opens_10 : decode cX9_opens 10 = .ok (.getfield 271, 3) := by decide +kernel
theorem dX9_opens_13 : decode cX9_opens 13 = .ok (.ifCond .eq 18, 3) := by decide +kernel
theorem dX9_opens_16 : decode cX9_opens 16 = .ok (.aload_n 0, 1) := by decide +kernel
theorem dX9_opens_17 : decode cX9_opens 17 = .ok (.iload_n 1, 1) := by decide +kernel
theorem dX9_opens_18 : decode cX9_opens 18 = .ok (.invokevirtual 274, 3) := by decide +kernel
theorem dX9_opens_21 : decode cX9_opens 21 = .ok (.aload_n 0, 1) := by decide +kernel
theorem dX9_opens_22 : decode cX9_opens 22 = .ok (.getfield 278, 3) := by decide +kernel
theorem dX9_opens_25 : decode cX9_opens 25 = .ok (.lcmp, 1) := by decide +kernel
theorem dX9_opens_26 : decode cX9_opens 26 = .ok (.ifCond .gt 5, 3) := by decide +kernel
theorem dX9_opens_29 : decode cX9_opens 29 = .ok (.iconst 0, 1) := by decide +kernel
theorem dX9_opens_30 : decode cX9_opens 30 = .ok (.ireturn, 1) := by decide +kernel
theorem dX9_opens_31 : decode cX9_opens 31 = .ok (.aload_n 0, 1) := by decide +kernel
theorem dX9_opens_32 : decode cX9_opens 32 = .ok (.iload_n 1, 1) := by decide +kernel
theorem dX9_opens_33 : decode cX9_opens 33 = .ok (.invokevirtual 282, 3) := by decide +kernel
theorem dX9_opens_36 : decode cX9_opens 36 = .ok (.aload_n 0, 1) := by decide +kernel
theorem dX9_opens_37 : decode cX9_opens 37 = .ok (.iload_n 1, 1) := by decide +kernel
theorem dX9_opens_38 : decode cX9_opens 38 = .ok (.invokevirtual 285, 3) := by decide +kernel
theorem dX9_opens_41 : decode cX9_opens 41 = .ok (.ifCond .eq 5, 3) := by decide +kernel
theorem dX9_opens_44 : decode cX9_opens 44 = .ok (.iconst 1, 1) := by decide +kernel
theorem dX9_opens_45 : decode cX9_opens 45 = .ok (.ireturn, 1) := by decide +kernel
theorem dX9_opens_46 : decode cX9_opens 46 = .ok (.aload_n 0, 1) := by decide +kernel
theorem dX9_opens_47 : decode cX9_opens 47 = .ok (.iconst 1, 1) := by decide +kernel
theorem dX9_opens_48 : decode cX9_opens 48 = .ok (.putfield 271, 3) := by decide +kernel
theorem dX9_opens_51 : decode cX9_opens 51 = .ok (.aload_n 0, 1) := by decide +kernel
theorem dX9_opens_52 : decode cX9_opens 52 = .ok (.aload_n 0, 1) := by decide +kernel
theorem dX9_opens_53 : decode cX9_opens 53 = .ok (.getfield 244, 3) := by decide +kernel
theorem dX9_opens_56 : decode cX9_opens 56 = .ok (.ldc 140, 2) := by decide +kernel
theorem dX9_opens_58 : decode cX9_opens 58 = .ok (.if_icmp .eq 19, 3) := by decide +kernel
theorem dX9_opens_61 : decode cX9_opens 61 = .ok (.aload_n 0, 1) := by decide +kernel
theorem dX9_opens_62 : decode cX9_opens 62 = .ok (.iload_n 1, 1) := by decide +kernel
theorem dX9_opens_63 : decode cX9_opens 63 = .ok (.invokevirtual 274, 3) := by decide +kernel
theorem dX9_opens_66 : decode cX9_opens 66 = .ok (.ldc2_w 176, 3) := by decide +kernel
theorem dX9_opens_69 : decode cX9_opens 69 = .ok (.lcmp, 1) := by decide +kernel
theorem dX9_opens_70 : decode cX9_opens 70 = .ok (.ifCond .ne 7, 3) := by decide +kernel
theorem dX9_opens_73 : decode cX9_opens 73 = .ok (.iconst 1, 1) := by decide +kernel
theorem dX9_opens_74 : decode cX9_opens 74 = .ok (.goto 4, 3) := by decide +kernel
theorem dX9_opens_77 : decode cX9_opens 77 = .ok (.iconst 0, 1) := by decide +kernel
theorem dX9_opens_78 : decode cX9_opens 78 = .ok (.putfield 268, 3) := by decide +kernel
theorem dX9_opens_81 : decode cX9_opens 81 = .ok (.aload_n 0, 1) := by decide +kernel
theorem dX9_opens_82 : decode cX9_opens 82 = .ok (.aload_n 0, 1) := by decide +kernel
theorem dX9_opens_83 : decode cX9_opens 83 = .ok (.getfield 244, 3) := by decide +kernel
theorem dX9_opens_86 : decode cX9_opens 86 = .ok (.ldc 140, 2) := by decide +kernel
theorem dX9_opens_88 : decode cX9_opens 88 = .ok (.if_icmp .eq 11, 3) := by decide +kernel
theorem dX9_opens_91 : decode cX9_opens 91 = .ok (.aload_n 0, 1) := by decide +kernel
theorem dX9_opens_92 : decode cX9_opens 92 = .ok (.iload_n 1, 1) := by decide +kernel
theorem dX9_opens_93 : decode cX9_opens 93 = .ok (.invokevirtual 274, 3) := by decide +kernel
theorem dX9_opens_96 : decode cX9_opens 96 = .ok (.goto 4, 3) := by decide +kernel
theorem dX9_opens_99 : decode cX9_opens 99 = .ok (.lconst 0, 1) := by decide +kernel
theorem dX9_opens_100 : decode cX9_opens 100 = .ok (.putfield 278, 3) := by decide +kernel
theorem dX9_opens_103 : decode cX9_opens 103 = .ok (.iconst 0, 1) := by decide +kernel
theorem dX9_opens_104 : decode cX9_opens 104 = .ok (.ireturn, 1) := by decide +kernel
set_option maxRecDepth 20000 in
theorem ggX9_explore_X9_isDone : GoodIn wsX9_explore wsX9_isDone := goodIn_r _ [7, 8, 9, 10, 2, 81, 82, 83, 84, 85, 86, 87, 88, 89, 90, 91, 92, 93, 94, 95, 96, 97, 98, 99, 100, 101, 102, 103, 104, 105, 106, 107, 108, 109, 110, 111, 112, 113, 114, 115, 116, 117, 118, 119, 120, 121, 122, 123, 124, 125, 126, 127, 128] (by decide +kernel) (by decide +kernel)
set_option maxRecDepth 20000 in
theorem gX9_explore_X9_isDone : GoodIn wsX9_explore (wsV RX9 288 RX9 yX9_isDone wsX9_isDone) := goodIn_app (goodIn_of _ (by decide +kernel)) ggX9_explore_X9_isDone
set_option maxRecDepth 20000 in
theorem ggX9_explore_X9_opens : GoodIn wsX9_explore wsX9_opens := goodIn_r _ [14, 10, 2, 9, 15, 16, 8, 17, 18, 19, 6, 20, 21, 22, 23, 24, 25, 26, 27, 28, 29, 30, 31, 32, 33, 34, 35, 36, 37, 38, 39, 40, 41, 42, 43, 44, 45, 46, 47, 48, 49, 50, 51, 52, 53, 54, 55, 56, 57, 58, 59, 60, 61, 62, 63, 64, 65, 66, 67, 81, 82, 83, 84, 85, 86, 87, 88, 89, 90, 91, 92, 93, 94, 95, 96, 97, 98, 99, 100, 101, 102, 103, 104, 105, 106, 107, 108, 109, 110, 111, 112, 113, 114, 115, 116, 117, 118, 119, 120, 121, 122, 123, 124, 125, 126, 127, 128] (by decide +kernel) (by decide +kernel)
set_option maxRecDepth 20000 in
theorem gX9_explore_X9_opens : GoodIn wsX9_explore (wsV RX9 291 RX9 yX9_opens wsX9_opens) := goodIn_app (goodIn_of _ (by decide +kernel)) ggX9_explore_X9_opens
set_option maxRecDepth 20000 in
theorem ggX9_explore_X9_takesSide : GoodIn wsX9_explore wsX9_takesSide := goodIn_r _ [71, 59, 60, 21, 58, 72, 65, 66, 67, 73, 74, 75, 6, 76, 16, 27, 30, 31, 32, 77, 78, 79, 80, 81, 82, 83, 84, 85, 86, 87, 88, 89, 90, 91, 92, 93, 94, 95, 96, 97, 98, 99, 100, 101, 102, 103, 104, 105, 106, 107, 108, 109, 110, 111, 112, 113, 114, 115, 116, 117, 118, 119, 120, 121, 122, 123, 124, 125, 126, 127, 128] (by decide +kernel) (by decide +kernel)
set_option maxRecDepth 20000 in
theorem gX9_explore_X9_takesSide : GoodIn wsX9_explore (wsV RX9 294 RX9 yX9_takesSide wsX9_takesSide) := goodIn_app (goodIn_of _ (by decide +kernel)) ggX9_explore_X9_takesSide
theorem dX9_explore_0 : decode cX9_explore 0 = .ok (.iconst 0, 1) := by decide +kernel
theorem dX9_explore_1 : decode cX9_explore 1 = .ok (.istore_n 1, 1) := by decide +kernel
theorem dX9_explore_2 : decode cX9_explore 2 = .ok (.aload_n 0, 1) := by decide +kernel
theorem dX9_explore_3 : decode cX9_explore 3 = .ok (.getfield 68, 3) := by decide +kernel
theorem dX9_explore_6 : decode cX9_explore 6 = .ok (.iconst 0, 1) := by decide +kernel
theorem dX9_explore_7 : decode cX9_explore 7 = .ok (.ldc 140, 2) := by decide +kernel
theorem dX9_explore_9 : decode cX9_explore 9 = .ok (.iastore, 1) := by decide +kernel
theorem dX9_explore_10 : decode cX9_explore 10 = .ok (.iload_n 1, 1) := by decide +kernel
theorem dX9_explore_11 : decode cX9_explore 11 = .ok (.ifCond .lt 99, 3) := by decide +kernel
theorem dX9_explore_14 : decode cX9_explore 14 = .ok (.aload_n 0, 1) := by decide +kernel
theorem dX9_explore_15 : decode cX9_explore 15 = .ok (.invokevirtual 288, 3) := by decide +kernel
theorem dX9_explore_18 : decode cX9_explore 18 = .ok (.ifCond .ne 92, 3) := by decide +kernel
theorem dX9_explore_21 : decode cX9_explore 21 = .ok (.aload_n 0, 1) := by decide +kernel
theorem dX9_explore_22 : decode cX9_explore 22 = .ok (.getfield 68, 3) := by decide +kernel
theorem dX9_explore_25 : decode cX9_explore 25 = .ok (.iload_n 1, 1) := by decide +kernel
theorem dX9_explore_26 : decode cX9_explore 26 = .ok (.iaload, 1) := by decide +kernel
theorem dX9_explore_27 : decode cX9_explore 27 = .ok (.ldc 140, 2) := by decide +kernel
theorem dX9_explore_29 : decode cX9_explore 29 = .ok (.if_icmp .ne 25, 3) := by decide +kernel
theorem dX9_explore_32 : decode cX9_explore 32 = .ok (.aload_n 0, 1) := by decide +kernel
theorem dX9_explore_33 : decode cX9_explore 33 = .ok (.getfield 68, 3) := by decide +kernel
theorem dX9_explore_36 : decode cX9_explore 36 = .ok (.iload_n 1, 1) := by decide +kernel
theorem dX9_explore_37 : decode cX9_explore 37 = .ok (.aload_n 0, 1) := by decide +kernel
theorem dX9_explore_38 : decode cX9_explore 38 = .ok (.iload_n 1, 1) := by decide +kernel
theorem dX9_explore_39 : decode cX9_explore 39 = .ok (.invokevirtual 291, 3) := by decide +kernel
theorem dX9_explore_42 : decode cX9_explore 42 = .ok (.ifCond .eq 7, 3) := by decide +kernel
theorem dX9_explore_45 : decode cX9_explore 45 = .ok (.iconst 0, 1) := by decide +kernel
theorem dX9_explore_46 : decode cX9_explore 46 = .ok (.goto 4, 3) := by decide +kernel
theorem dX9_explore_49 : decode cX9_explore 49 = .ok (.iconst 5, 1) := by decide +kernel
theorem dX9_explore_50 : decode cX9_explore 50 = .ok (.iastore, 1) := by decide +kernel
theorem dX9_explore_51 : decode cX9_explore 51 = .ok (.goto (-41), 3) := by decide +kernel
theorem dX9_explore_54 : decode cX9_explore 54 = .ok (.aload_n 0, 1) := by decide +kernel
theorem dX9_explore_55 : decode cX9_explore 55 = .ok (.getfield 68, 3) := by decide +kernel
theorem dX9_explore_58 : decode cX9_explore 58 = .ok (.iload_n 1, 1) := by decide +kernel
theorem dX9_explore_59 : decode cX9_explore 59 = .ok (.iaload, 1) := by decide +kernel
theorem dX9_explore_60 : decode cX9_explore 60 = .ok (.iconst 4, 1) := by decide +kernel
theorem dX9_explore_61 : decode cX9_explore 61 = .ok (.if_icmp .le 9, 3) := by decide +kernel
theorem dX9_explore_64 : decode cX9_explore 64 = .ok (.iinc 1 (-1), 3) := by decide +kernel
theorem dX9_explore_67 : decode cX9_explore 67 = .ok (.goto (-57), 3) := by decide +kernel
theorem dX9_explore_70 : decode cX9_explore 70 = .ok (.aload_n 0, 1) := by decide +kernel
theorem dX9_explore_71 : decode cX9_explore 71 = .ok (.iload_n 1, 1) := by decide +kernel
theorem dX9_explore_72 : decode cX9_explore 72 = .ok (.aload_n 0, 1) := by decide +kernel
theorem dX9_explore_73 : decode cX9_explore 73 = .ok (.getfield 68, 3) := by decide +kernel
theorem dX9_explore_76 : decode cX9_explore 76 = .ok (.iload_n 1, 1) := by decide +kernel
theorem dX9_explore_77 : decode cX9_explore 77 = .ok (.iaload, 1) := by decide +kernel
theorem dX9_explore_78 : decode cX9_explore 78 = .ok (.invokevirtual 294, 3) := by decide +kernel
theorem dX9_explore_81 : decode cX9_explore 81 = .ok (.istore_n 2, 1) := by decide +kernel
theorem dX9_explore_82 : decode cX9_explore 82 = .ok (.aload_n 0, 1) := by decide +kernel
theorem dX9_explore_83 : decode cX9_explore 83 = .ok (.getfield 68, 3) := by decide +kernel
theorem dX9_explore_86 : decode cX9_explore 86 = .ok (.iload_n 1, 1) := by decide +kernel
theorem dX9_explore_87 : decode cX9_explore 87 = .ok (.dup2, 1) := by decide +kernel
theorem dX9_explore_88 : decode cX9_explore 88 = .ok (.iaload, 1) := by decide +kernel
theorem dX9_explore_89 : decode cX9_explore 89 = .ok (.iconst 1, 1) := by decide +kernel
theorem dX9_explore_90 : decode cX9_explore 90 = .ok (.iadd, 1) := by decide +kernel
theorem dX9_explore_91 : decode cX9_explore 91 = .ok (.iastore, 1) := by decide +kernel
theorem dX9_explore_92 : decode cX9_explore 92 = .ok (.iload_n 2, 1) := by decide +kernel
theorem dX9_explore_93 : decode cX9_explore 93 = .ok (.ifCond .eq 14, 3) := by decide +kernel
theorem dX9_explore_96 : decode cX9_explore 96 = .ok (.iinc 1 1, 3) := by decide +kernel
theorem dX9_explore_99 : decode cX9_explore 99 = .ok (.aload_n 0, 1) := by decide +kernel
theorem dX9_explore_100 : decode cX9_explore 100 = .ok (.getfield 68, 3) := by decide +kernel
theorem dX9_explore_103 : decode cX9_explore 103 = .ok (.iload_n 1, 1) := by decide +kernel
theorem dX9_explore_104 : decode cX9_explore 104 = .ok (.ldc 140, 2) := by decide +kernel
theorem dX9_explore_106 : decode cX9_explore 106 = .ok (.iastore, 1) := by decide +kernel
theorem dX9_explore_107 : decode cX9_explore 107 = .ok (.goto (-97), 3) := by decide +kernel
theorem dX9_explore_110 : decode cX9_explore 110 = .ok (.return_, 1) := by decide +kernel
set_option maxRecDepth 20000 in
theorem ggX9_seek_X9_layFirst : GoodIn wsX9_seek wsX9_layFirst := goodIn_r _ [9, 10, 11, 12, 13, 14, 15, 16, 17, 18, 19, 20, 8, 21, 1, 22, 23, 24, 25, 26, 27, 28, 29, 30, 31, 32, 33, 34, 35, 36, 37, 38, 39, 94, 95, 96, 97, 98, 99, 100, 101, 102, 103, 104, 105, 106, 107, 108, 109, 110, 111, 112, 113, 114, 115, 116, 117, 118, 119, 120, 121, 122, 123, 124, 125, 126, 127, 128, 129, 130, 131, 132, 133, 134, 135, 136, 137, 138, 139, 140, 141] (by decide +kernel) (by decide +kernel)
set_option maxRecDepth 20000 in
theorem gX9_seek_X9_layFirst : GoodIn wsX9_seek (wsV RX9 297 RX9 yX9_layFirst wsX9_layFirst) := goodIn_app (goodIn_of _ (by decide +kernel)) ggX9_seek_X9_layFirst
set_option maxRecDepth 20000 in
theorem ggX9_seek_X9_explore : GoodIn wsX9_seek wsX9_explore := goodIn_r _ [43, 44, 45, 46, 47, 48, 8, 49, 3, 2, 50, 51, 52, 53, 54, 4, 12, 55, 56, 57, 58, 11, 59, 60, 61, 62, 63, 10, 64, 65, 37, 38, 39, 66, 67, 68, 69, 13, 1, 22, 23, 24, 14, 15, 16, 70, 71, 26, 27, 28, 72, 73, 74, 75, 76, 77, 78, 79, 80, 81, 82, 83, 84, 85, 86, 87, 88, 89, 90, 91, 92, 93, 17, 33, 34, 35, 36, 29, 30, 31, 32, 94, 95, 96, 97, 98, 99, 100, 101, 102, 103, 104, 105, 106, 107, 108, 109, 110, 111, 112, 113, 114, 115, 116, 117, 118, 119, 120, 121, 122, 123, 124, 125, 126, 127, 128, 129, 130, 131, 132, 133, 134, 135, 136, 137, 138, 139, 140, 141] (by decide +kernel) (by decide +kernel)
set_option maxRecDepth 20000 in
theorem gX9_seek_X9_explore : GoodIn wsX9_seek (wsV RX9 300 RX9 yX9_explore wsX9_explore) := goodIn_app (goodIn_of _ (by decide +kernel)) ggX9_seek_X9_explore
theorem dX9_seek_0 : decode cX9_seek 0 = .ok (.aload_n 0, 1) := by decide +kernel
theorem dX9_seek_1 : decode cX9_seek 1 = .ok (.iload_n 1, 1) := by decide +kernel
theorem dX9_seek_2 : decode cX9_seek 2 = .ok (.putfield 221, 3) := by decide +kernel
theorem dX9_seek_5 : decode cX9_seek 5 = .ok (.aload_n 0, 1) := by decide +kernel
theorem dX9_seek_6 : decode cX9_seek 6 = .ok (.iconst 0, 1) := by decide +kernel
theorem dX9_seek_7 : decode cX9_seek 7 = .ok (.putfield 271, 3) := by decide +kernel
theorem dX9_seek_10 : decode cX9_seek 10 = .ok (.aload_n 0, 1) := by decide +kernel
theorem dX9_seek_11 : decode cX9_seek 11 = .ok (.iconst 0, 1) := by decide +kernel
theorem dX9_seek_12 : decode cX9_seek 12 = .ok (.putfield 268, 3) := by decide +kernel
theorem dX9_seek_15 : decode cX9_seek 15 = .ok (.aload_n 0, 1) := by decide +kernel
theorem dX9_seek_16 : decode cX9_seek 16 = .ok (.lconst 0, 1) := by decide +kernel
theorem dX9_seek_17 : decode cX9_seek 17 = .ok (.putfield 278, 3) := by decide +kernel
theorem dX9_seek_20 : decode cX9_seek 20 = .ok (.aload_n 0, 1) := by decide +kernel
theorem dX9_seek_21 : decode cX9_seek 21 = .ok (.invokevirtual 297, 3) := by decide +kernel
theorem dX9_seek_24 : decode cX9_seek 24 = .ok (.ifCond .eq 7, 3) := by decide +kernel
theorem dX9_seek_27 : decode cX9_seek 27 = .ok (.aload_n 0, 1) := by decide +kernel
theorem dX9_seek_28 : decode cX9_seek 28 = .ok (.invokevirtual 300, 3) := by decide +kernel
theorem dX9_seek_31 : decode cX9_seek 31 = .ok (.return_, 1) := by decide +kernel
theorem dX9_asksPlain_0 : decode cX9_asksPlain 0 = .ok (.aload_n 0, 1) := by decide +kernel
theorem dX9_asksPlain_1 : decode cX9_asksPlain 1 = .ok (.ldc 140, 2) := by decide +kernel
theorem dX9_asksPlain_3 : decode cX9_asksPlain 3 = .ok (.putfield 233, 3) := by decide +kernel
theorem dX9_asksPlain_6 : decode cX9_asksPlain 6 = .ok (.aload_n 0, 1) := by decide +kernel
theorem dX9_asksPlain_7 : decode cX9_asksPlain 7 = .ok (.ldc 140, 2) := by decide +kernel
theorem dX9_asksPlain_9 : decode cX9_asksPlain 9 = .ok (.putfield 256, 3) := by decide +kernel
theorem dX9_asksPlain_12 : decode cX9_asksPlain 12 = .ok (.aload_n 0, 1) := by decide +kernel
theorem dX9_asksPlain_13 : decode cX9_asksPlain 13 = .ok (.ldc 140, 2) := by decide +kernel
theorem dX9_asksPlain_15 : decode cX9_asksPlain 15 = .ok (.putfield 265, 3) := by decide +kernel
theorem dX9_asksPlain_18 : decode cX9_asksPlain 18 = .ok (.aload_n 0, 1) := by decide +kernel
theorem dX9_asksPlain_19 : decode cX9_asksPlain 19 = .ok (.ldc 140, 2) := by decide +kernel
theorem dX9_asksPlain_21 : decode cX9_asksPlain 21 = .ok (.putfield 244, 3) := by decide +kernel
theorem dX9_asksPlain_24 : decode cX9_asksPlain 24 = .ok (.return_, 1) := by decide +kernel
theorem dX9_all_0 : decode cX9_all 0 = .ok (.iconst 1, 1) := by decide +kernel
theorem dX9_all_1 : decode cX9_all 1 = .ok (.aload_n 0, 1) := by decide +kernel
theorem dX9_all_2 : decode cX9_all 2 = .ok (.getfield 141, 3) := by decide +kernel
theorem dX9_all_5 : decode cX9_all 5 = .ok (.ishl, 1) := by decide +kernel
theorem dX9_all_6 : decode cX9_all 6 = .ok (.iconst 1, 1) := by decide +kernel
theorem dX9_all_7 : decode cX9_all 7 = .ok (.isub, 1) := by decide +kernel
theorem dX9_all_8 : decode cX9_all 8 = .ok (.ireturn, 1) := by decide +kernel
set_option maxRecDepth 20000 in
theorem ggX9_holdsWith_X9_asksPlain : GoodIn wsX9_holdsWith wsX9_asksPlain := goodIn_r _ [6, 7, 8, 9, 10, 11, 102, 103, 104, 105, 106, 107, 108, 109, 110, 111, 112, 113, 114, 115, 116, 117, 118, 119, 120, 121, 122, 123, 124, 125, 126, 127, 128, 129, 130, 131, 132, 133, 134, 135, 136, 137, 138, 139, 140, 141, 142, 143, 144, 145, 146, 147, 148, 149] (by decide +kernel) (by decide +kernel)
set_option maxRecDepth 20000 in
theorem gX9_holdsWith_X9_asksPlain : GoodIn wsX9_holdsWith (wsV RX9 303 RX9 yX9_asksPlain wsX9_asksPlain) := goodIn_app (goodIn_of _ (by decide +kernel)) ggX9_holdsWith_X9_asksPlain
set_option maxRecDepth 20000 in
theorem ggX9_holdsWith_X9_seek : GoodIn wsX9_holdsWith wsX9_seek := goodIn_r _ [15, 16, 1, 17, 18, 19, 20, 21, 5, 22, 23, 24, 25, 26, 8, 27, 28, 29, 30, 31, 32, 33, 34, 35, 36, 37, 38, 39, 40, 41, 42, 43, 44, 45, 46, 47, 48, 49, 50, 51, 52, 53, 54, 55, 56, 7, 57, 58, 59, 60, 11, 61, 62, 63, 64, 65, 66, 67, 68, 10, 69, 70, 71, 72, 73, 74, 75, 76, 77, 78, 9, 79, 80, 81, 82, 83, 84, 85, 86, 87, 88, 89, 90, 91, 92, 93, 94, 95, 96, 97, 98, 99, 100, 101, 102, 103, 104, 105, 106, 107, 108, 109, 110, 111, 112, 113, 114, 115, 116, 117, 118, 119, 120, 121, 122, 123, 124, 125, 126, 127, 128, 129, 130, 131, 132, 133, 134, 135, 136, 137, 138, 139, 140, 141, 142, 143, 144, 145, 146, 147, 148, 149] (by decide +kernel) (by decide +kernel)
set_option maxRecDepth 20000 in
theorem gX9_holdsWith_X9_seek : GoodIn wsX9_holdsWith (wsV RX9 306 RX9 yX9_seek wsX9_seek) := goodIn_app (goodIn_of _ (by decide +kernel)) ggX9_holdsWith_X9_seek
theorem dX9_holdsWith_0 : decode cX9_holdsWith 0 = .ok (.aload_n 0, 1) := by decide +kernel
theorem dX9_holdsWith_1 : decode cX9_holdsWith 1 = .ok (.invokevirtual 303, 3) := by decide +kernel
theorem dX9_holdsWith_4 : decode cX9_holdsWith 4 = .ok (.aload_n 0, 1) := by decide +kernel
theorem dX9_holdsWith_5 : decode cX9_holdsWith 5 = .ok (.iload_n 1, 1) := by decide +kernel
theorem dX9_holdsWith_6 : decode cX9_holdsWith 6 = .ok (.invokevirtual 306, 3) := by decide +kernel
theorem dX9_holdsWith_9 : decode cX9_holdsWith 9 = .ok (.aload_n 0, 1) := by decide +kernel
theorem dX9_holdsWith_10 : decode cX9_holdsWith 10 = .ok (.getfield 271, 3) := by decide +kernel
theorem dX9_holdsWith_13 : decode cX9_holdsWith 13 = .ok (.ireturn, 1) := by decide +kernel
set_option maxRecDepth 20000 in
theorem ggX9_holdsMore_X9_asksPlain : GoodIn wsX9_holdsMore wsX9_asksPlain := goodIn_r _ [9, 10, 1, 11, 12, 13, 106, 107, 108, 109, 110, 111, 112, 113, 114, 115, 116, 117, 118, 119, 120, 121, 122, 123, 124, 125, 126, 127, 128, 129, 130, 131, 132, 133, 134, 135, 136, 137, 138, 139, 140, 141, 142, 143, 144, 145, 146, 147, 148, 149, 150, 151, 152, 153] (by decide +kernel) (by decide +kernel)
set_option maxRecDepth 20000 in
theorem gX9_holdsMore_X9_asksPlain : GoodIn wsX9_holdsMore (wsV RX9 303 RX9 yX9_asksPlain wsX9_asksPlain) := goodIn_app (goodIn_of _ (by decide +kernel)) ggX9_holdsMore_X9_asksPlain
set_option maxRecDepth 20000 in
theorem ggX9_holdsMore_X9_all : GoodIn wsX9_holdsMore wsX9_all := goodIn_r _ [17, 18, 106, 107, 108, 109, 110, 111, 112, 113, 114, 115, 116, 117, 118, 119, 120, 121, 122, 123, 124, 125, 126, 127, 128, 129, 130, 131, 132, 133, 134, 135, 136, 137, 138, 139, 140, 141, 142, 143, 144, 145, 146, 147, 148, 149, 150, 151, 152, 153] (by decide +kernel) (by decide +kernel)
set_option maxRecDepth 20000 in
theorem gX9_holdsMore_X9_all : GoodIn wsX9_holdsMore (wsV RX9 309 RX9 yX9_all wsX9_all) := goodIn_app (goodIn_of _ (by decide +kernel)) ggX9_holdsMore_X9_all
set_option maxRecDepth 20000 in
theorem ggX9_holdsMore_X9_seek : GoodIn wsX9_holdsMore wsX9_seek := goodIn_r _ [22, 23, 4, 24, 25, 26, 27, 28, 8, 29, 30, 31, 32, 18, 1, 2, 3, 33, 34, 35, 36, 37, 38, 39, 40, 41, 42, 43, 44, 45, 46, 47, 48, 49, 50, 51, 52, 53, 54, 55, 56, 57, 58, 59, 60, 10, 61, 62, 63, 64, 13, 65, 66, 67, 68, 69, 70, 71, 72, 12, 73, 74, 75, 76, 77, 78, 79, 80, 81, 82, 11, 83, 84, 85, 86, 87, 88, 89, 90, 91, 92, 93, 94, 95, 96, 97, 98, 99, 100, 101, 102, 103, 104, 105, 106, 107, 108, 109, 110, 111, 112, 113, 114, 115, 116, 117, 118, 119, 120, 121, 122, 123, 124, 125, 126, 127, 128, 129, 130, 131, 132, 133, 134, 135, 136, 137, 138, 139, 140, 141, 142, 143, 144, 145, 146, 147, 148, 149, 150, 151, 152, 153] (by decide +kernel) (by decide +kernel)
set_option maxRecDepth 20000 in
theorem gX9_holdsMore_X9_seek : GoodIn wsX9_holdsMore (wsV RX9 306 RX9 yX9_seek wsX9_seek) := goodIn_app (goodIn_of _ (by decide +kernel)) ggX9_holdsMore_X9_seek
theorem dX9_holdsMore_0 : decode cX9_holdsMore 0 = .ok (.aload_n 0, 1) := by decide +kernel
theorem dX9_holdsMore_1 : decode cX9_holdsMore 1 = .ok (.invokevirtual 303, 3) := by decide +kernel
theorem dX9_holdsMore_4 : decode cX9_holdsMore 4 = .ok (.aload_n 0, 1) := by decide +kernel
theorem dX9_holdsMore_5 : decode cX9_holdsMore 5 = .ok (.iload_n 1, 1) := by decide +kernel
theorem dX9_holdsMore_6 : decode cX9_holdsMore 6 = .ok (.putfield 233, 3) := by decide +kernel
theorem dX9_holdsMore_9 : decode cX9_holdsMore 9 = .ok (.aload_n 0, 1) := by decide +kernel
theorem dX9_holdsMore_10 : decode cX9_holdsMore 10 = .ok (.iload_n 2, 1) := by decide +kernel
theorem dX9_holdsMore_11 : decode cX9_holdsMore 11 = .ok (.putfield 236, 3) := by decide +kernel
theorem dX9_holdsMore_14 : decode cX9_holdsMore 14 = .ok (.aload_n 0, 1) := by decide +kernel
theorem dX9_holdsMore_15 : decode cX9_holdsMore 15 = .ok (.iload_n 3, 1) := by decide +kernel
theorem dX9_holdsMore_16 : decode cX9_holdsMore 16 = .ok (.putfield 239, 3) := by decide +kernel
theorem dX9_holdsMore_19 : decode cX9_holdsMore 19 = .ok (.aload_n 0, 1) := by decide +kernel
theorem dX9_holdsMore_20 : decode cX9_holdsMore 20 = .ok (.aload_n 0, 1) := by decide +kernel
theorem dX9_holdsMore_21 : decode cX9_holdsMore 21 = .ok (.invokevirtual 309, 3) := by decide +kernel
theorem dX9_holdsMore_24 : decode cX9_holdsMore 24 = .ok (.invokevirtual 306, 3) := by decide +kernel
theorem dX9_holdsMore_27 : decode cX9_holdsMore 27 = .ok (.aload_n 0, 1) := by decide +kernel
theorem dX9_holdsMore_28 : decode cX9_holdsMore 28 = .ok (.getfield 271, 3) := by decide +kernel
theorem dX9_holdsMore_31 : decode cX9_holdsMore 31 = .ok (.ireturn, 1) := by decide +kernel
set_option maxRecDepth 20000 in
theorem ggX9_holds_X9_all : GoodIn wsX9_holds wsX9_all := goodIn_r _ [5, 6, 110, 111, 112, 113, 114, 115, 116, 117, 118, 119, 120, 121, 122, 123, 124, 125, 126, 127, 128, 129, 130, 131, 132, 133, 134, 135, 136, 137, 138, 139, 140, 141, 142, 143, 144, 145, 146, 147, 148, 149, 150, 151, 152, 153, 154, 155, 156, 157] (by decide +kernel) (by decide +kernel)
set_option maxRecDepth 20000 in
theorem gX9_holds_X9_all : GoodIn wsX9_holds (wsV RX9 309 RX9 yX9_all wsX9_all) := goodIn_app (goodIn_of _ (by decide +kernel)) ggX9_holds_X9_all
set_option maxRecDepth 20000 in
theorem ggX9_holds_X9_holdsWith : GoodIn wsX9_holds wsX9_holdsWith := goodIn_r _ [10, 11, 12, 13, 14, 4, 15, 16, 17, 18, 19, 20, 21, 22, 23, 24, 25, 26, 27, 28, 29, 30, 31, 32, 33, 34, 6, 35, 36, 37, 38, 39, 40, 41, 42, 43, 44, 45, 46, 47, 48, 49, 50, 51, 52, 53, 54, 55, 56, 57, 58, 59, 60, 61, 62, 63, 64, 65, 66, 67, 68, 69, 70, 71, 72, 73, 74, 75, 76, 77, 78, 79, 80, 81, 82, 83, 84, 85, 86, 87, 88, 89, 90, 91, 92, 93, 94, 95, 96, 97, 98, 99, 100, 101, 102, 103, 104, 105, 106, 107, 108, 109, 110, 111, 112, 113, 114, 115, 116, 117, 118, 119, 120, 121, 122, 123, 124, 125, 126, 127, 128, 129, 130, 131, 132, 133, 134, 135, 136, 137, 138, 139, 140, 141, 142, 143, 144, 145, 146, 147, 148, 149, 150, 151, 152, 153, 154, 155, 156, 157] (by decide +kernel) (by decide +kernel)
set_option maxRecDepth 20000 in
theorem gX9_holds_X9_holdsWith : GoodIn wsX9_holds (wsV RX9 312 RX9 yX9_holdsWith wsX9_holdsWith) := goodIn_app (goodIn_of _ (by decide +kernel)) ggX9_holds_X9_holdsWith
theorem dX9_holds_0 : decode cX9_holds 0 = .ok (.aload_n 0, 1) := by decide +kernel
theorem dX9_holds_1 : decode cX9_holds 1 = .ok (.aload_n 0, 1) := by decide +kernel
theorem dX9_holds_2 : decode cX9_holds 2 = .ok (.invokevirtual 309, 3) := by decide +kernel
theorem dX9_holds_5 : decode cX9_holds 5 = .ok (.invokevirtual 312, 3) := by decide +kernel
theorem dX9_holds_8 : decode cX9_holds 8 = .ok (.ifCond .eq 7, 3) := by decide +kernel
theorem dX9_holds_11 : decode cX9_holds 11 = .ok (.iconst 1, 1) := by decide +kernel
theorem dX9_holds_12 : decode cX9_holds 12 = .ok (.goto 4, 3) := by decide +kernel
theorem dX9_holds_15 : decode cX9_holds 15 = .ok (.iconst 0, 1) := by decide +kernel
theorem dX9_holds_16 : decode cX9_holds 16 = .ok (.ireturn, 1) := by decide +kernel
set_option maxRecDepth 20000 in
theorem ggX9_apartNow_X9_asksPlain : GoodIn wsX9_apartNow wsX9_asksPlain := goodIn_r _ [12, 6, 13, 14, 1, 2, 113, 114, 115, 116, 117, 118, 119, 120, 121, 122, 123, 124, 125, 126, 127, 128, 129, 130, 131, 132, 133, 134, 135, 136, 137, 138, 139, 140, 141, 142, 143, 144, 145, 146, 147, 148, 149, 150, 151, 152, 153, 154, 155, 156, 157, 158, 159, 160] (by decide +kernel) (by decide +kernel)
set_option maxRecDepth 20000 in
theorem gX9_apartNow_X9_asksPlain : GoodIn wsX9_apartNow (wsV RX9 303 RX9 yX9_asksPlain wsX9_asksPlain) := goodIn_app (goodIn_of _ (by decide +kernel)) ggX9_apartNow_X9_asksPlain
set_option maxRecDepth 20000 in
theorem ggX9_apartNow_X9_all : GoodIn wsX9_apartNow wsX9_all := goodIn_r _ [18, 19, 113, 114, 115, 116, 117, 118, 119, 120, 121, 122, 123, 124, 125, 126, 127, 128, 129, 130, 131, 132, 133, 134, 135, 136, 137, 138, 139, 140, 141, 142, 143, 144, 145, 146, 147, 148, 149, 150, 151, 152, 153, 154, 155, 156, 157, 158, 159, 160] (by decide +kernel) (by decide +kernel)
set_option maxRecDepth 20000 in
theorem gX9_apartNow_X9_all : GoodIn wsX9_apartNow (wsV RX9 309 RX9 yX9_all wsX9_all) := goodIn_app (goodIn_of _ (by decide +kernel)) ggX9_apartNow_X9_all
set_option maxRecDepth 20000 in
theorem ggX9_apartNow_X9_seek : GoodIn wsX9_apartNow wsX9_seek := goodIn_r _ [23, 24, 3, 5, 7, 25, 26, 27, 11, 28, 29, 30, 31, 19, 13, 32, 33, 34, 35, 36, 37, 38, 39, 40, 41, 42, 43, 44, 45, 46, 47, 48, 49, 50, 51, 52, 53, 54, 55, 56, 57, 58, 59, 60, 61, 6, 62, 63, 64, 65, 2, 66, 67, 68, 69, 70, 71, 72, 73, 1, 74, 75, 76, 77, 78, 79, 80, 81, 82, 83, 14, 84, 85, 86, 87, 88, 89, 90, 91, 92, 93, 94, 95, 96, 97, 98, 99, 100, 101, 102, 103, 104, 105, 106, 113, 114, 115, 116, 117, 118, 119, 120, 121, 122, 123, 124, 125, 126, 127, 128, 129, 130, 131, 132, 133, 134, 135, 136, 137, 138, 139, 140, 141, 142, 143, 144, 145, 146, 147, 148, 149, 150, 151, 152, 153, 154, 155, 156, 157, 158, 159, 160] (by decide +kernel) (by decide +kernel)
set_option maxRecDepth 20000 in
theorem gX9_apartNow_X9_seek : GoodIn wsX9_apartNow (wsV RX9 306 RX9 yX9_seek wsX9_seek) := goodIn_app (goodIn_of _ (by decide +kernel)) ggX9_apartNow_X9_seek
set_option maxRecDepth 20000 in
theorem ggX9_apartNow_X9_told : GoodIn wsX9_apartNow wsX9_told := goodIn_r _ [109, 110, 111, 112] (by decide +kernel) (by decide +kernel)
set_option maxRecDepth 20000 in
theorem gX9_apartNow_X9_told : GoodIn wsX9_apartNow (va_wsS RX9 213 yX9_told wsX9_told) := goodIn_app (goodIn_of _ (by decide +kernel)) ggX9_apartNow_X9_told
theorem dX9_apartNow_0 : decode cX9_apartNow 0 = .ok (.aload_n 0, 1) := by decide +kernel
theorem dX9_apartNow_1 : decode cX9_apartNow 1 = .ok (.invokevirtual 303, 3) := by decide +kernel
theorem dX9_apartNow_4 : decode cX9_apartNow 4 = .ok (.aload_n 0, 1) := by decide +kernel
theorem dX9_apartNow_5 : decode cX9_apartNow 5 = .ok (.iload_n 1, 1) := by decide +kernel
theorem dX9_apartNow_6 : decode cX9_apartNow 6 = .ok (.putfield 265, 3) := by decide +kernel
theorem dX9_apartNow_9 : decode cX9_apartNow 9 = .ok (.aload_n 0, 1) := by decide +kernel
theorem dX9_apartNow_10 : decode cX9_apartNow 10 = .ok (.iload_n 2, 1) := by decide +kernel
theorem dX9_apartNow_11 : decode cX9_apartNow 11 = .ok (.putfield 244, 3) := by decide +kernel
theorem dX9_apartNow_14 : decode cX9_apartNow 14 = .ok (.aload_n 0, 1) := by decide +kernel
theorem dX9_apartNow_15 : decode cX9_apartNow 15 = .ok (.aload_n 0, 1) := by decide +kernel
theorem dX9_apartNow_16 : decode cX9_apartNow 16 = .ok (.invokevirtual 309, 3) := by decide +kernel
theorem dX9_apartNow_19 : decode cX9_apartNow 19 = .ok (.invokevirtual 306, 3) := by decide +kernel
theorem dX9_apartNow_22 : decode cX9_apartNow 22 = .ok (.aload_n 0, 1) := by decide +kernel
theorem dX9_apartNow_23 : decode cX9_apartNow 23 = .ok (.getfield 271, 3) := by decide +kernel
theorem dX9_apartNow_26 : decode cX9_apartNow 26 = .ok (.ifCond .ne 8, 3) := by decide +kernel
theorem dX9_apartNow_29 : decode cX9_apartNow 29 = .ok (.ldc 152, 2) := by decide +kernel
theorem dX9_apartNow_31 : decode cX9_apartNow 31 = .ok (.goto 22, 3) := by decide +kernel
theorem dX9_apartNow_34 : decode cX9_apartNow 34 = .ok (.aload_n 0, 1) := by decide +kernel
theorem dX9_apartNow_35 : decode cX9_apartNow 35 = .ok (.getfield 268, 3) := by decide +kernel
theorem dX9_apartNow_38 : decode cX9_apartNow 38 = .ok (.ifCond .eq 8, 3) := by decide +kernel
theorem dX9_apartNow_41 : decode cX9_apartNow 41 = .ok (.ldc 140, 2) := by decide +kernel
theorem dX9_apartNow_43 : decode cX9_apartNow 43 = .ok (.goto 10, 3) := by decide +kernel
theorem dX9_apartNow_46 : decode cX9_apartNow 46 = .ok (.aload_n 0, 1) := by decide +kernel
theorem dX9_apartNow_47 : decode cX9_apartNow 47 = .ok (.getfield 278, 3) := by decide +kernel
theorem dX9_apartNow_50 : decode cX9_apartNow 50 = .ok (.invokestatic 213, 3) := by decide +kernel
theorem dX9_apartNow_53 : decode cX9_apartNow 53 = .ok (.ireturn, 1) := by decide +kernel
set_option maxRecDepth 20000 in
theorem ggX9_apart_X9_areTerms : GoodIn wsX9_apart wsX9_areTerms := goodIn_r _ [6, 7, 8, 9, 5, 10, 125, 126, 127, 128, 129, 130, 131, 132, 133, 134, 135, 136, 137, 138, 139, 140, 141, 142, 143, 144, 145, 146, 147, 148, 149, 150, 151, 152, 153, 154, 155, 156, 157, 158, 159, 160, 161, 162, 163, 164, 165, 166, 167, 168, 169, 170, 171, 172] (by decide +kernel) (by decide +kernel)
set_option maxRecDepth 20000 in
theorem gX9_apart_X9_areTerms : GoodIn wsX9_apart (wsV RX9 210 RX9 yX9_areTerms wsX9_areTerms) := goodIn_app (goodIn_of _ (by decide +kernel)) ggX9_apart_X9_areTerms
set_option maxRecDepth 20000 in
theorem ggX9_apart_X9_apartNow : GoodIn wsX9_apart wsX9_apartNow := goodIn_r _ [14, 15, 16, 17, 18, 19, 20, 21, 22, 23, 24, 5, 25, 26, 27, 28, 29, 30, 31, 32, 33, 34, 35, 36, 37, 38, 39, 40, 41, 7, 42, 43, 44, 45, 46, 47, 48, 49, 50, 51, 52, 53, 54, 55, 56, 57, 58, 59, 60, 61, 62, 63, 64, 65, 66, 67, 68, 69, 70, 71, 72, 73, 74, 75, 76, 77, 78, 79, 80, 81, 82, 83, 84, 85, 86, 87, 88, 89, 90, 91, 92, 93, 94, 95, 96, 97, 98, 99, 100, 101, 102, 103, 104, 105, 106, 107, 108, 109, 110, 111, 112, 113, 114, 115, 116, 117, 118, 119, 120, 121, 122, 123, 124, 125, 126, 127, 128, 129, 130, 131, 132, 133, 134, 135, 136, 137, 138, 139, 140, 141, 142, 143, 144, 145, 146, 147, 148, 149, 150, 151, 152, 153, 154, 155, 156, 157, 158, 159, 160, 161, 162, 163, 164, 165, 166, 167, 168, 169, 170, 171, 172] (by decide +kernel) (by decide +kernel)
set_option maxRecDepth 20000 in
theorem gX9_apart_X9_apartNow : GoodIn wsX9_apart (wsV RX9 315 RX9 yX9_apartNow wsX9_apartNow) := goodIn_app (goodIn_of _ (by decide +kernel)) ggX9_apart_X9_apartNow
theorem dX9_apart_0 : decode cX9_apart 0 = .ok (.aload_n 0, 1) := by decide +kernel
theorem dX9_apart_1 : decode cX9_apart 1 = .ok (.iload_n 1, 1) := by decide +kernel
theorem dX9_apart_2 : decode cX9_apart 2 = .ok (.iload_n 2, 1) := by decide +kernel
theorem dX9_apart_3 : decode cX9_apart 3 = .ok (.invokevirtual 210, 3) := by decide +kernel
theorem dX9_apart_6 : decode cX9_apart 6 = .ok (.ifCond .eq 12, 3) := by decide +kernel
theorem dX9_apart_9 : decode cX9_apart 9 = .ok (.aload_n 0, 1) := by decide +kernel
theorem dX9_apart_10 : decode cX9_apart 10 = .ok (.iload_n 1, 1) := by decide +kernel
theorem dX9_apart_11 : decode cX9_apart 11 = .ok (.iload_n 2, 1) := by decide +kernel
theorem dX9_apart_12 : decode cX9_apart 12 = .ok (.invokevirtual 315, 3) := by decide +kernel
theorem dX9_apart_15 : decode cX9_apart 15 = .ok (.goto 5, 3) := by decide +kernel
theorem dX9_apart_18 : decode cX9_apart 18 = .ok (.ldc 159, 2) := by decide +kernel
theorem dX9_apart_20 : decode cX9_apart 20 = .ok (.ireturn, 1) := by decide +kernel
set_option maxRecDepth 20000 in
theorem ggX9_impliedNow_X9_all : GoodIn wsX9_impliedNow wsX9_all := goodIn_r _ [6, 7, 115, 116, 117, 118, 119, 120, 121, 122, 123, 124, 125, 126, 127, 128, 129, 130, 131, 132, 133, 134, 135, 136, 137, 138, 139, 140, 141, 142, 143, 144, 145, 146, 147, 148, 149, 150, 151, 152, 153, 154, 155, 156, 157, 158, 159, 160, 161, 162] (by decide +kernel) (by decide +kernel)
set_option maxRecDepth 20000 in
theorem gX9_impliedNow_X9_all : GoodIn wsX9_impliedNow (wsV RX9 309 RX9 yX9_all wsX9_all) := goodIn_app (goodIn_of _ (by decide +kernel)) ggX9_impliedNow_X9_all
set_option maxRecDepth 20000 in
theorem ggX9_impliedNow_X9_holdsWith : GoodIn wsX9_impliedNow wsX9_holdsWith := goodIn_r _ [11, 12, 13, 14, 15, 5, 16, 17, 18, 19, 20, 21, 22, 23, 24, 25, 26, 27, 28, 29, 30, 31, 32, 33, 34, 35, 7, 36, 37, 38, 39, 40, 41, 42, 43, 44, 45, 46, 47, 48, 49, 50, 51, 52, 53, 54, 55, 56, 57, 58, 59, 60, 61, 62, 63, 64, 65, 66, 67, 68, 69, 70, 71, 72, 73, 74, 75, 76, 77, 78, 79, 80, 81, 82, 83, 84, 85, 86, 87, 88, 89, 90, 91, 92, 93, 94, 95, 96, 97, 98, 99, 100, 101, 102, 103, 104, 105, 106, 107, 108, 109, 110, 115, 116, 117, 118, 119, 120, 121, 122, 123, 124, 125, 126, 127, 128, 129, 130, 131, 132, 133, 134, 135, 136, 137, 138, 139, 140, 141, 142, 143, 144, 145, 146, 147, 148, 149, 150, 151, 152, 153, 154, 155, 156, 157, 158, 159, 160, 161, 162] (by decide +kernel) (by decide +kernel)
set_option maxRecDepth 20000 in
theorem gX9_impliedNow_X9_holdsWith : GoodIn wsX9_impliedNow (wsV RX9 312 RX9 yX9_holdsWith wsX9_holdsWith) := goodIn_app (goodIn_of _ (by decide +kernel)) ggX9_impliedNow_X9_holdsWith
set_option maxRecDepth 20000 in
theorem ggX9_impliedNow_X9_holdsMore : GoodIn wsX9_impliedNow wsX9_holdsMore := goodIn_r _ [114, 18, 36, 37, 12, 13, 14, 15, 5, 16, 17, 19, 20, 21, 2, 3, 4, 6, 7, 22, 23, 24, 25, 26, 27, 28, 29, 30, 31, 32, 33, 34, 35, 38, 39, 40, 41, 42, 43, 44, 45, 46, 47, 48, 49, 50, 51, 52, 53, 54, 55, 56, 57, 58, 59, 60, 61, 62, 63, 64, 65, 66, 67, 68, 69, 70, 71, 72, 73, 74, 75, 76, 77, 78, 79, 80, 81, 82, 83, 84, 85, 86, 87, 88, 89, 90, 91, 92, 93, 94, 95, 96, 97, 98, 99, 100, 101, 102, 103, 104, 105, 106, 107, 108, 109, 110, 115, 116, 117, 118, 119, 120, 121, 122, 123, 124, 125, 126, 127, 128, 129, 130, 131, 132, 133, 134, 135, 136, 137, 138, 139, 140, 141, 142, 143, 144, 145, 146, 147, 148, 149, 150, 151, 152, 153, 154, 155, 156, 157, 158, 159, 160, 161, 162] (by decide +kernel) (by decide +kernel)
set_option maxRecDepth 20000 in
theorem gX9_impliedNow_X9_holdsMore : GoodIn wsX9_impliedNow (wsV RX9 319 RX9 yX9_holdsMore wsX9_holdsMore) := goodIn_app (goodIn_of _ (by decide +kernel)) ggX9_impliedNow_X9_holdsMore
theorem dX9_impliedNow_0 : decode cX9_impliedNow 0 = .ok (.aload_n 0, 1) := by decide +kernel
theorem dX9_impliedNow_1 : decode cX9_impliedNow 1 = .ok (.aload_n 0, 1) := by decide +kernel
theorem dX9_impliedNow_2 : decode cX9_impliedNow 2 = .ok (.invokevirtual 309, 3) := by decide +kernel
theorem dX9_impliedNow_5 : decode cX9_impliedNow 5 = .ok (.invokevirtual 312, 3) := by decide +kernel
theorem dX9_impliedNow_8 : decode cX9_impliedNow 8 = .ok (.ifCond .ne 6, 3) := by decide +kernel
theorem dX9_impliedNow_11 : decode cX9_impliedNow 11 = .ok (.ldc 152, 2) := by decide +kernel
theorem dX9_impliedNow_13 : decode cX9_impliedNow 13 = .ok (.ireturn, 1) := by decide +kernel
theorem dX9_impliedNow_14 : decode cX9_impliedNow 14 = .ok (.iload_n 3, 1) := by decide +kernel
theorem dX9_impliedNow_15 : decode cX9_impliedNow 15 = .ok (.ifCond .ne 13, 3) := by decide +kernel
theorem dX9_impliedNow_18 : decode cX9_impliedNow 18 = .ok (.aload_n 0, 1) := by decide +kernel
theorem dX9_impliedNow_19 : decode cX9_impliedNow 19 = .ok (.iconst 1, 1) := by decide +kernel
theorem dX9_impliedNow_20 : decode cX9_impliedNow 20 = .ok (.iload_n 1, 1) := by decide +kernel
theorem dX9_impliedNow_21 : decode cX9_impliedNow 21 = .ok (.iload_n 2, 1) := by decide +kernel
theorem dX9_impliedNow_22 : decode cX9_impliedNow 22 = .ok (.invokevirtual 319, 3) := by decide +kernel
theorem dX9_impliedNow_25 : decode cX9_impliedNow 25 = .ok (.goto 25, 3) := by decide +kernel
theorem dX9_impliedNow_28 : decode cX9_impliedNow 28 = .ok (.iload_n 3, 1) := by decide +kernel
theorem dX9_impliedNow_29 : decode cX9_impliedNow 29 = .ok (.iconst 1, 1) := by decide +kernel
theorem dX9_impliedNow_30 : decode cX9_impliedNow 30 = .ok (.if_icmp .ne 13, 3) := by decide +kernel
theorem dX9_impliedNow_33 : decode cX9_impliedNow 33 = .ok (.aload_n 0, 1) := by decide +kernel
theorem dX9_impliedNow_34 : decode cX9_impliedNow 34 = .ok (.iconst 0, 1) := by decide +kernel
theorem dX9_impliedNow_35 : decode cX9_impliedNow 35 = .ok (.iload_n 1, 1) := by decide +kernel
theorem dX9_impliedNow_36 : decode cX9_impliedNow 36 = .ok (.iload_n 2, 1) := by decide +kernel
theorem dX9_impliedNow_37 : decode cX9_impliedNow 37 = .ok (.invokevirtual 319, 3) := by decide +kernel
theorem dX9_impliedNow_40 : decode cX9_impliedNow 40 = .ok (.goto 10, 3) := by decide +kernel
theorem dX9_impliedNow_43 : decode cX9_impliedNow 43 = .ok (.aload_n 0, 1) := by decide +kernel
theorem dX9_impliedNow_44 : decode cX9_impliedNow 44 = .ok (.iconst 2, 1) := by decide +kernel
theorem dX9_impliedNow_45 : decode cX9_impliedNow 45 = .ok (.iload_n 2, 1) := by decide +kernel
theorem dX9_impliedNow_46 : decode cX9_impliedNow 46 = .ok (.iload_n 1, 1) := by decide +kernel
theorem dX9_impliedNow_47 : decode cX9_impliedNow 47 = .ok (.invokevirtual 319, 3) := by decide +kernel
theorem dX9_impliedNow_50 : decode cX9_impliedNow 50 = .ok (.istore 4, 2) := by decide +kernel
theorem dX9_impliedNow_52 : decode cX9_impliedNow 52 = .ok (.iload 4, 2) := by decide +kernel
theorem dX9_impliedNow_54 : decode cX9_impliedNow 54 = .ok (.ifCond .eq 7, 3) := by decide +kernel
theorem dX9_impliedNow_57 : decode cX9_impliedNow 57 = .ok (.iconst 0, 1) := by decide +kernel
theorem dX9_impliedNow_58 : decode cX9_impliedNow 58 = .ok (.goto 4, 3) := by decide +kernel
theorem dX9_impliedNow_61 : decode cX9_impliedNow 61 = .ok (.iconst 1, 1) := by decide +kernel
theorem dX9_impliedNow_62 : decode cX9_impliedNow 62 = .ok (.ireturn, 1) := by decide +kernel
set_option maxRecDepth 20000 in
theorem ggX9_implied_X9_areTerms : GoodIn wsX9_implied wsX9_areTerms := goodIn_r _ [7, 8, 9, 10, 6, 11, 128, 129, 130, 131, 132, 133, 134, 135, 136, 137, 138, 139, 140, 141, 142, 143, 144, 145, 146, 147, 148, 149, 150, 151, 152, 153, 154, 155, 156, 157, 158, 159, 160, 161, 162, 163, 164, 165, 166, 167, 168, 169, 170, 171, 172, 173, 174, 175] (by decide +kernel) (by decide +kernel)
set_option maxRecDepth 20000 in
theorem gX9_implied_X9_areTerms : GoodIn wsX9_implied (wsV RX9 210 RX9 yX9_areTerms wsX9_areTerms) := goodIn_app (goodIn_of _ (by decide +kernel)) ggX9_implied_X9_areTerms
set_option maxRecDepth 20000 in
theorem ggX9_implied_X9_within : GoodIn wsX9_implied wsX9_within := goodIn_r _ [11] (by decide +kernel) (by decide +kernel)
set_option maxRecDepth 20000 in
theorem gX9_implied_X9_within : GoodIn wsX9_implied (va_wsS RX9 77 yX9_within wsX9_within) := goodIn_app (goodIn_of _ (by decide +kernel)) ggX9_implied_X9_within
set_option maxRecDepth 20000 in
theorem ggX9_implied_X9_impliedNow : GoodIn wsX9_implied wsX9_impliedNow := goodIn_r _ [15, 16, 17, 18, 19, 6, 20, 21, 22, 23, 24, 25, 26, 27, 28, 29, 30, 31, 32, 33, 34, 35, 36, 37, 38, 39, 40, 41, 42, 43, 44, 45, 46, 8, 47, 48, 49, 50, 51, 52, 53, 54, 55, 56, 57, 58, 59, 60, 61, 62, 63, 64, 65, 66, 67, 68, 69, 70, 71, 72, 73, 74, 75, 76, 77, 78, 79, 80, 81, 82, 83, 84, 85, 86, 87, 88, 89, 90, 91, 92, 93, 94, 95, 96, 97, 98, 99, 100, 101, 102, 103, 104, 105, 106, 107, 108, 109, 110, 111, 112, 113, 114, 115, 116, 117, 118, 119, 120, 121, 122, 123, 124, 125, 126, 127, 128, 129, 130, 131, 132, 133, 134, 135, 136, 137, 138, 139, 140, 141, 142, 143, 144, 145, 146, 147, 148, 149, 150, 151, 152, 153, 154, 155, 156, 157, 158, 159, 160, 161, 162, 163, 164, 165, 166, 167, 168, 169, 170, 171, 172, 173, 174, 175] (by decide +kernel) (by decide +kernel)
set_option maxRecDepth 20000 in
theorem gX9_implied_X9_impliedNow : GoodIn wsX9_implied (wsV RX9 322 RX9 yX9_impliedNow wsX9_impliedNow) := goodIn_app (goodIn_of _ (by decide +kernel)) ggX9_implied_X9_impliedNow
theorem dX9_implied_0 : decode cX9_implied 0 = .ok (.aload_n 0, 1) := by decide +kernel
theorem dX9_implied_1 : decode cX9_implied 1 = .ok (.iload_n 1, 1) := by decide +kernel
theorem dX9_implied_2 : decode cX9_implied 2 = .ok (.iload_n 2, 1) := by decide +kernel
theorem dX9_implied_3 : decode cX9_implied 3 = .ok (.invokevirtual 210, 3) := by decide +kernel
theorem dX9_implied_6 : decode cX9_implied 6 = .ok (.ifCond .ne 6, 3) := by decide +kernel
theorem dX9_implied_9 : decode cX9_implied 9 = .ok (.ldc 159, 2) := by decide +kernel
theorem dX9_implied_11 : decode cX9_implied 11 = .ok (.ireturn, 1) := by decide +kernel
theorem dX9_implied_12 : decode cX9_implied 12 = .ok (.iload_n 3, 1) := by decide +kernel
theorem dX9_implied_13 : decode cX9_implied 13 = .ok (.iconst 0, 1) := by decide +kernel
theorem dX9_implied_14 : decode cX9_implied 14 = .ok (.iconst 2, 1) := by decide +kernel
theorem dX9_implied_15 : decode cX9_implied 15 = .ok (.invokestatic 77, 3) := by decide +kernel
theorem dX9_implied_18 : decode cX9_implied 18 = .ok (.ifCond .eq 13, 3) := by decide +kernel
theorem dX9_implied_21 : decode cX9_implied 21 = .ok (.aload_n 0, 1) := by decide +kernel
theorem dX9_implied_22 : decode cX9_implied 22 = .ok (.iload_n 1, 1) := by decide +kernel
theorem dX9_implied_23 : decode cX9_implied 23 = .ok (.iload_n 2, 1) := by decide +kernel
theorem dX9_implied_24 : decode cX9_implied 24 = .ok (.iload_n 3, 1) := by decide +kernel
theorem dX9_implied_25 : decode cX9_implied 25 = .ok (.invokevirtual 322, 3) := by decide +kernel
theorem dX9_implied_28 : decode cX9_implied 28 = .ok (.goto 5, 3) := by decide +kernel
theorem dX9_implied_31 : decode cX9_implied 31 = .ok (.ldc 81, 2) := by decide +kernel
theorem dX9_implied_33 : decode cX9_implied 33 = .ok (.ireturn, 1) := by decide +kernel
set_option maxRecDepth 20000 in
theorem ggX9_whyNow_X9_all : GoodIn wsX9_whyNow wsX9_all := goodIn_r _ [6, 1, 110, 111, 112, 113, 114, 115, 116, 117, 118, 119, 120, 121, 122, 123, 124, 125, 126, 127, 128, 129, 130, 131, 132, 133, 134, 135, 136, 137, 138, 139, 140, 141, 142, 143, 144, 145, 146, 147, 148, 149, 150, 151, 152, 153, 154, 155, 156, 157] (by decide +kernel) (by decide +kernel)
set_option maxRecDepth 20000 in
theorem gX9_whyNow_X9_all : GoodIn wsX9_whyNow (wsV RX9 309 RX9 yX9_all wsX9_all) := goodIn_app (goodIn_of _ (by decide +kernel)) ggX9_whyNow_X9_all
set_option maxRecDepth 20000 in
theorem ggX9_whyNow_X9_holdsWith : GoodIn wsX9_whyNow wsX9_holdsWith := goodIn_r _ [10, 11, 12, 13, 14, 5, 15, 16, 17, 18, 19, 20, 21, 22, 23, 24, 25, 26, 27, 28, 29, 30, 31, 32, 33, 34, 1, 35, 36, 37, 38, 39, 40, 41, 42, 43, 44, 45, 46, 47, 48, 49, 50, 51, 52, 53, 54, 55, 56, 57, 58, 59, 60, 61, 62, 63, 64, 65, 66, 67, 68, 69, 70, 71, 72, 73, 74, 75, 76, 77, 78, 79, 80, 81, 82, 83, 84, 85, 86, 87, 88, 89, 90, 91, 92, 93, 94, 95, 96, 97, 98, 99, 100, 101, 102, 103, 104, 105, 106, 107, 108, 109, 110, 111, 112, 113, 114, 115, 116, 117, 118, 119, 120, 121, 122, 123, 124, 125, 126, 127, 128, 129, 130, 131, 132, 133, 134, 135, 136, 137, 138, 139, 140, 141, 142, 143, 144, 145, 146, 147, 148, 149, 150, 151, 152, 153, 154, 155, 156, 157] (by decide +kernel) (by decide +kernel)
set_option maxRecDepth 20000 in
theorem gX9_whyNow_X9_holdsWith : GoodIn wsX9_whyNow (wsV RX9 312 RX9 yX9_holdsWith wsX9_holdsWith) := goodIn_app (goodIn_of _ (by decide +kernel)) ggX9_whyNow_X9_holdsWith
theorem dX9_whyNow_0 : decode cX9_whyNow 0 = .ok (.aload_n 0, 1) := by decide +kernel
theorem dX9_whyNow_1 : decode cX9_whyNow 1 = .ok (.invokevirtual 309, 3) := by decide +kernel
theorem dX9_whyNow_4 : decode cX9_whyNow 4 = .ok (.istore_n 1, 1) := by decide +kernel
theorem dX9_whyNow_5 : decode cX9_whyNow 5 = .ok (.aload_n 0, 1) := by decide +kernel
theorem dX9_whyNow_6 : decode cX9_whyNow 6 = .ok (.getfield 141, 3) := by decide +kernel
theorem dX9_whyNow_9 : decode cX9_whyNow 9 = .ok (.iconst 1, 1) := by decide +kernel
theorem dX9_whyNow_10 : decode cX9_whyNow 10 = .ok (.isub, 1) := by decide +kernel
theorem dX9_whyNow_11 : decode cX9_whyNow 11 = .ok (.istore_n 2, 1) := by decide +kernel
theorem dX9_whyNow_12 : decode cX9_whyNow 12 = .ok (.iload_n 2, 1) := by decide +kernel
theorem dX9_whyNow_13 : decode cX9_whyNow 13 = .ok (.ifCond .lt 35, 3) := by decide +kernel
theorem dX9_whyNow_16 : decode cX9_whyNow 16 = .ok (.aload_n 0, 1) := by decide +kernel
theorem dX9_whyNow_17 : decode cX9_whyNow 17 = .ok (.iload_n 1, 1) := by decide +kernel
theorem dX9_whyNow_18 : decode cX9_whyNow 18 = .ok (.iconst 1, 1) := by decide +kernel
theorem dX9_whyNow_19 : decode cX9_whyNow 19 = .ok (.iload_n 2, 1) := by decide +kernel
theorem dX9_whyNow_20 : decode cX9_whyNow 20 = .ok (.ishl, 1) := by decide +kernel
theorem dX9_whyNow_21 : decode cX9_whyNow 21 = .ok (.iconst (-1), 1) := by decide +kernel
theorem dX9_whyNow_22 : decode cX9_whyNow 22 = .ok (.ixor, 1) := by decide +kernel
theorem dX9_whyNow_23 : decode cX9_whyNow 23 = .ok (.iand, 1) := by decide +kernel
theorem dX9_whyNow_24 : decode cX9_whyNow 24 = .ok (.invokevirtual 312, 3) := by decide +kernel
theorem dX9_whyNow_27 : decode cX9_whyNow 27 = .ok (.ifCond .eq 7, 3) := by decide +kernel
theorem dX9_whyNow_30 : decode cX9_whyNow 30 = .ok (.iload_n 1, 1) := by decide +kernel
theorem dX9_whyNow_31 : decode cX9_whyNow 31 = .ok (.goto 10, 3) := by decide +kernel
theorem dX9_whyNow_34 : decode cX9_whyNow 34 = .ok (.iload_n 1, 1) := by decide +kernel
theorem dX9_whyNow_35 : decode cX9_whyNow 35 = .ok (.iconst 1, 1) := by decide +kernel
theorem dX9_whyNow_36 : decode cX9_whyNow 36 = .ok (.iload_n 2, 1) := by decide +kernel
theorem dX9_whyNow_37 : decode cX9_whyNow 37 = .ok (.ishl, 1) := by decide +kernel
theorem dX9_whyNow_38 : decode cX9_whyNow 38 = .ok (.iconst (-1), 1) := by decide +kernel
theorem dX9_whyNow_39 : decode cX9_whyNow 39 = .ok (.ixor, 1) := by decide +kernel
theorem dX9_whyNow_40 : decode cX9_whyNow 40 = .ok (.iand, 1) := by decide +kernel
theorem dX9_whyNow_41 : decode cX9_whyNow 41 = .ok (.istore_n 1, 1) := by decide +kernel
theorem dX9_whyNow_42 : decode cX9_whyNow 42 = .ok (.iinc 2 (-1), 3) := by decide +kernel
theorem dX9_whyNow_45 : decode cX9_whyNow 45 = .ok (.goto (-33), 3) := by decide +kernel
theorem dX9_whyNow_48 : decode cX9_whyNow 48 = .ok (.iload_n 1, 1) := by decide +kernel
theorem dX9_whyNow_49 : decode cX9_whyNow 49 = .ok (.ireturn, 1) := by decide +kernel
set_option maxRecDepth 20000 in
theorem ggX9_why_X9_all : GoodIn wsX9_why wsX9_all := goodIn_r _ [6, 7, 115, 116, 117, 118, 119, 120, 121, 122, 123, 124, 125, 126, 127, 128, 129, 130, 131, 132, 133, 134, 135, 136, 137, 138, 139, 140, 141, 142, 143, 144, 145, 146, 147, 148, 149, 150, 151, 152, 153, 154, 155, 156, 157, 158, 159, 160, 161, 162] (by decide +kernel) (by decide +kernel)
set_option maxRecDepth 20000 in
theorem gX9_why_X9_all : GoodIn wsX9_why (wsV RX9 309 RX9 yX9_all wsX9_all) := goodIn_app (goodIn_of _ (by decide +kernel)) ggX9_why_X9_all
set_option maxRecDepth 20000 in
theorem ggX9_why_X9_holdsWith : GoodIn wsX9_why wsX9_holdsWith := goodIn_r _ [11, 12, 13, 14, 15, 5, 16, 17, 18, 19, 20, 21, 22, 23, 24, 25, 26, 27, 28, 29, 30, 31, 32, 33, 34, 35, 7, 36, 37, 38, 39, 40, 41, 42, 43, 44, 45, 46, 47, 48, 49, 50, 51, 52, 53, 54, 55, 56, 57, 58, 59, 60, 61, 62, 63, 64, 65, 66, 67, 68, 69, 70, 71, 72, 73, 74, 75, 76, 77, 78, 79, 80, 81, 82, 83, 84, 85, 86, 87, 88, 89, 90, 91, 92, 93, 94, 95, 96, 97, 98, 99, 100, 101, 102, 103, 104, 105, 106, 107, 108, 109, 110, 115, 116, 117, 118, 119, 120, 121, 122, 123, 124, 125, 126, 127, 128, 129, 130, 131, 132, 133, 134, 135, 136, 137, 138, 139, 140, 141, 142, 143, 144, 145, 146, 147, 148, 149, 150, 151, 152, 153, 154, 155, 156, 157, 158, 159, 160, 161, 162] (by decide +kernel) (by decide +kernel)
set_option maxRecDepth 20000 in
theorem gX9_why_X9_holdsWith : GoodIn wsX9_why (wsV RX9 312 RX9 yX9_holdsWith wsX9_holdsWith) := goodIn_app (goodIn_of _ (by decide +kernel)) ggX9_why_X9_holdsWith
set_option maxRecDepth 20000 in
theorem ggX9_why_X9_whyNow : GoodIn wsX9_why wsX9_whyNow := goodIn_r _ [114, 7, 2, 3, 4, 5, 6, 8, 9, 10, 11, 12, 13, 14, 15, 16, 17, 18, 19, 20, 21, 22, 23, 24, 25, 26, 27, 28, 29, 30, 31, 32, 33, 34, 35, 36, 37, 38, 39, 40, 41, 42, 43, 44, 45, 46, 47, 48, 49, 50, 51, 52, 53, 54, 55, 56, 57, 58, 59, 60, 61, 62, 63, 64, 65, 66, 67, 68, 69, 70, 71, 72, 73, 74, 75, 76, 77, 78, 79, 80, 81, 82, 83, 84, 85, 86, 87, 88, 89, 90, 91, 92, 93, 94, 95, 96, 97, 98, 99, 100, 101, 102, 103, 104, 105, 106, 107, 108, 109, 110, 115, 116, 117, 118, 119, 120, 121, 122, 123, 124, 125, 126, 127, 128, 129, 130, 131, 132, 133, 134, 135, 136, 137, 138, 139, 140, 141, 142, 143, 144, 145, 146, 147, 148, 149, 150, 151, 152, 153, 154, 155, 156, 157, 158, 159, 160, 161, 162] (by decide +kernel) (by decide +kernel)
set_option maxRecDepth 20000 in
theorem gX9_why_X9_whyNow : GoodIn wsX9_why (wsV RX9 325 RX9 yX9_whyNow wsX9_whyNow) := goodIn_app (goodIn_of _ (by decide +kernel)) ggX9_why_X9_whyNow
theorem dX9_why_0 : decode cX9_why 0 = .ok (.aload_n 0, 1) := by decide +kernel
theorem dX9_why_1 : decode cX9_why 1 = .ok (.aload_n 0, 1) := by decide +kernel
theorem dX9_why_2 : decode cX9_why 2 = .ok (.invokevirtual 309, 3) := by decide +kernel
theorem dX9_why_5 : decode cX9_why 5 = .ok (.invokevirtual 312, 3) := by decide +kernel
theorem dX9_why_8 : decode cX9_why 8 = .ok (.ifCond .eq 8, 3) := by decide +kernel
theorem dX9_why_11 : decode cX9_why 11 = .ok (.ldc 152, 2) := by decide +kernel
theorem dX9_why_13 : decode cX9_why 13 = .ok (.goto 7, 3) := by decide +kernel
theorem dX9_why_16 : decode cX9_why 16 = .ok (.aload_n 0, 1) := by decide +kernel
theorem dX9_why_17 : decode cX9_why 17 = .ok (.invokevirtual 325, 3) := by decide +kernel
theorem dX9_why_20 : decode cX9_why 20 = .ok (.ireturn, 1) := by decide +kernel
set_option maxRecDepth 20000 in
theorem ggX9_canBothBeUnlike_X9_asksPlain : GoodIn wsX9_canBothBeUnlike wsX9_asksPlain := goodIn_r _ [11, 12, 1, 4, 13, 14, 106, 107, 108, 109, 110, 111, 112, 113, 114, 115, 116, 117, 118, 119, 120, 121, 122, 123, 124, 125, 126, 127, 128, 129, 130, 131, 132, 133, 134, 135, 136, 137, 138, 139, 140, 141, 142, 143, 144, 145, 146, 147, 148, 149, 150, 151, 152, 153] (by decide +kernel) (by decide +kernel)
set_option maxRecDepth 20000 in
theorem gX9_canBothBeUnlike_X9_asksPlain : GoodIn wsX9_canBothBeUnlike (wsV RX9 303 RX9 yX9_asksPlain wsX9_asksPlain) := goodIn_app (goodIn_of _ (by decide +kernel)) ggX9_canBothBeUnlike_X9_asksPlain
set_option maxRecDepth 20000 in
theorem ggX9_canBothBeUnlike_X9_all : GoodIn wsX9_canBothBeUnlike wsX9_all := goodIn_r _ [18, 19, 106, 107, 108, 109, 110, 111, 112, 113, 114, 115, 116, 117, 118, 119, 120, 121, 122, 123, 124, 125, 126, 127, 128, 129, 130, 131, 132, 133, 134, 135, 136, 137, 138, 139, 140, 141, 142, 143, 144, 145, 146, 147, 148, 149, 150, 151, 152, 153] (by decide +kernel) (by decide +kernel)
set_option maxRecDepth 20000 in
theorem gX9_canBothBeUnlike_X9_all : GoodIn wsX9_canBothBeUnlike (wsV RX9 309 RX9 yX9_all wsX9_all) := goodIn_app (goodIn_of _ (by decide +kernel)) ggX9_canBothBeUnlike_X9_all
set_option maxRecDepth 20000 in
theorem ggX9_canBothBeUnlike_X9_seek : GoodIn wsX9_canBothBeUnlike wsX9_seek := goodIn_r _ [23, 24, 6, 25, 26, 27, 28, 29, 10, 30, 31, 32, 33, 19, 1, 2, 3, 34, 35, 36, 37, 38, 39, 40, 41, 42, 43, 44, 45, 46, 47, 48, 49, 50, 51, 52, 53, 54, 55, 56, 57, 58, 59, 60, 61, 12, 62, 63, 64, 65, 14, 66, 67, 68, 69, 70, 71, 72, 73, 13, 74, 75, 76, 77, 78, 79, 80, 81, 82, 83, 4, 5, 84, 85, 86, 87, 88, 89, 90, 91, 92, 93, 94, 95, 96, 97, 98, 99, 100, 101, 102, 103, 104, 105, 106, 107, 108, 109, 110, 111, 112, 113, 114, 115, 116, 117, 118, 119, 120, 121, 122, 123, 124, 125, 126, 127, 128, 129, 130, 131, 132, 133, 134, 135, 136, 137, 138, 139, 140, 141, 142, 143, 144, 145, 146, 147, 148, 149, 150, 151, 152, 153] (by decide +kernel) (by decide +kernel)
set_option maxRecDepth 20000 in
theorem gX9_canBothBeUnlike_X9_seek : GoodIn wsX9_canBothBeUnlike (wsV RX9 306 RX9 yX9_seek wsX9_seek) := goodIn_app (goodIn_of _ (by decide +kernel)) ggX9_canBothBeUnlike_X9_seek
theorem dX9_canBothBeUnlike_0 : decode cX9_canBothBeUnlike 0 = .ok (.aload_n 0, 1) := by decide +kernel
theorem dX9_canBothBeUnlike_1 : decode cX9_canBothBeUnlike 1 = .ok (.invokevirtual 303, 3) := by decide +kernel
theorem dX9_canBothBeUnlike_4 : decode cX9_canBothBeUnlike 4 = .ok (.aload_n 0, 1) := by decide +kernel
theorem dX9_canBothBeUnlike_5 : decode cX9_canBothBeUnlike 5 = .ok (.iconst 1, 1) := by decide +kernel
theorem dX9_canBothBeUnlike_6 : decode cX9_canBothBeUnlike 6 = .ok (.putfield 233, 3) := by decide +kernel
theorem dX9_canBothBeUnlike_9 : decode cX9_canBothBeUnlike 9 = .ok (.aload_n 0, 1) := by decide +kernel
theorem dX9_canBothBeUnlike_10 : decode cX9_canBothBeUnlike 10 = .ok (.iload_n 1, 1) := by decide +kernel
theorem dX9_canBothBeUnlike_11 : decode cX9_canBothBeUnlike 11 = .ok (.bipush 10, 2) := by decide +kernel
theorem dX9_canBothBeUnlike_13 : decode cX9_canBothBeUnlike 13 = .ok (.idiv, 1) := by decide +kernel
theorem dX9_canBothBeUnlike_14 : decode cX9_canBothBeUnlike 14 = .ok (.putfield 236, 3) := by decide +kernel
theorem dX9_canBothBeUnlike_17 : decode cX9_canBothBeUnlike 17 = .ok (.aload_n 0, 1) := by decide +kernel
theorem dX9_canBothBeUnlike_18 : decode cX9_canBothBeUnlike 18 = .ok (.iload_n 1, 1) := by decide +kernel
theorem dX9_canBothBeUnlike_19 : decode cX9_canBothBeUnlike 19 = .ok (.bipush 10, 2) := by decide +kernel
theorem dX9_canBothBeUnlike_21 : decode cX9_canBothBeUnlike 21 = .ok (.irem, 1) := by decide +kernel
theorem dX9_canBothBeUnlike_22 : decode cX9_canBothBeUnlike 22 = .ok (.putfield 239, 3) := by decide +kernel
theorem dX9_canBothBeUnlike_25 : decode cX9_canBothBeUnlike 25 = .ok (.aload_n 0, 1) := by decide +kernel
theorem dX9_canBothBeUnlike_26 : decode cX9_canBothBeUnlike 26 = .ok (.iload_n 2, 1) := by decide +kernel
theorem dX9_canBothBeUnlike_27 : decode cX9_canBothBeUnlike 27 = .ok (.bipush 10, 2) := by decide +kernel
theorem dX9_canBothBeUnlike_29 : decode cX9_canBothBeUnlike 29 = .ok (.idiv, 1) := by decide +kernel
theorem dX9_canBothBeUnlike_30 : decode cX9_canBothBeUnlike 30 = .ok (.putfield 256, 3) := by decide +kernel
theorem dX9_canBothBeUnlike_33 : decode cX9_canBothBeUnlike 33 = .ok (.aload_n 0, 1) := by decide +kernel
theorem dX9_canBothBeUnlike_34 : decode cX9_canBothBeUnlike 34 = .ok (.iload_n 2, 1) := by decide +kernel
theorem dX9_canBothBeUnlike_35 : decode cX9_canBothBeUnlike 35 = .ok (.bipush 10, 2) := by decide +kernel
theorem dX9_canBothBeUnlike_37 : decode cX9_canBothBeUnlike 37 = .ok (.irem, 1) := by decide +kernel
theorem dX9_canBothBeUnlike_38 : decode cX9_canBothBeUnlike 38 = .ok (.putfield 259, 3) := by decide +kernel
theorem dX9_canBothBeUnlike_41 : decode cX9_canBothBeUnlike 41 = .ok (.aload_n 0, 1) := by decide +kernel
theorem dX9_canBothBeUnlike_42 : decode cX9_canBothBeUnlike 42 = .ok (.aload_n 0, 1) := by decide +kernel
theorem dX9_canBothBeUnlike_43 : decode cX9_canBothBeUnlike 43 = .ok (.invokevirtual 309, 3) := by decide +kernel
theorem dX9_canBothBeUnlike_46 : decode cX9_canBothBeUnlike 46 = .ok (.invokevirtual 306, 3) := by decide +kernel
theorem dX9_canBothBeUnlike_49 : decode cX9_canBothBeUnlike 49 = .ok (.aload_n 0, 1) := by decide +kernel
theorem dX9_canBothBeUnlike_50 : decode cX9_canBothBeUnlike 50 = .ok (.getfield 271, 3) := by decide +kernel
theorem dX9_canBothBeUnlike_53 : decode cX9_canBothBeUnlike 53 = .ok (.ireturn, 1) := by decide +kernel
set_option maxRecDepth 20000 in
theorem ggX9_eitherNow_X9_canBothBeUnlike : GoodIn wsX9_eitherNow wsX9_canBothBeUnlike := goodIn_r _ [6, 7, 8, 9, 10, 11, 12, 13, 14, 15, 5, 16, 1, 17, 18, 19, 20, 21, 22, 23, 24, 25, 26, 27, 28, 29, 30, 31, 32, 33, 34, 35, 36, 37, 38, 39, 40, 41, 42, 43, 44, 45, 46, 47, 48, 49, 50, 51, 52, 53, 54, 55, 56, 57, 58, 59, 60, 61, 62, 63, 64, 65, 66, 67, 68, 69, 70, 71, 72, 73, 74, 75, 76, 77, 78, 79, 80, 81, 82, 83, 84, 85, 86, 87, 88, 89, 90, 91, 92, 93, 94, 95, 96, 97, 98, 99, 100, 101, 102, 103, 104, 105, 106, 107, 108, 109, 110, 111, 112, 113, 114, 115, 116, 117, 118, 119, 120, 121, 122, 123, 124, 125, 126, 127, 128, 129, 130, 131, 132, 133, 134, 135, 136, 137, 138, 139, 140, 141, 142, 143, 144, 145, 146, 147, 148, 149, 150, 151, 152, 153, 154, 155, 156, 157] (by decide +kernel) (by decide +kernel)
set_option maxRecDepth 20000 in
theorem gX9_eitherNow_X9_canBothBeUnlike : GoodIn wsX9_eitherNow (wsV RX9 328 RX9 yX9_canBothBeUnlike wsX9_canBothBeUnlike) := goodIn_app (goodIn_of _ (by decide +kernel)) ggX9_eitherNow_X9_canBothBeUnlike
theorem dX9_eitherNow_0 : decode cX9_eitherNow 0 = .ok (.iconst 1, 1) := by decide +kernel
theorem dX9_eitherNow_1 : decode cX9_eitherNow 1 = .ok (.istore_n 2, 1) := by decide +kernel
theorem dX9_eitherNow_2 : decode cX9_eitherNow 2 = .ok (.iload_n 2, 1) := by decide +kernel
theorem dX9_eitherNow_3 : decode cX9_eitherNow 3 = .ok (.bipush 50, 2) := by decide +kernel
theorem dX9_eitherNow_5 : decode cX9_eitherNow 5 = .ok (.if_icmp .ge 112, 3) := by decide +kernel
theorem dX9_eitherNow_8 : decode cX9_eitherNow 8 = .ok (.iload_n 2, 1) := by decide +kernel
theorem dX9_eitherNow_9 : decode cX9_eitherNow 9 = .ok (.iconst 1, 1) := by decide +kernel
theorem dX9_eitherNow_10 : decode cX9_eitherNow 10 = .ok (.iadd, 1) := by decide +kernel
theorem dX9_eitherNow_11 : decode cX9_eitherNow 11 = .ok (.istore_n 3, 1) := by decide +kernel
theorem dX9_eitherNow_12 : decode cX9_eitherNow 12 = .ok (.iload_n 3, 1) := by decide +kernel
theorem dX9_eitherNow_13 : decode cX9_eitherNow 13 = .ok (.bipush 50, 2) := by decide +kernel
theorem dX9_eitherNow_15 : decode cX9_eitherNow 15 = .ok (.if_icmp .ge 96, 3) := by decide +kernel
theorem dX9_eitherNow_18 : decode cX9_eitherNow 18 = .ok (.iload_n 2, 1) := by decide +kernel
theorem dX9_eitherNow_19 : decode cX9_eitherNow 19 = .ok (.bipush 10, 2) := by decide +kernel
theorem dX9_eitherNow_21 : decode cX9_eitherNow 21 = .ok (.idiv, 1) := by decide +kernel
theorem dX9_eitherNow_22 : decode cX9_eitherNow 22 = .ok (.iload_n 2, 1) := by decide +kernel
theorem dX9_eitherNow_23 : decode cX9_eitherNow 23 = .ok (.bipush 10, 2) := by decide +kernel
theorem dX9_eitherNow_25 : decode cX9_eitherNow 25 = .ok (.irem, 1) := by decide +kernel
theorem dX9_eitherNow_26 : decode cX9_eitherNow 26 = .ok (.if_icmp .ge 34, 3) := by decide +kernel
theorem dX9_eitherNow_29 : decode cX9_eitherNow 29 = .ok (.iload_n 2, 1) := by decide +kernel
theorem dX9_eitherNow_30 : decode cX9_eitherNow 30 = .ok (.bipush 10, 2) := by decide +kernel
theorem dX9_eitherNow_32 : decode cX9_eitherNow 32 = .ok (.irem, 1) := by decide +kernel
theorem dX9_eitherNow_33 : decode cX9_eitherNow 33 = .ok (.iconst 5, 1) := by decide +kernel
theorem dX9_eitherNow_34 : decode cX9_eitherNow 34 = .ok (.if_icmp .ge 26, 3) := by decide +kernel
theorem dX9_eitherNow_37 : decode cX9_eitherNow 37 = .ok (.iload_n 3, 1) := by decide +kernel
theorem dX9_eitherNow_38 : decode cX9_eitherNow 38 = .ok (.bipush 10, 2) := by decide +kernel
theorem dX9_eitherNow_40 : decode cX9_eitherNow 40 = .ok (.idiv, 1) := by decide +kernel
theorem dX9_eitherNow_41 : decode cX9_eitherNow 41 = .ok (.iload_n 3, 1) := by decide +kernel
theorem dX9_eitherNow_42 : decode cX9_eitherNow 42 = .ok (.bipush 10, 2) := by decide +kernel
theorem dX9_eitherNow_44 : decode cX9_eitherNow 44 = .ok (.irem, 1) := by decide +kernel
theorem dX9_eitherNow_45 : decode cX9_eitherNow 45 = .ok (.if_icmp .ge 15, 3) := by decide +kernel
theorem dX9_eitherNow_48 : decode cX9_eitherNow 48 = .ok (.iload_n 3, 1) := by decide +kernel
theorem dX9_eitherNow_49 : decode cX9_eitherNow 49 = .ok (.bipush 10, 2) := by decide +kernel
theorem dX9_eitherNow_51 : decode cX9_eitherNow 51 = .ok (.irem, 1) := by decide +kernel
theorem dX9_eitherNow_52 : decode cX9_eitherNow 52 = .ok (.iconst 5, 1) := by decide +kernel
theorem dX9_eitherNow_53 : decode cX9_eitherNow 53 = .ok (.if_icmp .ge 7, 3) := by decide +kernel
theorem dX9_eitherNow_56 : decode cX9_eitherNow 56 = .ok (.iconst 1, 1) := by decide +kernel
theorem dX9_eitherNow_57 : decode cX9_eitherNow 57 = .ok (.goto 4, 3) := by decide +kernel
theorem dX9_eitherNow_60 : decode cX9_eitherNow 60 = .ok (.iconst 0, 1) := by decide +kernel
theorem dX9_eitherNow_61 : decode cX9_eitherNow 61 = .ok (.istore 4, 2) := by decide +kernel
theorem dX9_eitherNow_63 : decode cX9_eitherNow 63 = .ok (.iload 4, 2) := by decide +kernel
theorem dX9_eitherNow_65 : decode cX9_eitherNow 65 = .ok (.ifCond .eq 40, 3) := by decide +kernel
theorem dX9_eitherNow_68 : decode cX9_eitherNow 68 = .ok (.aload_n 0, 1) := by decide +kernel
theorem dX9_eitherNow_69 : decode cX9_eitherNow 69 = .ok (.iload_n 2, 1) := by decide +kernel
theorem dX9_eitherNow_70 : decode cX9_eitherNow 70 = .ok (.iload_n 3, 1) := by decide +kernel
theorem dX9_eitherNow_71 : decode cX9_eitherNow 71 = .ok (.invokevirtual 328, 3) := by decide +kernel
theorem dX9_eitherNow_74 : decode cX9_eitherNow 74 = .ok (.ifCond .ne 31, 3) := by decide +kernel
theorem dX9_eitherNow_77 : decode cX9_eitherNow 77 = .ok (.aload_n 0, 1) := by decide +kernel
theorem dX9_eitherNow_78 : decode cX9_eitherNow 78 = .ok (.iload_n 2, 1) := by decide +kernel
theorem dX9_eitherNow_79 : decode cX9_eitherNow 79 = .ok (.iload_n 2, 1) := by decide +kernel
theorem dX9_eitherNow_80 : decode cX9_eitherNow 80 = .ok (.invokevirtual 328, 3) := by decide +kernel
theorem dX9_eitherNow_83 : decode cX9_eitherNow 83 = .ok (.ifCond .eq 22, 3) := by decide +kernel
theorem dX9_eitherNow_86 : decode cX9_eitherNow 86 = .ok (.aload_n 0, 1) := by decide +kernel
theorem dX9_eitherNow_87 : decode cX9_eitherNow 87 = .ok (.iload_n 3, 1) := by decide +kernel
theorem dX9_eitherNow_88 : decode cX9_eitherNow 88 = .ok (.iload_n 3, 1) := by decide +kernel
theorem dX9_eitherNow_89 : decode cX9_eitherNow 89 = .ok (.invokevirtual 328, 3) := by decide +kernel
theorem dX9_eitherNow_92 : decode cX9_eitherNow 92 = .ok (.ifCond .eq 13, 3) := by decide +kernel
theorem dX9_eitherNow_95 : decode cX9_eitherNow 95 = .ok (.iload_n 1, 1) := by decide +kernel
theorem dX9_eitherNow_96 : decode cX9_eitherNow 96 = .ok (.ifCond .ne 7, 3) := by decide +kernel
theorem dX9_eitherNow_99 : decode cX9_eitherNow 99 = .ok (.iload_n 2, 1) := by decide +kernel
theorem dX9_eitherNow_100 : decode cX9_eitherNow 100 = .ok (.goto 4, 3) := by decide +kernel
theorem dX9_eitherNow_103 : decode cX9_eitherNow 103 = .ok (.iload_n 3, 1) := by decide +kernel
theorem dX9_eitherNow_104 : decode cX9_eitherNow 104 = .ok (.ireturn, 1) := by decide +kernel
theorem dX9_eitherNow_105 : decode cX9_eitherNow 105 = .ok (.iinc 3 1, 3) := by decide +kernel
theorem dX9_eitherNow_108 : decode cX9_eitherNow 108 = .ok (.goto (-96), 3) := by decide +kernel
theorem dX9_eitherNow_111 : decode cX9_eitherNow 111 = .ok (.iinc 2 1, 3) := by decide +kernel
theorem dX9_eitherNow_114 : decode cX9_eitherNow 114 = .ok (.goto (-112), 3) := by decide +kernel
theorem dX9_eitherNow_117 : decode cX9_eitherNow 117 = .ok (.ldc 140, 2) := by decide +kernel
theorem dX9_eitherNow_119 : decode cX9_eitherNow 119 = .ok (.ireturn, 1) := by decide +kernel
set_option maxRecDepth 20000 in
theorem ggX9_either_X9_within : GoodIn wsX9_either wsX9_within := goodIn_r _ [7] (by decide +kernel) (by decide +kernel)
set_option maxRecDepth 20000 in
theorem gX9_either_X9_within : GoodIn wsX9_either (va_wsS RX9 77 yX9_within wsX9_within) := goodIn_app (goodIn_of _ (by decide +kernel)) ggX9_either_X9_within
set_option maxRecDepth 20000 in
theorem ggX9_either_X9_all : GoodIn wsX9_either wsX9_all := goodIn_r _ [11, 12, 124, 125, 126, 127, 128, 129, 130, 131, 132, 133, 134, 135, 136, 137, 138, 139, 140, 141, 142, 143, 144, 145, 146, 147, 148, 149, 150, 151, 152, 153, 154, 155, 156, 157, 158, 159, 160, 161, 162, 163, 164, 165, 166, 167, 168, 169, 170, 171] (by decide +kernel) (by decide +kernel)
set_option maxRecDepth 20000 in
theorem gX9_either_X9_all : GoodIn wsX9_either (wsV RX9 309 RX9 yX9_all wsX9_all) := goodIn_app (goodIn_of _ (by decide +kernel)) ggX9_either_X9_all
set_option maxRecDepth 20000 in
theorem ggX9_either_X9_holdsWith : GoodIn wsX9_either wsX9_holdsWith := goodIn_r _ [16, 17, 18, 19, 20, 6, 21, 22, 23, 24, 25, 26, 27, 28, 29, 30, 31, 32, 33, 34, 35, 36, 37, 38, 39, 40, 12, 41, 42, 43, 44, 45, 46, 47, 48, 49, 50, 51, 52, 53, 54, 55, 56, 57, 58, 59, 60, 61, 62, 63, 64, 65, 66, 67, 68, 69, 70, 71, 72, 73, 74, 75, 76, 77, 78, 79, 80, 81, 82, 83, 84, 85, 86, 87, 88, 89, 90, 91, 92, 93, 94, 95, 96, 97, 98, 99, 100, 101, 102, 103, 104, 105, 106, 107, 108, 109, 110, 111, 112, 113, 114, 115, 124, 125, 126, 127, 128, 129, 130, 131, 132, 133, 134, 135, 136, 137, 138, 139, 140, 141, 142, 143, 144, 145, 146, 147, 148, 149, 150, 151, 152, 153, 154, 155, 156, 157, 158, 159, 160, 161, 162, 163, 164, 165, 166, 167, 168, 169, 170, 171] (by decide +kernel) (by decide +kernel)
set_option maxRecDepth 20000 in
theorem gX9_either_X9_holdsWith : GoodIn wsX9_either (wsV RX9 312 RX9 yX9_holdsWith wsX9_holdsWith) := goodIn_app (goodIn_of _ (by decide +kernel)) ggX9_either_X9_holdsWith
set_option maxRecDepth 20000 in
theorem ggX9_either_X9_eitherNow : GoodIn wsX9_either wsX9_eitherNow := goodIn_r _ [119, 22, 120, 121, 122, 6, 123, 23, 41, 42, 24, 93, 17, 18, 19, 20, 21, 25, 26, 8, 9, 10, 11, 12, 27, 28, 29, 30, 31, 32, 33, 34, 35, 36, 37, 38, 39, 40, 43, 44, 45, 46, 47, 48, 49, 50, 51, 52, 53, 54, 55, 56, 57, 58, 59, 60, 61, 62, 63, 64, 65, 66, 67, 68, 69, 70, 71, 72, 73, 74, 75, 76, 77, 78, 79, 80, 81, 82, 83, 84, 85, 86, 87, 88, 89, 90, 91, 92, 94, 95, 96, 97, 98, 99, 100, 101, 102, 103, 104, 105, 106, 107, 108, 109, 110, 111, 112, 113, 114, 115, 124, 125, 126, 127, 128, 129, 130, 131, 132, 133, 134, 135, 136, 137, 138, 139, 140, 141, 142, 143, 144, 145, 146, 147, 148, 149, 150, 151, 152, 153, 154, 155, 156, 157, 158, 159, 160, 161, 162, 163, 164, 165, 166, 167, 168, 169, 170, 171] (by decide +kernel) (by decide +kernel)
set_option maxRecDepth 20000 in
theorem gX9_either_X9_eitherNow : GoodIn wsX9_either (wsV RX9 334 RX9 yX9_eitherNow wsX9_eitherNow) := goodIn_app (goodIn_of _ (by decide +kernel)) ggX9_either_X9_eitherNow
theorem dX9_either_0 : decode cX9_either 0 = .ok (.iload_n 1, 1) := by decide +kernel
theorem dX9_either_1 : decode cX9_either 1 = .ok (.iconst 0, 1) := by decide +kernel
theorem dX9_either_2 : decode cX9_either 2 = .ok (.iconst 1, 1) := by decide +kernel
theorem dX9_either_3 : decode cX9_either 3 = .ok (.invokestatic 77, 3) := by decide +kernel
theorem dX9_either_6 : decode cX9_either 6 = .ok (.ifCond .ne 6, 3) := by decide +kernel
theorem dX9_either_9 : decode cX9_either 9 = .ok (.ldc 81, 2) := by decide +kernel
theorem dX9_either_11 : decode cX9_either 11 = .ok (.ireturn, 1) := by decide +kernel
theorem dX9_either_12 : decode cX9_either 12 = .ok (.aload_n 0, 1) := by decide +kernel
theorem dX9_either_13 : decode cX9_either 13 = .ok (.aload_n 0, 1) := by decide +kernel
theorem dX9_either_14 : decode cX9_either 14 = .ok (.invokevirtual 309, 3) := by decide +kernel
theorem dX9_either_17 : decode cX9_either 17 = .ok (.invokevirtual 312, 3) := by decide +kernel
theorem dX9_either_20 : decode cX9_either 20 = .ok (.ifCond .eq 12, 3) := by decide +kernel
theorem dX9_either_23 : decode cX9_either 23 = .ok (.aload_n 0, 1) := by decide +kernel
theorem dX9_either_24 : decode cX9_either 24 = .ok (.getfield 331, 3) := by decide +kernel
theorem dX9_either_27 : decode cX9_either 27 = .ok (.bipush 12, 2) := by decide +kernel
theorem dX9_either_29 : decode cX9_either 29 = .ok (.if_icmp .ne 6, 3) := by decide +kernel
theorem dX9_either_32 : decode cX9_either 32 = .ok (.ldc 152, 2) := by decide +kernel
theorem dX9_either_34 : decode cX9_either 34 = .ok (.ireturn, 1) := by decide +kernel
theorem dX9_either_35 : decode cX9_either 35 = .ok (.aload_n 0, 1) := by decide +kernel
theorem dX9_either_36 : decode cX9_either 36 = .ok (.dup, 1) := by decide +kernel
theorem dX9_either_37 : decode cX9_either 37 = .ok (.getfield 331, 3) := by decide +kernel
theorem dX9_either_40 : decode cX9_either 40 = .ok (.iconst 1, 1) := by decide +kernel
theorem dX9_either_41 : decode cX9_either 41 = .ok (.iadd, 1) := by decide +kernel
theorem dX9_either_42 : decode cX9_either 42 = .ok (.putfield 331, 3) := by decide +kernel
theorem dX9_either_45 : decode cX9_either 45 = .ok (.aload_n 0, 1) := by decide +kernel
theorem dX9_either_46 : decode cX9_either 46 = .ok (.iload_n 1, 1) := by decide +kernel
theorem dX9_either_47 : decode cX9_either 47 = .ok (.invokevirtual 334, 3) := by decide +kernel
theorem dX9_either_50 : decode cX9_either 50 = .ok (.ireturn, 1) := by decide +kernel
theorem dX9_literalNow_0 : decode cX9_literalNow 0 = .ok (.iload_n 2, 1) := by decide +kernel
theorem dX9_literalNow_1 : decode cX9_literalNow 1 = .ok (.ifCond .ne 12, 3) := by decide +kernel
theorem dX9_literalNow_4 : decode cX9_literalNow 4 = .ok (.aload_n 0, 1) := by decide +kernel
theorem dX9_literalNow_5 : decode cX9_literalNow 5 = .ok (.getfield 19, 3) := by decide +kernel
theorem dX9_literalNow_8 : decode cX9_literalNow 8 = .ok (.iload_n 1, 1) := by decide +kernel
theorem dX9_literalNow_9 : decode cX9_literalNow 9 = .ok (.iaload, 1) := by decide +kernel
theorem dX9_literalNow_10 : decode cX9_literalNow 10 = .ok (.goto 37, 3) := by decide +kernel
theorem dX9_literalNow_13 : decode cX9_literalNow 13 = .ok (.iload_n 2, 1) := by decide +kernel
theorem dX9_literalNow_14 : decode cX9_literalNow 14 = .ok (.iconst 1, 1) := by decide +kernel
theorem dX9_literalNow_15 : decode cX9_literalNow 15 = .ok (.if_icmp .ne 12, 3) := by decide +kernel
theorem dX9_literalNow_18 : decode cX9_literalNow 18 = .ok (.aload_n 0, 1) := by decide +kernel
theorem dX9_literalNow_19 : decode cX9_literalNow 19 = .ok (.getfield 37, 3) := by decide +kernel
theorem dX9_literalNow_22 : decode cX9_literalNow 22 = .ok (.iload_n 1, 1) := by decide +kernel
theorem dX9_literalNow_23 : decode cX9_literalNow 23 = .ok (.iaload, 1) := by decide +kernel
theorem dX9_literalNow_24 : decode cX9_literalNow 24 = .ok (.goto 23, 3) := by decide +kernel
theorem dX9_literalNow_27 : decode cX9_literalNow 27 = .ok (.iload_n 2, 1) := by decide +kernel
theorem dX9_literalNow_28 : decode cX9_literalNow 28 = .ok (.iconst 2, 1) := by decide +kernel
theorem dX9_literalNow_29 : decode cX9_literalNow 29 = .ok (.if_icmp .ne 12, 3) := by decide +kernel
theorem dX9_literalNow_32 : decode cX9_literalNow 32 = .ok (.aload_n 0, 1) := by decide +kernel
theorem dX9_literalNow_33 : decode cX9_literalNow 33 = .ok (.getfield 40, 3) := by decide +kernel
theorem dX9_literalNow_36 : decode cX9_literalNow 36 = .ok (.iload_n 1, 1) := by decide +kernel
theorem dX9_literalNow_37 : decode cX9_literalNow 37 = .ok (.iaload, 1) := by decide +kernel
theorem dX9_literalNow_38 : decode cX9_literalNow 38 = .ok (.goto 9, 3) := by decide +kernel
theorem dX9_literalNow_41 : decode cX9_literalNow 41 = .ok (.aload_n 0, 1) := by decide +kernel
theorem dX9_literalNow_42 : decode cX9_literalNow 42 = .ok (.getfield 22, 3) := by decide +kernel
theorem dX9_literalNow_45 : decode cX9_literalNow 45 = .ok (.iload_n 1, 1) := by decide +kernel
theorem dX9_literalNow_46 : decode cX9_literalNow 46 = .ok (.iaload, 1) := by decide +kernel
theorem dX9_literalNow_47 : decode cX9_literalNow 47 = .ok (.ireturn, 1) := by decide +kernel
set_option maxRecDepth 20000 in
theorem ggX9_literal_X9_isLiteral : GoodIn wsX9_literal wsX9_isLiteral := goodIn_r _ [7, 8, 9, 10, 6, 11, 20, 21, 22, 23, 24, 25, 26, 27, 28, 29, 30, 31, 32, 33, 34, 35, 36, 37, 38, 39, 40, 41, 42, 43, 44, 45, 46, 47, 48, 49, 50, 51, 52, 53, 54, 55, 56, 57, 58, 59, 60, 61, 62, 63, 64, 65, 66, 67] (by decide +kernel) (by decide +kernel)
set_option maxRecDepth 20000 in
theorem gX9_literal_X9_isLiteral : GoodIn wsX9_literal (wsV RX9 156 RX9 yX9_isLiteral wsX9_isLiteral) := goodIn_app (goodIn_of _ (by decide +kernel)) ggX9_literal_X9_isLiteral
set_option maxRecDepth 20000 in
theorem ggX9_literal_X9_within : GoodIn wsX9_literal wsX9_within := goodIn_r _ [11] (by decide +kernel) (by decide +kernel)
set_option maxRecDepth 20000 in
theorem gX9_literal_X9_within : GoodIn wsX9_literal (va_wsS RX9 77 yX9_within wsX9_within) := goodIn_app (goodIn_of _ (by decide +kernel)) ggX9_literal_X9_within
set_option maxRecDepth 20000 in
theorem ggX9_literal_X9_literalNow : GoodIn wsX9_literal wsX9_literalNow := goodIn_r _ [15, 16, 17, 18, 19, 20, 21, 22, 23, 24, 25, 26, 27, 28, 29, 30, 31, 32, 33, 34, 35, 36, 37, 38, 39, 40, 41, 42, 43, 44, 45, 46, 47, 48, 49, 50, 51, 52, 53, 54, 55, 56, 57, 58, 59, 60, 61, 62, 63, 64, 65, 66, 67] (by decide +kernel) (by decide +kernel)
set_option maxRecDepth 20000 in
theorem gX9_literal_X9_literalNow : GoodIn wsX9_literal (wsV RX9 337 RX9 yX9_literalNow wsX9_literalNow) := goodIn_app (goodIn_of _ (by decide +kernel)) ggX9_literal_X9_literalNow
theorem dX9_literal_0 : decode cX9_literal 0 = .ok (.aload_n 0, 1) := by decide +kernel
theorem dX9_literal_1 : decode cX9_literal 1 = .ok (.iload_n 1, 1) := by decide +kernel
theorem dX9_literal_2 : decode cX9_literal 2 = .ok (.invokevirtual 156, 3) := by decide +kernel
theorem dX9_literal_5 : decode cX9_literal 5 = .ok (.ifCond .ne 6, 3) := by decide +kernel
theorem dX9_literal_8 : decode cX9_literal 8 = .ok (.ldc 159, 2) := by decide +kernel
theorem dX9_literal_10 : decode cX9_literal 10 = .ok (.ireturn, 1) := by decide +kernel
theorem dX9_literal_11 : decode cX9_literal 11 = .ok (.iload_n 2, 1) := by decide +kernel
theorem dX9_literal_12 : decode cX9_literal 12 = .ok (.iconst 0, 1) := by decide +kernel
theorem dX9_literal_13 : decode cX9_literal 13 = .ok (.iconst 3, 1) := by decide +kernel
theorem dX9_literal_14 : decode cX9_literal 14 = .ok (.invokestatic 77, 3) := by decide +kernel
theorem dX9_literal_17 : decode cX9_literal 17 = .ok (.ifCond .eq 12, 3) := by decide +kernel
theorem dX9_literal_20 : decode cX9_literal 20 = .ok (.aload_n 0, 1) := by decide +kernel
theorem dX9_literal_21 : decode cX9_literal 21 = .ok (.iload_n 1, 1) := by decide +kernel
theorem dX9_literal_22 : decode cX9_literal 22 = .ok (.iload_n 2, 1) := by decide +kernel
theorem dX9_literal_23 : decode cX9_literal 23 = .ok (.invokevirtual 337, 3) := by decide +kernel
theorem dX9_literal_26 : decode cX9_literal 26 = .ok (.goto 5, 3) := by decide +kernel
theorem dX9_literal_29 : decode cX9_literal 29 = .ok (.ldc 81, 2) := by decide +kernel
theorem dX9_literal_31 : decode cX9_literal 31 = .ok (.ireturn, 1) := by decide +kernel
theorem dX9_lettersIn_0 : decode cX9_lettersIn 0 = .ok (.iconst 0, 1) := by decide +kernel
theorem dX9_lettersIn_1 : decode cX9_lettersIn 1 = .ok (.istore_n 2, 1) := by decide +kernel
theorem dX9_lettersIn_2 : decode cX9_lettersIn 2 = .ok (.iload_n 2, 1) := by decide +kernel
theorem dX9_lettersIn_3 : decode cX9_lettersIn 3 = .ok (.iload_n 1, 1) := by decide +kernel
theorem dX9_lettersIn_4 : decode cX9_lettersIn 4 = .ok (.if_icmp .gt 79, 3) := by decide +kernel
theorem dX9_lettersIn_7 : decode cX9_lettersIn 7 = .ok (.aload_n 0, 1) := by decide +kernel
theorem dX9_lettersIn_8 : decode cX9_lettersIn 8 = .ok (.getfield 71, 3) := by decide +kernel
theorem dX9_lettersIn_11 : decode cX9_lettersIn 11 = .ok (.iload_n 2, 1) := by decide +kernel
theorem dX9_lettersIn_12 : decode cX9_lettersIn 12 = .ok (.aload_n 0, 1) := by decide +kernel
theorem dX9_lettersIn_13 : decode cX9_lettersIn 13 = .ok (.getfield 28, 3) := by decide +kernel
theorem dX9_lettersIn_16 : decode cX9_lettersIn 16 = .ok (.iload_n 2, 1) := by decide +kernel
theorem dX9_lettersIn_17 : decode cX9_lettersIn 17 = .ok (.iaload, 1) := by decide +kernel
theorem dX9_lettersIn_18 : decode cX9_lettersIn 18 = .ok (.ifCond .ne 7, 3) := by decide +kernel
theorem dX9_lettersIn_21 : decode cX9_lettersIn 21 = .ok (.iconst 1, 1) := by decide +kernel
theorem dX9_lettersIn_22 : decode cX9_lettersIn 22 = .ok (.goto 54, 3) := by decide +kernel
theorem dX9_lettersIn_25 : decode cX9_lettersIn 25 = .ok (.aload_n 0, 1) := by decide +kernel
theorem dX9_lettersIn_26 : decode cX9_lettersIn 26 = .ok (.getfield 28, 3) := by decide +kernel
theorem dX9_lettersIn_29 : decode cX9_lettersIn 29 = .ok (.iload_n 2, 1) := by decide +kernel
theorem dX9_lettersIn_30 : decode cX9_lettersIn 30 = .ok (.iaload, 1) := by decide +kernel
theorem dX9_lettersIn_31 : decode cX9_lettersIn 31 = .ok (.iconst 1, 1) := by decide +kernel
theorem dX9_lettersIn_32 : decode cX9_lettersIn 32 = .ok (.if_icmp .ne 19, 3) := by decide +kernel
theorem dX9_lettersIn_35 : decode cX9_lettersIn 35 = .ok (.iconst 3, 1) := by decide +kernel
theorem dX9_lettersIn_36 : decode cX9_lettersIn 36 = .ok (.aload_n 0, 1) := by decide +kernel
theorem dX9_lettersIn_37 : decode cX9_lettersIn 37 = .ok (.getfield 71, 3) := by decide +kernel
theorem dX9_lettersIn_40 : decode cX9_lettersIn 40 = .ok (.aload_n 0, 1) := by decide +kernel
theorem dX9_lettersIn_41 : decode cX9_lettersIn 41 = .ok (.getfield 31, 3) := by decide +kernel
theorem dX9_lettersIn_44 : decode cX9_lettersIn 44 = .ok (.iload_n 2, 1) := by decide +kernel
theorem dX9_lettersIn_45 : decode cX9_lettersIn 45 = .ok (.iaload, 1) := by decide +kernel
theorem dX9_lettersIn_46 : decode cX9_lettersIn 46 = .ok (.iaload, 1) := by decide +kernel
theorem dX9_lettersIn_47 : decode cX9_lettersIn 47 = .ok (.iadd, 1) := by decide +kernel
theorem dX9_lettersIn_48 : decode cX9_lettersIn 48 = .ok (.goto 28, 3) := by decide +kernel
theorem dX9_lettersIn_51 : decode cX9_lettersIn 51 = .ok (.iconst 4, 1) := by decide +kernel
theorem dX9_lettersIn_52 : decode cX9_lettersIn 52 = .ok (.aload_n 0, 1) := by decide +kernel
theorem dX9_lettersIn_53 : decode cX9_lettersIn 53 = .ok (.getfield 71, 3) := by decide +kernel
theorem dX9_lettersIn_56 : decode cX9_lettersIn 56 = .ok (.aload_n 0, 1) := by decide +kernel
theorem dX9_lettersIn_57 : decode cX9_lettersIn 57 = .ok (.getfield 31, 3) := by decide +kernel
theorem dX9_lettersIn_60 : decode cX9_lettersIn 60 = .ok (.iload_n 2, 1) := by decide +kernel
theorem dX9_lettersIn_61 : decode cX9_lettersIn 61 = .ok (.iaload, 1) := by decide +kernel
theorem dX9_lettersIn_62 : decode cX9_lettersIn 62 = .ok (.iaload, 1) := by decide +kernel
theorem dX9_lettersIn_63 : decode cX9_lettersIn 63 = .ok (.iadd, 1) := by decide +kernel
theorem dX9_lettersIn_64 : decode cX9_lettersIn 64 = .ok (.aload_n 0, 1) := by decide +kernel
theorem dX9_lettersIn_65 : decode cX9_lettersIn 65 = .ok (.getfield 71, 3) := by decide +kernel
theorem dX9_lettersIn_68 : decode cX9_lettersIn 68 = .ok (.aload_n 0, 1) := by decide +kernel
theorem dX9_lettersIn_69 : decode cX9_lettersIn 69 = .ok (.getfield 34, 3) := by decide +kernel
theorem dX9_lettersIn_72 : decode cX9_lettersIn 72 = .ok (.iload_n 2, 1) := by decide +kernel
theorem dX9_lettersIn_73 : decode cX9_lettersIn 73 = .ok (.iaload, 1) := by decide +kernel
theorem dX9_lettersIn_74 : decode cX9_lettersIn 74 = .ok (.iaload, 1) := by decide +kernel
theorem dX9_lettersIn_75 : decode cX9_lettersIn 75 = .ok (.iadd, 1) := by decide +kernel
theorem dX9_lettersIn_76 : decode cX9_lettersIn 76 = .ok (.iastore, 1) := by decide +kernel
theorem dX9_lettersIn_77 : decode cX9_lettersIn 77 = .ok (.iinc 2 1, 3) := by decide +kernel
theorem dX9_lettersIn_80 : decode cX9_lettersIn 80 = .ok (.goto (-78), 3) := by decide +kernel
theorem dX9_lettersIn_83 : decode cX9_lettersIn 83 = .ok (.aload_n 0, 1) := by decide +kernel
theorem dX9_lettersIn_84 : decode cX9_lettersIn 84 = .ok (.getfield 71, 3) := by decide +kernel
theorem dX9_lettersIn_87 : decode cX9_lettersIn 87 = .ok (.iload_n 1, 1) := by decide +kernel
theorem dX9_lettersIn_88 : decode cX9_lettersIn 88 = .ok (.iaload, 1) := by decide +kernel
theorem dX9_lettersIn_89 : decode cX9_lettersIn 89 = .ok (.ireturn, 1) := by decide +kernel
set_option maxRecDepth 20000 in
theorem ggX9_sameAs_X9_layExchange : GoodIn wsX9_sameAs wsX9_layExchange := goodIn_r _ [6, 7, 8, 9, 1, 10, 11, 12, 13, 14, 15, 16, 5, 17, 18, 19, 20, 21, 22, 23, 24, 25, 26, 27, 28, 29, 30, 31, 32, 33, 34, 35, 36, 37, 38, 39, 40, 41, 42, 43, 44, 45, 46, 47, 48, 49, 50, 51, 52, 53, 54, 55, 56, 57, 58, 59, 60, 61, 62, 63, 64, 65, 66, 67, 68, 69, 70, 71, 72, 73, 74, 75, 76, 77, 78, 79, 80, 81, 82, 83, 84, 85, 86, 87, 88, 89, 90, 91, 92, 93, 94] (by decide +kernel) (by decide +kernel)
set_option maxRecDepth 20000 in
theorem gX9_sameAs_X9_layExchange : GoodIn wsX9_sameAs (wsV RX9 200 RX9 yX9_layExchange wsX9_layExchange) := goodIn_app (goodIn_of _ (by decide +kernel)) ggX9_sameAs_X9_layExchange
theorem dX9_sameAs_0 : decode cX9_sameAs 0 = .ok (.aload_n 0, 1) := by decide +kernel
theorem dX9_sameAs_1 : decode cX9_sameAs 1 = .ok (.invokevirtual 200, 3) := by decide +kernel
theorem dX9_sameAs_4 : decode cX9_sameAs 4 = .ok (.aload_n 0, 1) := by decide +kernel
theorem dX9_sameAs_5 : decode cX9_sameAs 5 = .ok (.getfield 46, 3) := by decide +kernel
theorem dX9_sameAs_8 : decode cX9_sameAs 8 = .ok (.iload_n 1, 1) := by decide +kernel
theorem dX9_sameAs_9 : decode cX9_sameAs 9 = .ok (.iaload, 1) := by decide +kernel
theorem dX9_sameAs_10 : decode cX9_sameAs 10 = .ok (.ireturn, 1) := by decide +kernel
theorem dX9_literalsWith_0 : decode cX9_literalsWith 0 = .ok (.iconst 0, 1) := by decide +kernel
theorem dX9_literalsWith_1 : decode cX9_literalsWith 1 = .ok (.istore_n 2, 1) := by decide +kernel
theorem dX9_literalsWith_2 : decode cX9_literalsWith 2 = .ok (.iconst 0, 1) := by decide +kernel
theorem dX9_literalsWith_3 : decode cX9_literalsWith 3 = .ok (.istore_n 3, 1) := by decide +kernel
theorem dX9_literalsWith_4 : decode cX9_literalsWith 4 = .ok (.iload_n 3, 1) := by decide +kernel
theorem dX9_literalsWith_5 : decode cX9_literalsWith 5 = .ok (.aload_n 0, 1) := by decide +kernel
theorem dX9_literalsWith_6 : decode cX9_literalsWith 6 = .ok (.getfield 141, 3) := by decide +kernel
theorem dX9_literalsWith_9 : decode cX9_literalsWith 9 = .ok (.if_icmp .ge 37, 3) := by decide +kernel
theorem dX9_literalsWith_12 : decode cX9_literalsWith 12 = .ok (.iload_n 2, 1) := by decide +kernel
theorem dX9_literalsWith_13 : decode cX9_literalsWith 13 = .ok (.aload_n 0, 1) := by decide +kernel
theorem dX9_literalsWith_14 : decode cX9_literalsWith 14 = .ok (.getfield 37, 3) := by decide +kernel
theorem dX9_literalsWith_17 : decode cX9_literalsWith 17 = .ok (.iload_n 3, 1) := by decide +kernel
theorem dX9_literalsWith_18 : decode cX9_literalsWith 18 = .ok (.iaload, 1) := by decide +kernel
theorem dX9_literalsWith_19 : decode cX9_literalsWith 19 = .ok (.iload_n 1, 1) := by decide +kernel
theorem dX9_literalsWith_20 : decode cX9_literalsWith 20 = .ok (.if_icmp .eq 13, 3) := by decide +kernel
theorem dX9_literalsWith_23 : decode cX9_literalsWith 23 = .ok (.aload_n 0, 1) := by decide +kernel
theorem dX9_literalsWith_24 : decode cX9_literalsWith 24 = .ok (.getfield 40, 3) := by decide +kernel
theorem dX9_literalsWith_27 : decode cX9_literalsWith 27 = .ok (.iload_n 3, 1) := by decide +kernel
theorem dX9_literalsWith_28 : decode cX9_literalsWith 28 = .ok (.iaload, 1) := by decide +kernel
theorem dX9_literalsWith_29 : decode cX9_literalsWith 29 = .ok (.iload_n 1, 1) := by decide +kernel
theorem dX9_literalsWith_30 : decode cX9_literalsWith 30 = .ok (.if_icmp .ne 7, 3) := by decide +kernel
theorem dX9_literalsWith_33 : decode cX9_literalsWith 33 = .ok (.iconst 1, 1) := by decide +kernel
theorem dX9_literalsWith_34 : decode cX9_literalsWith 34 = .ok (.goto 4, 3) := by decide +kernel
theorem dX9_literalsWith_37 : decode cX9_literalsWith 37 = .ok (.iconst 0, 1) := by decide +kernel
theorem dX9_literalsWith_38 : decode cX9_literalsWith 38 = .ok (.iadd, 1) := by decide +kernel
theorem dX9_literalsWith_39 : decode cX9_literalsWith 39 = .ok (.istore_n 2, 1) := by decide +kernel
theorem dX9_literalsWith_40 : decode cX9_literalsWith 40 = .ok (.iinc 3 1, 3) := by decide +kernel
theorem dX9_literalsWith_43 : decode cX9_literalsWith 43 = .ok (.goto (-39), 3) := by decide +kernel
theorem dX9_literalsWith_46 : decode cX9_literalsWith 46 = .ok (.iload_n 2, 1) := by decide +kernel
theorem dX9_literalsWith_47 : decode cX9_literalsWith 47 = .ok (.ireturn, 1) := by decide +kernel
set_option maxRecDepth 20000 in
theorem ggX9_termNow_X9_lettersIn : GoodIn wsX9_termNow wsX9_lettersIn := goodIn_r _ [8, 9, 1, 2, 3, 60, 61, 62, 63, 64, 65, 66, 67, 68, 69, 70, 71, 72, 73, 74, 75, 76, 77, 78, 79, 80, 81, 82, 83, 84, 85, 86, 87, 88, 89, 90, 91, 92, 93, 94, 95, 96, 97, 98, 99, 100, 101, 102, 103, 104, 105, 106, 107] (by decide +kernel) (by decide +kernel)
set_option maxRecDepth 20000 in
theorem gX9_termNow_X9_lettersIn : GoodIn wsX9_termNow (wsV RX9 340 RX9 yX9_lettersIn wsX9_lettersIn) := goodIn_app (goodIn_of _ (by decide +kernel)) ggX9_termNow_X9_lettersIn
set_option maxRecDepth 20000 in
theorem ggX9_termNow_X9_sameAs : GoodIn wsX9_termNow wsX9_sameAs := goodIn_r _ [13, 14, 15, 16, 17, 7, 18, 19, 20, 21, 22, 23, 24, 25, 26, 27, 28, 29, 30, 31, 32, 33, 34, 35, 36, 37, 1, 2, 3, 38, 39, 40, 41, 42, 43, 44, 45, 46, 47, 48, 49, 50, 51, 52, 53, 54, 55, 60, 61, 62, 63, 64, 65, 66, 67, 68, 69, 70, 71, 72, 73, 74, 75, 76, 77, 78, 79, 80, 81, 82, 83, 84, 85, 86, 87, 88, 89, 90, 91, 92, 93, 94, 95, 96, 97, 98, 99, 100, 101, 102, 103, 104, 105, 106, 107] (by decide +kernel) (by decide +kernel)
set_option maxRecDepth 20000 in
theorem gX9_termNow_X9_sameAs : GoodIn wsX9_termNow (wsV RX9 343 RX9 yX9_sameAs wsX9_sameAs) := goodIn_app (goodIn_of _ (by decide +kernel)) ggX9_termNow_X9_sameAs
set_option maxRecDepth 20000 in
theorem ggX9_termNow_X9_literalsWith : GoodIn wsX9_termNow wsX9_literalsWith := goodIn_r _ [59, 22, 24, 25, 60, 61, 62, 63, 64, 65, 66, 67, 68, 69, 70, 71, 72, 73, 74, 75, 76, 77, 78, 79, 80, 81, 82, 83, 84, 85, 86, 87, 88, 89, 90, 91, 92, 93, 94, 95, 96, 97, 98, 99, 100, 101, 102, 103, 104, 105, 106, 107] (by decide +kernel) (by decide +kernel)
set_option maxRecDepth 20000 in
theorem gX9_termNow_X9_literalsWith : GoodIn wsX9_termNow (wsV RX9 346 RX9 yX9_literalsWith wsX9_literalsWith) := goodIn_app (goodIn_of _ (by decide +kernel)) ggX9_termNow_X9_literalsWith
theorem dX9_termNow_0 : decode cX9_termNow 0 = .ok (.iload_n 2, 1) := by decide +kernel
theorem dX9_termNow_1 : decode cX9_termNow 1 = .ok (.tableswitch 68 0 4 #[35, 42, 49, 56, 62], 35) := by decide +kernel
theorem dX9_termNow_36 : decode cX9_termNow 36 = .ok (.aload_n 0, 1) := by decide +kernel
theorem dX9_termNow_37 : decode cX9_termNow 37 = .ok (.getfield 28, 3) := by decide +kernel
theorem dX9_termNow_40 : decode cX9_termNow 40 = .ok (.iload_n 1, 1) := by decide +kernel
theorem dX9_termNow_41 : decode cX9_termNow 41 = .ok (.iaload, 1) := by decide +kernel
theorem dX9_termNow_42 : decode cX9_termNow 42 = .ok (.ireturn, 1) := by decide +kernel
theorem dX9_termNow_43 : decode cX9_termNow 43 = .ok (.aload_n 0, 1) := by decide +kernel
theorem dX9_termNow_44 : decode cX9_termNow 44 = .ok (.getfield 31, 3) := by decide +kernel
theorem dX9_termNow_47 : decode cX9_termNow 47 = .ok (.iload_n 1, 1) := by decide +kernel
theorem dX9_termNow_48 : decode cX9_termNow 48 = .ok (.iaload, 1) := by decide +kernel
theorem dX9_termNow_49 : decode cX9_termNow 49 = .ok (.ireturn, 1) := by decide +kernel
theorem dX9_termNow_50 : decode cX9_termNow 50 = .ok (.aload_n 0, 1) := by decide +kernel
theorem dX9_termNow_51 : decode cX9_termNow 51 = .ok (.getfield 34, 3) := by decide +kernel
theorem dX9_termNow_54 : decode cX9_termNow 54 = .ok (.iload_n 1, 1) := by decide +kernel
theorem dX9_termNow_55 : decode cX9_termNow 55 = .ok (.iaload, 1) := by decide +kernel
theorem dX9_termNow_56 : decode cX9_termNow 56 = .ok (.ireturn, 1) := by decide +kernel
theorem dX9_termNow_57 : decode cX9_termNow 57 = .ok (.aload_n 0, 1) := by decide +kernel
theorem dX9_termNow_58 : decode cX9_termNow 58 = .ok (.iload_n 1, 1) := by decide +kernel
theorem dX9_termNow_59 : decode cX9_termNow 59 = .ok (.invokevirtual 340, 3) := by decide +kernel
theorem dX9_termNow_62 : decode cX9_termNow 62 = .ok (.ireturn, 1) := by decide +kernel
theorem dX9_termNow_63 : decode cX9_termNow 63 = .ok (.aload_n 0, 1) := by decide +kernel
theorem dX9_termNow_64 : decode cX9_termNow 64 = .ok (.iload_n 1, 1) := by decide +kernel
theorem dX9_termNow_65 : decode cX9_termNow 65 = .ok (.invokevirtual 343, 3) := by decide +kernel
theorem dX9_termNow_68 : decode cX9_termNow 68 = .ok (.ireturn, 1) := by decide +kernel
theorem dX9_termNow_69 : decode cX9_termNow 69 = .ok (.aload_n 0, 1) := by decide +kernel
theorem dX9_termNow_70 : decode cX9_termNow 70 = .ok (.iload_n 1, 1) := by decide +kernel
theorem dX9_termNow_71 : decode cX9_termNow 71 = .ok (.invokevirtual 346, 3) := by decide +kernel
theorem dX9_termNow_74 : decode cX9_termNow 74 = .ok (.ireturn, 1) := by decide +kernel
set_option maxRecDepth 20000 in
theorem ggX9_term_X9_within : GoodIn wsX9_term wsX9_within := goodIn_r _ [7] (by decide +kernel) (by decide +kernel)
set_option maxRecDepth 20000 in
theorem gX9_term_X9_within : GoodIn wsX9_term (va_wsS RX9 77 yX9_within wsX9_within) := goodIn_app (goodIn_of _ (by decide +kernel)) ggX9_term_X9_within
set_option maxRecDepth 20000 in
theorem ggX9_term_X9_termNow : GoodIn wsX9_term wsX9_termNow := goodIn_r _ [11, 12, 13, 14, 15, 16, 17, 6, 18, 19, 20, 21, 22, 23, 24, 25, 26, 27, 28, 29, 30, 1, 31, 32, 33, 34, 35, 36, 37, 38, 39, 40, 41, 42, 43, 44, 45, 46, 47, 48, 49, 50, 51, 52, 53, 54, 55, 56, 57, 58, 59, 60, 61, 62, 63, 64, 65, 66, 67, 68, 69, 70, 71, 72, 73, 74, 75, 76, 77, 78, 79, 80, 81, 82, 83, 84, 85, 86, 87, 88, 89, 90, 91, 92, 93, 94, 95, 96, 97, 98, 99, 100, 101, 102, 103, 104, 105, 106, 107, 108, 109, 110, 111, 112, 113, 114, 115, 116] (by decide +kernel) (by decide +kernel)
set_option maxRecDepth 20000 in
theorem gX9_term_X9_termNow : GoodIn wsX9_term (wsV RX9 349 RX9 yX9_termNow wsX9_termNow) := goodIn_app (goodIn_of _ (by decide +kernel)) ggX9_term_X9_termNow
theorem dX9_term_0 : decode cX9_term 0 = .ok (.iload_n 1, 1) := by decide +kernel
theorem dX9_term_1 : decode cX9_term 1 = .ok (.iconst 0, 1) := by decide +kernel
theorem dX9_term_2 : decode cX9_term 2 = .ok (.aload_n 0, 1) := by decide +kernel
theorem dX9_term_3 : decode cX9_term 3 = .ok (.getfield 133, 3) := by decide +kernel
theorem dX9_term_6 : decode cX9_term 6 = .ok (.iconst 1, 1) := by decide +kernel
theorem dX9_term_7 : decode cX9_term 7 = .ok (.isub, 1) := by decide +kernel
theorem dX9_term_8 : decode cX9_term 8 = .ok (.invokestatic 77, 3) := by decide +kernel
theorem dX9_term_11 : decode cX9_term 11 = .ok (.ifCond .ne 6, 3) := by decide +kernel
theorem dX9_term_14 : decode cX9_term 14 = .ok (.ldc 159, 2) := by decide +kernel
theorem dX9_term_16 : decode cX9_term 16 = .ok (.ireturn, 1) := by decide +kernel
theorem dX9_term_17 : decode cX9_term 17 = .ok (.iload_n 2, 1) := by decide +kernel
theorem dX9_term_18 : decode cX9_term 18 = .ok (.iconst 0, 1) := by decide +kernel
theorem dX9_term_19 : decode cX9_term 19 = .ok (.iconst 5, 1) := by decide +kernel
theorem dX9_term_20 : decode cX9_term 20 = .ok (.invokestatic 77, 3) := by decide +kernel
theorem dX9_term_23 : decode cX9_term 23 = .ok (.ifCond .eq 12, 3) := by decide +kernel
theorem dX9_term_26 : decode cX9_term 26 = .ok (.aload_n 0, 1) := by decide +kernel
theorem dX9_term_27 : decode cX9_term 27 = .ok (.iload_n 1, 1) := by decide +kernel
theorem dX9_term_28 : decode cX9_term 28 = .ok (.iload_n 2, 1) := by decide +kernel
theorem dX9_term_29 : decode cX9_term 29 = .ok (.invokevirtual 349, 3) := by decide +kernel
theorem dX9_term_32 : decode cX9_term 32 = .ok (.goto 5, 3) := by decide +kernel
theorem dX9_term_35 : decode cX9_term 35 = .ok (.ldc 81, 2) := by decide +kernel
theorem dX9_term_37 : decode cX9_term 37 = .ok (.ireturn, 1) := by decide +kernel
theorem dX9_howMany_0 : decode cX9_howMany 0 = .ok (.iload_n 1, 1) := by decide +kernel
theorem dX9_howMany_1 : decode cX9_howMany 1 = .ok (.tableswitch 69 0 5 #[39, 44, 49, 54, 59, 64], 39) := by decide +kernel
theorem dX9_howMany_40 : decode cX9_howMany 40 = .ok (.aload_n 0, 1) := by decide +kernel
theorem dX9_howMany_41 : decode cX9_howMany 41 = .ok (.getfield 141, 3) := by decide +kernel
theorem dX9_howMany_44 : decode cX9_howMany 44 = .ok (.ireturn, 1) := by decide +kernel
theorem dX9_howMany_45 : decode cX9_howMany 45 = .ok (.aload_n 0, 1) := by decide +kernel
theorem dX9_howMany_46 : decode cX9_howMany 46 = .ok (.getfield 133, 3) := by decide +kernel
theorem dX9_howMany_49 : decode cX9_howMany 49 = .ok (.ireturn, 1) := by decide +kernel
theorem dX9_howMany_50 : decode cX9_howMany 50 = .ok (.aload_n 0, 1) := by decide +kernel
theorem dX9_howMany_51 : decode cX9_howMany 51 = .ok (.getfield 82, 3) := by decide +kernel
theorem dX9_howMany_54 : decode cX9_howMany 54 = .ok (.ireturn, 1) := by decide +kernel
theorem dX9_howMany_55 : decode cX9_howMany 55 = .ok (.aload_n 0, 1) := by decide +kernel
theorem dX9_howMany_56 : decode cX9_howMany 56 = .ok (.getfield 153, 3) := by decide +kernel
theorem dX9_howMany_59 : decode cX9_howMany 59 = .ok (.ireturn, 1) := by decide +kernel
theorem dX9_howMany_60 : decode cX9_howMany 60 = .ok (.aload_n 0, 1) := by decide +kernel
theorem dX9_howMany_61 : decode cX9_howMany 61 = .ok (.getfield 160, 3) := by decide +kernel
theorem dX9_howMany_64 : decode cX9_howMany 64 = .ok (.ireturn, 1) := by decide +kernel
theorem dX9_howMany_65 : decode cX9_howMany 65 = .ok (.aload_n 0, 1) := by decide +kernel
theorem dX9_howMany_66 : decode cX9_howMany 66 = .ok (.getfield 331, 3) := by decide +kernel
theorem dX9_howMany_69 : decode cX9_howMany 69 = .ok (.ireturn, 1) := by decide +kernel
theorem dX9_howMany_70 : decode cX9_howMany 70 = .ok (.ldc 81, 2) := by decide +kernel
theorem dX9_howMany_72 : decode cX9_howMany 72 = .ok (.ireturn, 1) := by decide +kernel
set_option maxRecDepth 20000 in
theorem ggX9_count_X9_howMany : GoodIn wsX9_count wsX9_howMany := goodIn_r _ [5, 6, 7, 8, 9, 10, 11, 12, 13, 14, 15, 16, 17, 18, 19, 20, 21, 22, 23, 24, 25, 26, 27, 28, 29, 30, 31, 32, 33, 34, 35, 36, 37, 38, 39, 40, 41, 42, 43, 44, 45, 46, 47, 48, 49, 50, 51, 52, 53, 54, 55, 56, 57, 58, 59, 60] (by decide +kernel) (by decide +kernel)
set_option maxRecDepth 20000 in
theorem gX9_count_X9_howMany : GoodIn wsX9_count (wsV RX9 352 RX9 yX9_howMany wsX9_howMany) := goodIn_app (goodIn_of _ (by decide +kernel)) ggX9_count_X9_howMany
theorem dX9_count_0 : decode cX9_count 0 = .ok (.aload_n 0, 1) := by decide +kernel
theorem dX9_count_1 : decode cX9_count 1 = .ok (.iload_n 1, 1) := by decide +kernel
theorem dX9_count_2 : decode cX9_count 2 = .ok (.invokevirtual 352, 3) := by decide +kernel
theorem dX9_count_5 : decode cX9_count 5 = .ok (.ireturn, 1) := by decide +kernel
theorem dX9_mix_0 : decode cX9_mix 0 = .ok (.aload_n 0, 1) := by decide +kernel
theorem dX9_mix_1 : decode cX9_mix 1 = .ok (.ldc2_w 355, 3) := by decide +kernel
theorem dX9_mix_4 : decode cX9_mix 4 = .ok (.aload_n 0, 1) := by decide +kernel
theorem dX9_mix_5 : decode cX9_mix 5 = .ok (.getfield 357, 3) := by decide +kernel
theorem dX9_mix_8 : decode cX9_mix 8 = .ok (.lmul, 1) := by decide +kernel
theorem dX9_mix_9 : decode cX9_mix 9 = .ok (.lload_n 1, 1) := by decide +kernel
theorem dX9_mix_10 : decode cX9_mix 10 = .ok (.ladd, 1) := by decide +kernel
theorem dX9_mix_11 : decode cX9_mix 11 = .ok (.putfield 357, 3) := by decide +kernel
theorem dX9_mix_14 : decode cX9_mix 14 = .ok (.return_, 1) := by decide +kernel
set_option maxRecDepth 20000 in
theorem ggX9_digest_X9_literalNow : GoodIn wsX9_digest wsX9_literalNow := goodIn_r _ [11, 12, 13, 14, 15, 192, 193, 194, 195, 196, 197, 198, 199, 200, 201, 202, 203, 204, 205, 206, 207, 208, 209, 210, 211, 212, 213, 214, 215, 216, 217, 218, 219, 220, 221, 222, 223, 224, 225, 226, 227, 228, 229, 230, 231, 232, 233, 234, 235, 236, 237, 238, 239] (by decide +kernel) (by decide +kernel)
set_option maxRecDepth 20000 in
theorem gX9_digest_X9_literalNow : GoodIn wsX9_digest (wsV RX9 337 RX9 yX9_literalNow wsX9_literalNow) := goodIn_app (goodIn_of _ (by decide +kernel)) ggX9_digest_X9_literalNow
set_option maxRecDepth 20000 in
theorem ggX9_digest_X9_mix : GoodIn wsX9_digest wsX9_mix := goodIn_r _ [19, 20, 2, 192, 193, 194, 195, 196, 197, 198, 199, 200, 201, 202, 203, 204, 205, 206, 207, 208, 209, 210, 211, 212, 213, 214, 215, 216, 217, 218, 219, 220, 221, 222, 223, 224, 225, 226, 227, 228, 229, 230, 231, 232, 233, 234, 235, 236, 237, 238, 239] (by decide +kernel) (by decide +kernel)
set_option maxRecDepth 20000 in
theorem gX9_digest_X9_mix : GoodIn wsX9_digest (wsV RX9 362 RX9 yX9_mix wsX9_mix) := goodIn_app (goodIn_of _ (by decide +kernel)) ggX9_digest_X9_mix
set_option maxRecDepth 20000 in
theorem ggX9_digest_X9_termNow : GoodIn wsX9_digest wsX9_termNow := goodIn_r _ [24, 25, 26, 27, 28, 29, 30, 10, 31, 32, 33, 34, 35, 36, 37, 38, 39, 40, 41, 42, 43, 4, 3, 12, 13, 14, 44, 45, 46, 47, 48, 49, 50, 51, 52, 53, 54, 55, 56, 57, 58, 59, 60, 61, 15, 62, 63, 64, 65, 66, 67, 68, 69, 70, 71, 72, 73, 74, 75, 76, 192, 193, 194, 195, 196, 197, 198, 199, 200, 201, 202, 203, 204, 205, 206, 207, 208, 209, 210, 211, 212, 213, 214, 215, 216, 217, 218, 219, 220, 221, 222, 223, 224, 225, 226, 227, 228, 229, 230, 231, 232, 233, 234, 235, 236, 237, 238, 239] (by decide +kernel) (by decide +kernel)
set_option maxRecDepth 20000 in
theorem gX9_digest_X9_termNow : GoodIn wsX9_digest (wsV RX9 349 RX9 yX9_termNow wsX9_termNow) := goodIn_app (goodIn_of _ (by decide +kernel)) ggX9_digest_X9_termNow
set_option maxRecDepth 20000 in
theorem ggX9_digest_X9_exchangeNow : GoodIn wsX9_digest wsX9_exchangeNow := goodIn_r _ [80, 43, 42, 38, 39, 40, 10, 41, 4, 37, 3, 12, 13, 14, 44, 45, 46, 47, 48, 49, 50, 51, 52, 53, 54, 55, 25, 26, 27, 56, 57, 58, 59, 60, 61, 15, 62, 63, 64, 65, 66, 67, 68, 69, 70, 71, 72, 81, 82, 83, 84, 192, 193, 194, 195, 196, 197, 198, 199, 200, 201, 202, 203, 204, 205, 206, 207, 208, 209, 210, 211, 212, 213, 214, 215, 216, 217, 218, 219, 220, 221, 222, 223, 224, 225, 226, 227, 228, 229, 230, 231, 232, 233, 234, 235, 236, 237, 238, 239] (by decide +kernel) (by decide +kernel)
set_option maxRecDepth 20000 in
theorem gX9_digest_X9_exchangeNow : GoodIn wsX9_digest (wsV RX9 206 RX9 yX9_exchangeNow wsX9_exchangeNow) := goodIn_app (goodIn_of _ (by decide +kernel)) ggX9_digest_X9_exchangeNow
set_option maxRecDepth 20000 in
theorem ggX9_digest_X9_holds : GoodIn wsX9_digest wsX9_holds := goodIn_r _ [88, 89, 90, 91, 10, 92, 3, 93, 94, 95, 96, 97, 98, 99, 100, 101, 102, 103, 104, 105, 106, 107, 108, 109, 110, 111, 112, 113, 114, 115, 116, 117, 4, 118, 61, 119, 120, 121, 122, 123, 124, 125, 12, 13, 14, 15, 126, 127, 128, 129, 130, 131, 132, 133, 134, 135, 136, 62, 63, 64, 137, 138, 139, 140, 141, 142, 143, 144, 145, 146, 147, 148, 149, 150, 151, 152, 153, 154, 155, 156, 157, 158, 159, 160, 161, 162, 163, 164, 165, 166, 167, 168, 169, 170, 171, 172, 173, 174, 175, 176, 177, 178, 179, 25, 26, 27, 180, 181, 182, 183, 192, 193, 194, 195, 196, 197, 198, 199, 200, 201, 202, 203, 204, 205, 206, 207, 208, 209, 210, 211, 212, 213, 214, 215, 216, 217, 218, 219, 220, 221, 222, 223, 224, 225, 226, 227, 228, 229, 230, 231, 232, 233, 234, 235, 236, 237, 238, 239] (by decide +kernel) (by decide +kernel)
set_option maxRecDepth 20000 in
theorem gX9_digest_X9_holds : GoodIn wsX9_digest (wsV RX9 366 RX9 yX9_holds wsX9_holds) := goodIn_app (goodIn_of _ (by decide +kernel)) ggX9_digest_X9_holds
set_option maxRecDepth 20000 in
theorem ggX9_digest_X9_howMany : GoodIn wsX9_digest wsX9_howMany := goodIn_r _ [187, 3, 4, 5, 188, 189, 190, 191, 192, 193, 194, 195, 196, 197, 198, 199, 200, 201, 202, 203, 204, 205, 206, 207, 208, 209, 210, 211, 212, 213, 214, 215, 216, 217, 218, 219, 220, 221, 222, 223, 224, 225, 226, 227, 228, 229, 230, 231, 232, 233, 234, 235, 236, 237, 238, 239] (by decide +kernel) (by decide +kernel)
set_option maxRecDepth 20000 in
theorem gX9_digest_X9_howMany : GoodIn wsX9_digest (wsV RX9 352 RX9 yX9_howMany wsX9_howMany) := goodIn_app (goodIn_of _ (by decide +kernel)) ggX9_digest_X9_howMany
theorem dX9_digest_0 : decode cX9_digest 0 = .ok (.aload_n 0, 1) := by decide +kernel
theorem dX9_digest_1 : decode cX9_digest 1 = .ok (.ldc2_w 360, 3) := by decide +kernel
theorem dX9_digest_4 : decode cX9_digest 4 = .ok (.putfield 357, 3) := by decide +kernel
theorem dX9_digest_7 : decode cX9_digest 7 = .ok (.iconst 0, 1) := by decide +kernel
theorem dX9_digest_8 : decode cX9_digest 8 = .ok (.istore_n 1, 1) := by decide +kernel
theorem dX9_digest_9 : decode cX9_digest 9 = .ok (.iload_n 1, 1) := by decide +kernel
theorem dX9_digest_10 : decode cX9_digest 10 = .ok (.iconst 4, 1) := by decide +kernel
theorem dX9_digest_11 : decode cX9_digest 11 = .ok (.aload_n 0, 1) := by decide +kernel
theorem dX9_digest_12 : decode cX9_digest 12 = .ok (.getfield 141, 3) := by decide +kernel
theorem dX9_digest_15 : decode cX9_digest 15 = .ok (.imul, 1) := by decide +kernel
theorem dX9_digest_16 : decode cX9_digest 16 = .ok (.if_icmp .ge 24, 3) := by decide +kernel
theorem dX9_digest_19 : decode cX9_digest 19 = .ok (.aload_n 0, 1) := by decide +kernel
theorem dX9_digest_20 : decode cX9_digest 20 = .ok (.aload_n 0, 1) := by decide +kernel
theorem dX9_digest_21 : decode cX9_digest 21 = .ok (.iload_n 1, 1) := by decide +kernel
theorem dX9_digest_22 : decode cX9_digest 22 = .ok (.iconst 4, 1) := by decide +kernel
theorem dX9_digest_23 : decode cX9_digest 23 = .ok (.idiv, 1) := by decide +kernel
theorem dX9_digest_24 : decode cX9_digest 24 = .ok (.iload_n 1, 1) := by decide +kernel
theorem dX9_digest_25 : decode cX9_digest 25 = .ok (.iconst 4, 1) := by decide +kernel
theorem dX9_digest_26 : decode cX9_digest 26 = .ok (.irem, 1) := by decide +kernel
theorem dX9_digest_27 : decode cX9_digest 27 = .ok (.invokevirtual 337, 3) := by decide +kernel
theorem dX9_digest_30 : decode cX9_digest 30 = .ok (.i2l, 1) := by decide +kernel
theorem dX9_digest_31 : decode cX9_digest 31 = .ok (.invokevirtual 362, 3) := by decide +kernel
theorem dX9_digest_34 : decode cX9_digest 34 = .ok (.iinc 1 1, 3) := by decide +kernel
theorem dX9_digest_37 : decode cX9_digest 37 = .ok (.goto (-28), 3) := by decide +kernel
theorem dX9_digest_40 : decode cX9_digest 40 = .ok (.iconst 0, 1) := by decide +kernel
theorem dX9_digest_41 : decode cX9_digest 41 = .ok (.istore_n 1, 1) := by decide +kernel
theorem dX9_digest_42 : decode cX9_digest 42 = .ok (.iload_n 1, 1) := by decide +kernel
theorem dX9_digest_43 : decode cX9_digest 43 = .ok (.bipush 6, 2) := by decide +kernel
theorem dX9_digest_45 : decode cX9_digest 45 = .ok (.aload_n 0, 1) := by decide +kernel
theorem dX9_digest_46 : decode cX9_digest 46 = .ok (.getfield 133, 3) := by decide +kernel
theorem dX9_digest_49 : decode cX9_digest 49 = .ok (.imul, 1) := by decide +kernel
theorem dX9_digest_50 : decode cX9_digest 50 = .ok (.if_icmp .ge 26, 3) := by decide +kernel
theorem dX9_digest_53 : decode cX9_digest 53 = .ok (.aload_n 0, 1) := by decide +kernel
theorem dX9_digest_54 : decode cX9_digest 54 = .ok (.aload_n 0, 1) := by decide +kernel
theorem dX9_digest_55 : decode cX9_digest 55 = .ok (.iload_n 1, 1) := by decide +kernel
theorem dX9_digest_56 : decode cX9_digest 56 = .ok (.bipush 6, 2) := by decide +kernel
theorem dX9_digest_58 : decode cX9_digest 58 = .ok (.idiv, 1) := by decide +kernel
theorem dX9_digest_59 : decode cX9_digest 59 = .ok (.iload_n 1, 1) := by decide +kernel
theorem dX9_digest_60 : decode cX9_digest 60 = .ok (.bipush 6, 2) := by decide +kernel
theorem dX9_digest_62 : decode cX9_digest 62 = .ok (.irem, 1) := by decide +kernel
theorem dX9_digest_63 : decode cX9_digest 63 = .ok (.invokevirtual 349, 3) := by decide +kernel
theorem dX9_digest_66 : decode cX9_digest 66 = .ok (.i2l, 1) := by decide +kernel
theorem dX9_digest_67 : decode cX9_digest 67 = .ok (.invokevirtual 362, 3) := by decide +kernel
theorem dX9_digest_70 : decode cX9_digest 70 = .ok (.iinc 1 1, 3) := by decide +kernel
theorem dX9_digest_73 : decode cX9_digest 73 = .ok (.goto (-31), 3) := by decide +kernel
theorem dX9_digest_76 : decode cX9_digest 76 = .ok (.iconst 0, 1) := by decide +kernel
theorem dX9_digest_77 : decode cX9_digest 77 = .ok (.istore_n 1, 1) := by decide +kernel
theorem dX9_digest_78 : decode cX9_digest 78 = .ok (.iload_n 1, 1) := by decide +kernel
theorem dX9_digest_79 : decode cX9_digest 79 = .ok (.iconst 3, 1) := by decide +kernel
theorem dX9_digest_80 : decode cX9_digest 80 = .ok (.if_icmp .ge 19, 3) := by decide +kernel
theorem dX9_digest_83 : decode cX9_digest 83 = .ok (.aload_n 0, 1) := by decide +kernel
theorem dX9_digest_84 : decode cX9_digest 84 = .ok (.aload_n 0, 1) := by decide +kernel
theorem dX9_digest_85 : decode cX9_digest 85 = .ok (.iload_n 1, 1) := by decide +kernel
theorem dX9_digest_86 : decode cX9_digest 86 = .ok (.invokevirtual 206, 3) := by decide +kernel
theorem dX9_digest_89 : decode cX9_digest 89 = .ok (.i2l, 1) := by decide +kernel
theorem dX9_digest_90 : decode cX9_digest 90 = .ok (.invokevirtual 362, 3) := by decide +kernel
theorem dX9_digest_93 : decode cX9_digest 93 = .ok (.iinc 1 1, 3) := by decide +kernel
theorem dX9_digest_96 : decode cX9_digest 96 = .ok (.goto (-18), 3) := by decide +kernel
theorem dX9_digest_99 : decode cX9_digest 99 = .ok (.aload_n 0, 1) := by decide +kernel
theorem dX9_digest_100 : decode cX9_digest 100 = .ok (.aload_n 0, 1) := by decide +kernel
theorem dX9_digest_101 : decode cX9_digest 101 = .ok (.invokevirtual 366, 3) := by decide +kernel
theorem dX9_digest_104 : decode cX9_digest 104 = .ok (.i2l, 1) := by decide +kernel
theorem dX9_digest_105 : decode cX9_digest 105 = .ok (.invokevirtual 362, 3) := by decide +kernel
theorem dX9_digest_108 : decode cX9_digest 108 = .ok (.iconst 0, 1) := by decide +kernel
theorem dX9_digest_109 : decode cX9_digest 109 = .ok (.istore_n 1, 1) := by decide +kernel
theorem dX9_digest_110 : decode cX9_digest 110 = .ok (.iload_n 1, 1) := by decide +kernel
theorem dX9_digest_111 : decode cX9_digest 111 = .ok (.aload_n 0, 1) := by decide +kernel
theorem dX9_digest_112 : decode cX9_digest 112 = .ok (.getfield 82, 3) := by decide +kernel
theorem dX9_digest_115 : decode cX9_digest 115 = .ok (.if_icmp .ge 20, 3) := by decide +kernel
theorem dX9_digest_118 : decode cX9_digest 118 = .ok (.aload_n 0, 1) := by decide +kernel
theorem dX9_digest_119 : decode cX9_digest 119 = .ok (.aload_n 0, 1) := by decide +kernel
theorem dX9_digest_120 : decode cX9_digest 120 = .ok (.getfield 7, 3) := by decide +kernel
theorem dX9_digest_123 : decode cX9_digest 123 = .ok (.iload_n 1, 1) := by decide +kernel
theorem dX9_digest_124 : decode cX9_digest 124 = .ok (.iaload, 1) := by decide +kernel
theorem dX9_digest_125 : decode cX9_digest 125 = .ok (.i2l, 1) := by decide +kernel
theorem dX9_digest_126 : decode cX9_digest 126 = .ok (.invokevirtual 362, 3) := by decide +kernel
theorem dX9_digest_129 : decode cX9_digest 129 = .ok (.iinc 1 1, 3) := by decide +kernel
theorem dX9_digest_132 : decode cX9_digest 132 = .ok (.goto (-22), 3) := by decide +kernel
theorem dX9_digest_135 : decode cX9_digest 135 = .ok (.iconst 0, 1) := by decide +kernel
theorem dX9_digest_136 : decode cX9_digest 136 = .ok (.istore_n 1, 1) := by decide +kernel
theorem dX9_digest_137 : decode cX9_digest 137 = .ok (.iload_n 1, 1) := by decide +kernel
theorem dX9_digest_138 : decode cX9_digest 138 = .ok (.bipush 6, 2) := by decide +kernel
theorem dX9_digest_140 : decode cX9_digest 140 = .ok (.if_icmp .ge 19, 3) := by decide +kernel
theorem dX9_digest_143 : decode cX9_digest 143 = .ok (.aload_n 0, 1) := by decide +kernel
theorem dX9_digest_144 : decode cX9_digest 144 = .ok (.aload_n 0, 1) := by decide +kernel
theorem dX9_digest_145 : decode cX9_digest 145 = .ok (.iload_n 1, 1) := by decide +kernel
theorem dX9_digest_146 : decode cX9_digest 146 = .ok (.invokevirtual 352, 3) := by decide +kernel
theorem dX9_digest_149 : decode cX9_digest 149 = .ok (.i2l, 1) := by decide +kernel
theorem dX9_digest_150 : decode cX9_digest 150 = .ok (.invokevirtual 362, 3) := by decide +kernel
theorem dX9_digest_153 : decode cX9_digest 153 = .ok (.iinc 1 1, 3) := by decide +kernel
theorem dX9_digest_156 : decode cX9_digest 156 = .ok (.goto (-19), 3) := by decide +kernel
theorem dX9_digest_159 : decode cX9_digest 159 = .ok (.aload_n 0, 1) := by decide +kernel
theorem dX9_digest_160 : decode cX9_digest 160 = .ok (.getfield 357, 3) := by decide +kernel
theorem dX9_digest_163 : decode cX9_digest 163 = .ok (.lreturn, 1) := by decide +kernel
theorem dJ6_bitCount_0f7a4_0 : decode cJ6_bitCount_0f7a4 0 = .ok (.iload_n 0, 1) := by decide +kernel
theorem dJ6_bitCount_0f7a4_1 : decode cJ6_bitCount_0f7a4 1 = .ok (.iload_n 0, 1) := by decide +kernel
theorem dJ6_bitCount_0f7a4_2 : decode cJ6_bitCount_0f7a4 2 = .ok (.iconst 1, 1) := by decide +kernel
theorem dJ6_bitCount_0f7a4_3 : decode cJ6_bitCount_0f7a4 3 = .ok (.iushr, 1) := by decide +kernel
theorem dJ6_bitCount_0f7a4_4 : decode cJ6_bitCount_0f7a4 4 = .ok (.ldc_w 265, 3) := by decide +kernel
theorem dJ6_bitCount_0f7a4_7 : decode cJ6_bitCount_0f7a4 7 = .ok (.iand, 1) := by decide +kernel
theorem dJ6_bitCount_0f7a4_8 : decode cJ6_bitCount_0f7a4 8 = .ok (.isub, 1) := by decide +kernel
theorem dJ6_bitCount_0f7a4_9 : decode cJ6_bitCount_0f7a4 9 = .ok (.istore_n 0, 1) := by decide +kernel
theorem dJ6_bitCount_0f7a4_10 : decode cJ6_bitCount_0f7a4 10 = .ok (.iload_n 0, 1) := by decide +kernel
theorem dJ6_bitCount_0f7a4_11 : decode cJ6_bitCount_0f7a4 11 = .ok (.ldc_w 266, 3) := by decide +kernel
theorem dJ6_bitCount_0f7a4_14 : decode cJ6_bitCount_0f7a4 14 = .ok (.iand, 1) := by decide +kernel
theorem dJ6_bitCount_0f7a4_15 : decode cJ6_bitCount_0f7a4 15 = .ok (.iload_n 0, 1) := by decide +kernel
theorem dJ6_bitCount_0f7a4_16 : decode cJ6_bitCount_0f7a4 16 = .ok (.iconst 2, 1) := by decide +kernel
theorem dJ6_bitCount_0f7a4_17 : decode cJ6_bitCount_0f7a4 17 = .ok (.iushr, 1) := by decide +kernel
theorem dJ6_bitCount_0f7a4_18 : decode cJ6_bitCount_0f7a4 18 = .ok (.ldc_w 266, 3) := by decide +kernel
theorem dJ6_bitCount_0f7a4_21 : decode cJ6_bitCount_0f7a4 21 = .ok (.iand, 1) := by decide +kernel
theorem dJ6_bitCount_0f7a4_22 : decode cJ6_bitCount_0f7a4 22 = .ok (.iadd, 1) := by decide +kernel
theorem dJ6_bitCount_0f7a4_23 : decode cJ6_bitCount_0f7a4 23 = .ok (.istore_n 0, 1) := by decide +kernel
theorem dJ6_bitCount_0f7a4_24 : decode cJ6_bitCount_0f7a4 24 = .ok (.iload_n 0, 1) := by decide +kernel
theorem dJ6_bitCount_0f7a4_25 : decode cJ6_bitCount_0f7a4 25 = .ok (.iload_n 0, 1) := by decide +kernel
theorem dJ6_bitCount_0f7a4_26 : decode cJ6_bitCount_0f7a4 26 = .ok (.iconst 4, 1) := by decide +kernel
theorem dJ6_bitCount_0f7a4_27 : decode cJ6_bitCount_0f7a4 27 = .ok (.iushr, 1) := by decide +kernel
theorem dJ6_bitCount_0f7a4_28 : decode cJ6_bitCount_0f7a4 28 = .ok (.iadd, 1) := by decide +kernel
theorem dJ6_bitCount_0f7a4_29 : decode cJ6_bitCount_0f7a4 29 = .ok (.ldc_w 267, 3) := by decide +kernel
theorem dJ6_bitCount_0f7a4_32 : decode cJ6_bitCount_0f7a4 32 = .ok (.iand, 1) := by decide +kernel
theorem dJ6_bitCount_0f7a4_33 : decode cJ6_bitCount_0f7a4 33 = .ok (.istore_n 0, 1) := by decide +kernel
theorem dJ6_bitCount_0f7a4_34 : decode cJ6_bitCount_0f7a4 34 = .ok (.iload_n 0, 1) := by decide +kernel
theorem dJ6_bitCount_0f7a4_35 : decode cJ6_bitCount_0f7a4 35 = .ok (.iload_n 0, 1) := by decide +kernel
theorem dJ6_bitCount_0f7a4_36 : decode cJ6_bitCount_0f7a4 36 = .ok (.bipush 8, 2) := by decide +kernel
theorem dJ6_bitCount_0f7a4_38 : decode cJ6_bitCount_0f7a4 38 = .ok (.iushr, 1) := by decide +kernel
theorem dJ6_bitCount_0f7a4_39 : decode cJ6_bitCount_0f7a4 39 = .ok (.iadd, 1) := by decide +kernel
theorem dJ6_bitCount_0f7a4_40 : decode cJ6_bitCount_0f7a4 40 = .ok (.istore_n 0, 1) := by decide +kernel
theorem dJ6_bitCount_0f7a4_41 : decode cJ6_bitCount_0f7a4 41 = .ok (.iload_n 0, 1) := by decide +kernel
theorem dJ6_bitCount_0f7a4_42 : decode cJ6_bitCount_0f7a4 42 = .ok (.iload_n 0, 1) := by decide +kernel
theorem dJ6_bitCount_0f7a4_43 : decode cJ6_bitCount_0f7a4 43 = .ok (.bipush 16, 2) := by decide +kernel
theorem dJ6_bitCount_0f7a4_45 : decode cJ6_bitCount_0f7a4 45 = .ok (.iushr, 1) := by decide +kernel
theorem dJ6_bitCount_0f7a4_46 : decode cJ6_bitCount_0f7a4 46 = .ok (.iadd, 1) := by decide +kernel
theorem dJ6_bitCount_0f7a4_47 : decode cJ6_bitCount_0f7a4 47 = .ok (.istore_n 0, 1) := by decide +kernel
theorem dJ6_bitCount_0f7a4_48 : decode cJ6_bitCount_0f7a4 48 = .ok (.iload_n 0, 1) := by decide +kernel
theorem dJ6_bitCount_0f7a4_49 : decode cJ6_bitCount_0f7a4 49 = .ok (.bipush 63, 2) := by decide +kernel
theorem dJ6_bitCount_0f7a4_51 : decode cJ6_bitCount_0f7a4 51 = .ok (.iand, 1) := by decide +kernel
theorem dJ6_bitCount_0f7a4_52 : decode cJ6_bitCount_0f7a4 52 = .ok (.ireturn, 1) := by decide +kernel
theorem dJ9_min_7cf53_0 : decode cJ9_min_7cf53 0 = .ok (.iload_n 0, 1) := by decide +kernel
theorem dJ9_min_7cf53_1 : decode cJ9_min_7cf53 1 = .ok (.iload_n 1, 1) := by decide +kernel
theorem dJ9_min_7cf53_2 : decode cJ9_min_7cf53 2 = .ok (.if_icmp .gt 7, 3) := by decide +kernel
theorem dJ9_min_7cf53_5 : decode cJ9_min_7cf53 5 = .ok (.iload_n 0, 1) := by decide +kernel
theorem dJ9_min_7cf53_6 : decode cJ9_min_7cf53 6 = .ok (.goto 4, 3) := by decide +kernel
theorem dJ9_min_7cf53_9 : decode cJ9_min_7cf53 9 = .ok (.iload_n 1, 1) := by decide +kernel
theorem dJ9_min_7cf53_10 : decode cJ9_min_7cf53 10 = .ok (.ireturn, 1) := by decide +kernel
theorem dJ7_fill_d0a16_0 : decode cJ7_fill_d0a16 0 = .ok (.iconst 0, 1) := by decide +kernel
theorem dJ7_fill_d0a16_1 : decode cJ7_fill_d0a16 1 = .ok (.istore_n 3, 1) := by decide +kernel
theorem dJ7_fill_d0a16_2 : decode cJ7_fill_d0a16 2 = .ok (.aload_n 0, 1) := by decide +kernel
theorem dJ7_fill_d0a16_3 : decode cJ7_fill_d0a16 3 = .ok (.arraylength, 1) := by decide +kernel
theorem dJ7_fill_d0a16_4 : decode cJ7_fill_d0a16 4 = .ok (.istore 4, 2) := by decide +kernel
theorem dJ7_fill_d0a16_6 : decode cJ7_fill_d0a16 6 = .ok (.iload_n 3, 1) := by decide +kernel
theorem dJ7_fill_d0a16_7 : decode cJ7_fill_d0a16 7 = .ok (.iload 4, 2) := by decide +kernel
theorem dJ7_fill_d0a16_9 : decode cJ7_fill_d0a16 9 = .ok (.if_icmp .ge 13, 3) := by decide +kernel
theorem dJ7_fill_d0a16_12 : decode cJ7_fill_d0a16 12 = .ok (.aload_n 0, 1) := by decide +kernel
theorem dJ7_fill_d0a16_13 : decode cJ7_fill_d0a16 13 = .ok (.iload_n 3, 1) := by decide +kernel
theorem dJ7_fill_d0a16_14 : decode cJ7_fill_d0a16 14 = .ok (.lload_n 1, 1) := by decide +kernel
theorem dJ7_fill_d0a16_15 : decode cJ7_fill_d0a16 15 = .ok (.lastore, 1) := by decide +kernel
theorem dJ7_fill_d0a16_16 : decode cJ7_fill_d0a16 16 = .ok (.iinc 3 1, 3) := by decide +kernel
theorem dJ7_fill_d0a16_19 : decode cJ7_fill_d0a16 19 = .ok (.goto (-13), 3) := by decide +kernel
theorem dJ7_fill_d0a16_22 : decode cJ7_fill_d0a16 22 = .ok (.return_, 1) := by decide +kernel
