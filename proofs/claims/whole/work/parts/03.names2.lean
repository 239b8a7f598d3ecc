theorem dX5_takeBuilt_19 : decode cX5_takeBuilt 19 = .ok (.ireturn, 1) := by decide +kernel
theorem dX5_takeBuilt_20 : decode cX5_takeBuilt 20 = .ok (.aload_n 0, 1) := by decide +kernel
theorem dX5_takeBuilt_21 : decode cX5_takeBuilt 21 = .ok (.dup, 1) := by decide +kernel
theorem dX5_takeBuilt_22 : decode cX5_takeBuilt 22 = .ok (.getfield 45, 3) := by decide +kernel
theorem dX5_takeBuilt_25 : decode cX5_takeBuilt 25 = .ok (.iconst 1, 1) := by decide +kernel
theorem dX5_takeBuilt_26 : decode cX5_takeBuilt 26 = .ok (.isub, 1) := by decide +kernel
theorem dX5_takeBuilt_27 : decode cX5_takeBuilt 27 = .ok (.putfield 45, 3) := by decide +kernel
theorem dX5_takeBuilt_30 : decode cX5_takeBuilt 30 = .ok (.aload_n 0, 1) := by decide +kernel
theorem dX5_takeBuilt_31 : decode cX5_takeBuilt 31 = .ok (.getfield 18, 3) := by decide +kernel
theorem dX5_takeBuilt_34 : decode cX5_takeBuilt 34 = .ok (.aload_n 0, 1) := by decide +kernel
theorem dX5_takeBuilt_35 : decode cX5_takeBuilt 35 = .ok (.getfield 45, 3) := by decide +kernel
theorem dX5_takeBuilt_38 : decode cX5_takeBuilt 38 = .ok (.iaload, 1) := by decide +kernel
theorem dX5_takeBuilt_39 : decode cX5_takeBuilt 39 = .ok (.ireturn, 1) := by decide +kernel
set_option maxRecDepth 20000 in
theorem ggX6_init_X1_init : GoodIn wsX6_init wsX1_init := goodIn_r _ [16, 17, 2, 3, 18, 19, 33] (by decide +kernel) (by decide +kernel)
set_option maxRecDepth 20000 in
theorem gX6_init_X1_init_n23 : GoodIn wsX6_init (wsX1_init) := ggX6_init_X1_init
set_option maxRecDepth 20000 in
theorem ggX6_init_X0_init : GoodIn wsX6_init wsX0_init := goodIn_r _ [21, 22, 2, 3] (by decide +kernel) (by decide +kernel)
set_option maxRecDepth 20000 in
theorem gX6_init_X0_init_n36 : GoodIn wsX6_init (wsX0_init) := ggX6_init_X0_init
theorem dX6_init_0 : decode cX6_init 0 = .ok (.aload_n 0, 1) := by decide +kernel
theorem dX6_init_1 : decode cX6_init 1 = .ok (.invokespecial 5, 3) := by decide +kernel
theorem dX6_init_4 : decode cX6_init 4 = .ok (.aload_n 0, 1) := by decide +kernel
theorem dX6_init_5 : decode cX6_init 5 = .ok (.bipush 22, 2) := by decide +kernel
theorem dX6_init_7 : decode cX6_init 7 = .ok (.anewarray 11, 3) := by decide +kernel
theorem dX6_init_10 : decode cX6_init 10 = .ok (.putfield 13, 3) := by decide +kernel
theorem dX6_init_13 : decode cX6_init 13 = .ok (.aload_n 0, 1) := by decide +kernel
theorem dX6_init_14 : decode cX6_init 14 = .ok (.bipush 23, 2) := by decide +kernel
theorem dX6_init_16 : decode cX6_init 16 = .ok (.anewarray 17, 3) := by decide +kernel
theorem dX6_init_19 : decode cX6_init 19 = .ok (.putfield 19, 3) := by decide +kernel
theorem dX6_init_22 : decode cX6_init 22 = .ok (.aload_n 0, 1) := by decide +kernel
theorem dX6_init_23 : decode cX6_init 23 = .ok (.new 17, 3) := by decide +kernel
theorem dX6_init_26 : decode cX6_init 26 = .ok (.dup, 1) := by decide +kernel
theorem dX6_init_27 : decode cX6_init 27 = .ok (.invokespecial 23, 3) := by decide +kernel
theorem dX6_init_30 : decode cX6_init 30 = .ok (.putfield 24, 3) := by decide +kernel
theorem dX6_init_33 : decode cX6_init 33 = .ok (.aload_n 0, 1) := by decide +kernel
theorem dX6_init_34 : decode cX6_init 34 = .ok (.aload_n 1, 1) := by decide +kernel
theorem dX6_init_35 : decode cX6_init 35 = .ok (.putfield 28, 3) := by decide +kernel
theorem dX6_init_38 : decode cX6_init 38 = .ok (.aload_n 0, 1) := by decide +kernel
theorem dX6_init_39 : decode cX6_init 39 = .ok (.aload_n 2, 1) := by decide +kernel
theorem dX6_init_40 : decode cX6_init 40 = .ok (.putfield 32, 3) := by decide +kernel
theorem dX6_init_43 : decode cX6_init 43 = .ok (.iconst 0, 1) := by decide +kernel
theorem dX6_init_44 : decode cX6_init 44 = .ok (.istore_n 3, 1) := by decide +kernel
theorem dX6_init_45 : decode cX6_init 45 = .ok (.iload_n 3, 1) := by decide +kernel
theorem dX6_init_46 : decode cX6_init 46 = .ok (.bipush 22, 2) := by decide +kernel
theorem dX6_init_48 : decode cX6_init 48 = .ok (.if_icmp .ge 22, 3) := by decide +kernel
theorem dX6_init_51 : decode cX6_init 51 = .ok (.aload_n 0, 1) := by decide +kernel
theorem dX6_init_52 : decode cX6_init 52 = .ok (.getfield 13, 3) := by decide +kernel
theorem dX6_init_55 : decode cX6_init 55 = .ok (.iload_n 3, 1) := by decide +kernel
theorem dX6_init_56 : decode cX6_init 56 = .ok (.new 11, 3) := by decide +kernel
theorem dX6_init_59 : decode cX6_init 59 = .ok (.dup, 1) := by decide +kernel
theorem dX6_init_60 : decode cX6_init 60 = .ok (.invokespecial 36, 3) := by decide +kernel
theorem dX6_init_63 : decode cX6_init 63 = .ok (.aastore, 1) := by decide +kernel
theorem dX6_init_64 : decode cX6_init 64 = .ok (.iinc 3 1, 3) := by decide +kernel
theorem dX6_init_67 : decode cX6_init 67 = .ok (.goto (-22), 3) := by decide +kernel
theorem dX6_init_70 : decode cX6_init 70 = .ok (.iconst 0, 1) := by decide +kernel
theorem dX6_init_71 : decode cX6_init 71 = .ok (.istore_n 3, 1) := by decide +kernel
theorem dX6_init_72 : decode cX6_init 72 = .ok (.iload_n 3, 1) := by decide +kernel
theorem dX6_init_73 : decode cX6_init 73 = .ok (.bipush 23, 2) := by decide +kernel
theorem dX6_init_75 : decode cX6_init 75 = .ok (.if_icmp .ge 22, 3) := by decide +kernel
theorem dX6_init_78 : decode cX6_init 78 = .ok (.aload_n 0, 1) := by decide +kernel
theorem dX6_init_79 : decode cX6_init 79 = .ok (.getfield 19, 3) := by decide +kernel
theorem dX6_init_82 : decode cX6_init 82 = .ok (.iload_n 3, 1) := by decide +kernel
theorem dX6_init_83 : decode cX6_init 83 = .ok (.new 17, 3) := by decide +kernel
theorem dX6_init_86 : decode cX6_init 86 = .ok (.dup, 1) := by decide +kernel
theorem dX6_init_87 : decode cX6_init 87 = .ok (.invokespecial 23, 3) := by decide +kernel
theorem dX6_init_90 : decode cX6_init 90 = .ok (.aastore, 1) := by decide +kernel
theorem dX6_init_91 : decode cX6_init 91 = .ok (.iinc 3 1, 3) := by decide +kernel
theorem dX6_init_94 : decode cX6_init 94 = .ok (.goto (-22), 3) := by decide +kernel
theorem dX6_init_97 : decode cX6_init 97 = .ok (.return_, 1) := by decide +kernel
set_option maxRecDepth 20000 in
theorem ggX6_load_X6_aimAt : GoodIn wsX6_load wsX6_aimAt := goodIn_r _ [12, 13, 14, 132, 133, 134, 135, 136, 137, 138, 139, 140, 141] (by decide +kernel) (by decide +kernel)
set_option maxRecDepth 20000 in
theorem gX6_load_X6_aimAt : GoodIn wsX6_load (wsV RX6 48 RX6 yX6_aimAt wsX6_aimAt) := goodIn_app (goodIn_of _ (by decide +kernel)) ggX6_load_X6_aimAt
set_option maxRecDepth 20000 in
theorem ggX6_load_X1_clear : GoodIn wsX6_load wsX1_clear := goodIn_r _ [19, 20, 21, 22, 23, 24, 25, 142] (by decide +kernel) (by decide +kernel)
set_option maxRecDepth 20000 in
theorem gX6_load_X1_clear : GoodIn wsX6_load (wsV RX6 52 RX1 yX1_clear wsX1_clear) := goodIn_app (goodIn_of _ (by decide +kernel)) ggX6_load_X1_clear
set_option maxRecDepth 20000 in
theorem ggX6_load_X3_size : GoodIn wsX6_load wsX3_size := goodIn_r _ [30, 31, 143, 144, 145, 146, 147] (by decide +kernel) (by decide +kernel)
set_option maxRecDepth 20000 in
theorem gX6_load_X3_size : GoodIn wsX6_load (wsV RX6 55 RX3 yX3_size wsX3_size) := goodIn_app (goodIn_of _ (by decide +kernel)) ggX6_load_X3_size
set_option maxRecDepth 20000 in
theorem ggX6_load_X6_demandLiteral : GoodIn wsX6_load wsX6_demandLiteral := goodIn_r _ [35, 5, 36, 37, 38, 29, 39, 40, 41, 42, 43, 44, 45, 31, 46, 47, 48, 49, 50, 51, 52, 53, 54, 55, 56, 57, 58, 11, 59, 4, 2, 60, 61, 62, 18, 63, 64, 65, 66, 67, 20, 21, 68, 69, 70, 71, 1, 7, 72, 73, 74, 75, 76, 77, 78, 79, 80, 81, 82, 83, 84, 85, 86, 87, 88, 89, 90, 91, 92, 93, 94, 95, 132, 133, 134, 135, 136, 137, 138, 139, 140, 141, 143, 144, 145, 146, 147, 142, 148, 149, 150, 151, 152, 153, 154] (by decide +kernel) (by decide +kernel)
set_option maxRecDepth 20000 in
theorem gX6_load_X6_demandLiteral : GoodIn wsX6_load (wsV RX6 61 RX6 yX6_demandLiteral wsX6_demandLiteral) := goodIn_app (goodIn_of _ (by decide +kernel)) ggX6_load_X6_demandLiteral
set_option maxRecDepth 20000 in
theorem ggX6_load_X7_size : GoodIn wsX6_load wsX7_size := goodIn_r _ [100, 101, 155, 156, 157, 158, 159] (by decide +kernel) (by decide +kernel)
set_option maxRecDepth 20000 in
theorem gX6_load_X7_size : GoodIn wsX6_load (wsV RX6 65 RX7 yX7_size wsX7_size) := goodIn_app (goodIn_of _ (by decide +kernel)) ggX6_load_X7_size
set_option maxRecDepth 20000 in
theorem ggX6_load_X7_haveSameFunction : GoodIn wsX6_load wsX7_haveSameFunction := goodIn_r _ [105, 106, 107, 108, 109, 99, 110, 101, 155, 156, 157, 158, 159] (by decide +kernel) (by decide +kernel)
set_option maxRecDepth 20000 in
theorem gX6_load_X7_haveSameFunction : GoodIn wsX6_load (wsV RX6 68 RX7 yX7_haveSameFunction wsX7_haveSameFunction) := goodIn_app (goodIn_of _ (by decide +kernel)) ggX6_load_X7_haveSameFunction
set_option maxRecDepth 20000 in
theorem ggX6_load_X0_setCongruence : GoodIn wsX6_load wsX0_setCongruence := goodIn_r _ [114, 77, 78, 84, 85, 79, 115, 116, 117, 118, 119, 99, 120, 121, 122, 107, 108, 109, 110, 101, 80, 81, 82, 75, 83, 123, 124, 125, 126, 106, 127, 128, 129, 130, 131, 148, 149, 150, 151, 152, 153, 154, 155, 156, 157, 158, 159] (by decide +kernel) (by decide +kernel)
set_option maxRecDepth 20000 in
theorem gX6_load_X0_setCongruence : GoodIn wsX6_load (wsV RX6 72 RX0 yX0_setCongruence wsX0_setCongruence) := goodIn_app (goodIn_of _ (by decide +kernel)) ggX6_load_X0_setCongruence
theorem dX6_load_0 : decode cX6_load 0 = .ok (.aload_n 0, 1) := by decide +kernel
theorem dX6_load_1 : decode cX6_load 1 = .ok (.iconst 0, 1) := by decide +kernel
theorem dX6_load_2 : decode cX6_load 2 = .ok (.putfield 37, 3) := by decide +kernel
theorem dX6_load_5 : decode cX6_load 5 = .ok (.aload_n 0, 1) := by decide +kernel
theorem dX6_load_6 : decode cX6_load 6 = .ok (.iconst 0, 1) := by decide +kernel
theorem dX6_load_7 : decode cX6_load 7 = .ok (.putfield 41, 3) := by decide +kernel
theorem dX6_load_10 : decode cX6_load 10 = .ok (.aload_n 0, 1) := by decide +kernel
theorem dX6_load_11 : decode cX6_load 11 = .ok (.iconst 0, 1) := by decide +kernel
theorem dX6_load_12 : decode cX6_load 12 = .ok (.putfield 45, 3) := by decide +kernel
theorem dX6_load_15 : decode cX6_load 15 = .ok (.aload_n 0, 1) := by decide +kernel
theorem dX6_load_16 : decode cX6_load 16 = .ok (.iconst 0, 1) := by decide +kernel
theorem dX6_load_17 : decode cX6_load 17 = .ok (.iconst 0, 1) := by decide +kernel
theorem dX6_load_18 : decode cX6_load 18 = .ok (.invokevirtual 48, 3) := by decide +kernel
theorem dX6_load_21 : decode cX6_load 21 = .ok (.aload_n 0, 1) := by decide +kernel
theorem dX6_load_22 : decode cX6_load 22 = .ok (.getfield 19, 3) := by decide +kernel
theorem dX6_load_25 : decode cX6_load 25 = .ok (.iconst 0, 1) := by decide +kernel
theorem dX6_load_26 : decode cX6_load 26 = .ok (.aaload, 1) := by decide +kernel
theorem dX6_load_27 : decode cX6_load 27 = .ok (.invokevirtual 52, 3) := by decide +kernel
theorem dX6_load_30 : decode cX6_load 30 = .ok (.iconst 0, 1) := by decide +kernel
theorem dX6_load_31 : decode cX6_load 31 = .ok (.istore_n 2, 1) := by decide +kernel
theorem dX6_load_32 : decode cX6_load 32 = .ok (.iload_n 2, 1) := by decide +kernel
theorem dX6_load_33 : decode cX6_load 33 = .ok (.aload_n 0, 1) := by decide +kernel
theorem dX6_load_34 : decode cX6_load 34 = .ok (.getfield 32, 3) := by decide +kernel
theorem dX6_load_37 : decode cX6_load 37 = .ok (.invokevirtual 55, 3) := by decide +kernel
theorem dX6_load_40 : decode cX6_load 40 = .ok (.if_icmp .ge 23, 3) := by decide +kernel
theorem dX6_load_43 : decode cX6_load 43 = .ok (.iload_n 1, 1) := by decide +kernel
theorem dX6_load_44 : decode cX6_load 44 = .ok (.iload_n 2, 1) := by decide +kernel
theorem dX6_load_45 : decode cX6_load 45 = .ok (.ishr, 1) := by decide +kernel
theorem dX6_load_46 : decode cX6_load 46 = .ok (.iconst 1, 1) := by decide +kernel
theorem dX6_load_47 : decode cX6_load 47 = .ok (.iand, 1) := by decide +kernel
theorem dX6_load_48 : decode cX6_load 48 = .ok (.iconst 1, 1) := by decide +kernel
theorem dX6_load_49 : decode cX6_load 49 = .ok (.if_icmp .ne 8, 3) := by decide +kernel
theorem dX6_load_52 : decode cX6_load 52 = .ok (.aload_n 0, 1) := by decide +kernel
theorem dX6_load_53 : decode cX6_load 53 = .ok (.iload_n 2, 1) := by decide +kernel
theorem dX6_load_54 : decode cX6_load 54 = .ok (.invokevirtual 61, 3) := by decide +kernel
theorem dX6_load_57 : decode cX6_load 57 = .ok (.iinc 2 1, 3) := by decide +kernel
theorem dX6_load_60 : decode cX6_load 60 = .ok (.goto (-28), 3) := by decide +kernel
theorem dX6_load_63 : decode cX6_load 63 = .ok (.iconst 5, 1) := by decide +kernel
theorem dX6_load_64 : decode cX6_load 64 = .ok (.istore_n 2, 1) := by decide +kernel
theorem dX6_load_65 : decode cX6_load 65 = .ok (.iload_n 2, 1) := by decide +kernel
theorem dX6_load_66 : decode cX6_load 66 = .ok (.aload_n 0, 1) := by decide +kernel
theorem dX6_load_67 : decode cX6_load 67 = .ok (.getfield 28, 3) := by decide +kernel
theorem dX6_load_70 : decode cX6_load 70 = .ok (.invokevirtual 65, 3) := by decide +kernel
theorem dX6_load_73 : decode cX6_load 73 = .ok (.if_icmp .ge 79, 3) := by decide +kernel
theorem dX6_load_76 : decode cX6_load 76 = .ok (.iload_n 2, 1) := by decide +kernel
theorem dX6_load_77 : decode cX6_load 77 = .ok (.iconst 1, 1) := by decide +kernel
theorem dX6_load_78 : decode cX6_load 78 = .ok (.iadd, 1) := by decide +kernel
theorem dX6_load_79 : decode cX6_load 79 = .ok (.istore_n 3, 1) := by decide +kernel
theorem dX6_load_80 : decode cX6_load 80 = .ok (.iload_n 3, 1) := by decide +kernel
theorem dX6_load_81 : decode cX6_load 81 = .ok (.aload_n 0, 1) := by decide +kernel
theorem dX6_load_82 : decode cX6_load 82 = .ok (.getfield 28, 3) := by decide +kernel
theorem dX6_load_85 : decode cX6_load 85 = .ok (.invokevirtual 65, 3) := by decide +kernel
theorem dX6_load_88 : decode cX6_load 88 = .ok (.if_icmp .ge 58, 3) := by decide +kernel
theorem dX6_load_91 : decode cX6_load 91 = .ok (.aload_n 0, 1) := by decide +kernel
theorem dX6_load_92 : decode cX6_load 92 = .ok (.getfield 28, 3) := by decide +kernel
theorem dX6_load_95 : decode cX6_load 95 = .ok (.iload_n 2, 1) := by decide +kernel
theorem dX6_load_96 : decode cX6_load 96 = .ok (.iload_n 3, 1) := by decide +kernel
theorem dX6_load_97 : decode cX6_load 97 = .ok (.invokevirtual 68, 3) := by decide +kernel
theorem dX6_load_100 : decode cX6_load 100 = .ok (.ifCond .eq 40, 3) := by decide +kernel
theorem dX6_load_103 : decode cX6_load 103 = .ok (.aload_n 0, 1) := by decide +kernel
theorem dX6_load_104 : decode cX6_load 104 = .ok (.getfield 37, 3) := by decide +kernel
theorem dX6_load_107 : decode cX6_load 107 = .ok (.bipush 22, 2) := by decide +kernel
theorem dX6_load_109 : decode cX6_load 109 = .ok (.if_icmp .ge 31, 3) := by decide +kernel
theorem dX6_load_112 : decode cX6_load 112 = .ok (.aload_n 0, 1) := by decide +kernel
theorem dX6_load_113 : decode cX6_load 113 = .ok (.getfield 13, 3) := by decide +kernel
theorem dX6_load_116 : decode cX6_load 116 = .ok (.aload_n 0, 1) := by decide +kernel
theorem dX6_load_117 : decode cX6_load 117 = .ok (.getfield 37, 3) := by decide +kernel
theorem dX6_load_120 : decode cX6_load 120 = .ok (.aaload, 1) := by decide +kernel
theorem dX6_load_121 : decode cX6_load 121 = .ok (.aload_n 0, 1) := by decide +kernel
theorem dX6_load_122 : decode cX6_load 122 = .ok (.getfield 28, 3) := by decide +kernel
theorem dX6_load_125 : decode cX6_load 125 = .ok (.iload_n 2, 1) := by decide +kernel
theorem dX6_load_126 : decode cX6_load 126 = .ok (.iload_n 3, 1) := by decide +kernel
theorem dX6_load_127 : decode cX6_load 127 = .ok (.invokevirtual 72, 3) := by decide +kernel
theorem dX6_load_130 : decode cX6_load 130 = .ok (.aload_n 0, 1) := by decide +kernel
theorem dX6_load_131 : decode cX6_load 131 = .ok (.dup, 1) := by decide +kernel
theorem dX6_load_132 : decode cX6_load 132 = .ok (.getfield 37, 3) := by decide +kernel
theorem dX6_load_135 : decode cX6_load 135 = .ok (.iconst 1, 1) := by decide +kernel
theorem dX6_load_136 : decode cX6_load 136 = .ok (.iadd, 1) := by decide +kernel
theorem dX6_load_137 : decode cX6_load 137 = .ok (.putfield 37, 3) := by decide +kernel
theorem dX6_load_140 : decode cX6_load 140 = .ok (.iinc 3 1, 3) := by decide +kernel
theorem dX6_load_143 : decode cX6_load 143 = .ok (.goto (-63), 3) := by decide +kernel
theorem dX6_load_146 : decode cX6_load 146 = .ok (.iinc 2 1, 3) := by decide +kernel
theorem dX6_load_149 : decode cX6_load 149 = .ok (.goto (-84), 3) := by decide +kernel
theorem dX6_load_152 : decode cX6_load 152 = .ok (.return_, 1) := by decide +kernel
set_option maxRecDepth 20000 in
theorem ggX6_demandLiteral_X3_leftOf : GoodIn wsX6_demandLiteral wsX3_leftOf := goodIn_r _ [6, 7, 8, 9, 10, 11, 5, 12, 13, 82, 83, 84, 85, 86] (by decide +kernel) (by decide +kernel)
set_option maxRecDepth 20000 in
theorem gX6_demandLiteral_X3_leftOf : GoodIn wsX6_demandLiteral (wsV RX6 76 RX3 yX3_leftOf wsX3_leftOf) := goodIn_app (goodIn_of _ (by decide +kernel)) ggX6_demandLiteral_X3_leftOf
set_option maxRecDepth 20000 in
theorem ggX6_demandLiteral_X3_rightOf : GoodIn wsX6_demandLiteral wsX3_rightOf := goodIn_r _ [17, 18, 8, 9, 10, 11, 5, 12, 13, 82, 83, 84, 85, 86] (by decide +kernel) (by decide +kernel)
set_option maxRecDepth 20000 in
theorem gX6_demandLiteral_X3_rightOf : GoodIn wsX6_demandLiteral (wsV RX6 80 RX3 yX3_rightOf wsX3_rightOf) := goodIn_app (goodIn_of _ (by decide +kernel)) ggX6_demandLiteral_X3_rightOf
set_option maxRecDepth 20000 in
theorem ggX6_demandLiteral_X3_kindOf : GoodIn wsX6_demandLiteral wsX3_kindOf := goodIn_r _ [22, 23, 8, 9, 10, 11, 5, 12, 13, 82, 83, 84, 85, 86] (by decide +kernel) (by decide +kernel)
set_option maxRecDepth 20000 in
theorem gX6_demandLiteral_X3_kindOf : GoodIn wsX6_demandLiteral (wsV RX6 83 RX3 yX3_kindOf wsX3_kindOf) := goodIn_app (goodIn_of _ (by decide +kernel)) ggX6_demandLiteral_X3_kindOf
set_option maxRecDepth 20000 in
theorem ggX6_demandLiteral_X6_demandEqual : GoodIn wsX6_demandLiteral wsX6_demandEqual := goodIn_r _ [28, 29, 30, 31, 32, 33, 34, 35, 36, 37, 38, 39, 40, 41, 72, 73, 74, 75, 76, 77, 78, 79, 80, 81, 87] (by decide +kernel) (by decide +kernel)
set_option maxRecDepth 20000 in
theorem gX6_demandLiteral_X6_demandEqual : GoodIn wsX6_demandLiteral (wsV RX6 86 RX6 yX6_demandEqual wsX6_demandEqual) := goodIn_app (goodIn_of _ (by decide +kernel)) ggX6_demandLiteral_X6_demandEqual
set_option maxRecDepth 20000 in
theorem ggX6_demandLiteral_X6_demandDifferent : GoodIn wsX6_demandLiteral wsX6_demandDifferent := goodIn_r _ [45, 46, 47, 48, 49, 50, 51, 52, 53, 54, 55, 56, 57, 58, 59, 60, 61, 72, 73, 74, 75, 76, 77, 78, 79, 80, 81, 88, 89, 90, 91, 92, 93, 94] (by decide +kernel) (by decide +kernel)
set_option maxRecDepth 20000 in
theorem gX6_demandLiteral_X6_demandDifferent : GoodIn wsX6_demandLiteral (wsV RX6 89 RX6 yX6_demandDifferent wsX6_demandDifferent) := goodIn_app (goodIn_of _ (by decide +kernel)) ggX6_demandLiteral_X6_demandDifferent
set_option maxRecDepth 20000 in
theorem ggX6_demandLiteral_X3_numberOf : GoodIn wsX6_demandLiteral wsX3_numberOf := goodIn_r _ [65, 66, 9, 10, 11, 5, 12, 13, 82, 83, 84, 85, 86] (by decide +kernel) (by decide +kernel)
set_option maxRecDepth 20000 in
theorem gX6_demandLiteral_X3_numberOf : GoodIn wsX6_demandLiteral (wsV RX6 92 RX3 yX3_numberOf wsX3_numberOf) := goodIn_app (goodIn_of _ (by decide +kernel)) ggX6_demandLiteral_X3_numberOf
set_option maxRecDepth 20000 in
theorem ggX6_demandLiteral_X6_demandAtMost : GoodIn wsX6_demandLiteral wsX6_demandAtMost := goodIn_r _ [70, 29, 30, 71, 37, 38, 34, 39, 40, 41, 72, 73, 74, 75, 76, 77, 78, 79, 80, 81, 87] (by decide +kernel) (by decide +kernel)
set_option maxRecDepth 20000 in
theorem gX6_demandLiteral_X6_demandAtMost : GoodIn wsX6_demandLiteral (wsV RX6 95 RX6 yX6_demandAtMost wsX6_demandAtMost) := goodIn_app (goodIn_of _ (by decide +kernel)) ggX6_demandLiteral_X6_demandAtMost
theorem dX6_demandLiteral_0 : decode cX6_demandLiteral 0 = .ok (.aload_n 0, 1) := by decide +kernel
theorem dX6_demandLiteral_1 : decode cX6_demandLiteral 1 = .ok (.getfield 32, 3) := by decide +kernel
theorem dX6_demandLiteral_4 : decode cX6_demandLiteral 4 = .ok (.iload_n 1, 1) := by decide +kernel
theorem dX6_demandLiteral_5 : decode cX6_demandLiteral 5 = .ok (.invokevirtual 76, 3) := by decide +kernel
theorem dX6_demandLiteral_8 : decode cX6_demandLiteral 8 = .ok (.istore_n 2, 1) := by decide +kernel
theorem dX6_demandLiteral_9 : decode cX6_demandLiteral 9 = .ok (.aload_n 0, 1) := by decide +kernel
theorem dX6_demandLiteral_10 : decode cX6_demandLiteral 10 = .ok (.getfield 32, 3) := by decide +kernel
theorem dX6_demandLiteral_13 : decode cX6_demandLiteral 13 = .ok (.iload_n 1, 1) := by decide +kernel
theorem dX6_demandLiteral_14 : decode cX6_demandLiteral 14 = .ok (.invokevirtual 80, 3) := by decide +kernel
theorem dX6_demandLiteral_17 : decode cX6_demandLiteral 17 = .ok (.istore_n 3, 1) := by decide +kernel
theorem dX6_demandLiteral_18 : decode cX6_demandLiteral 18 = .ok (.aload_n 0, 1) := by decide +kernel
theorem dX6_demandLiteral_19 : decode cX6_demandLiteral 19 = .ok (.getfield 32, 3) := by decide +kernel
theorem dX6_demandLiteral_22 : decode cX6_demandLiteral 22 = .ok (.iload_n 1, 1) := by decide +kernel
theorem dX6_demandLiteral_23 : decode cX6_demandLiteral 23 = .ok (.invokevirtual 83, 3) := by decide +kernel
theorem dX6_demandLiteral_26 : decode cX6_demandLiteral 26 = .ok (.ifCond .ne 12, 3) := by decide +kernel
theorem dX6_demandLiteral_29 : decode cX6_demandLiteral 29 = .ok (.aload_n 0, 1) := by decide +kernel
theorem dX6_demandLiteral_30 : decode cX6_demandLiteral 30 = .ok (.iload_n 2, 1) := by decide +kernel
theorem dX6_demandLiteral_31 : decode cX6_demandLiteral 31 = .ok (.iload_n 3, 1) := by decide +kernel
theorem dX6_demandLiteral_32 : decode cX6_demandLiteral 32 = .ok (.invokevirtual 86, 3) := by decide +kernel
theorem dX6_demandLiteral_35 : decode cX6_demandLiteral 35 = .ok (.goto 38, 3) := by decide +kernel
theorem dX6_demandLiteral_38 : decode cX6_demandLiteral 38 = .ok (.aload_n 0, 1) := by decide +kernel
theorem dX6_demandLiteral_39 : decode cX6_demandLiteral 39 = .ok (.getfield 32, 3) := by decide +kernel
theorem dX6_demandLiteral_42 : decode cX6_demandLiteral 42 = .ok (.iload_n 1, 1) := by decide +kernel
theorem dX6_demandLiteral_43 : decode cX6_demandLiteral 43 = .ok (.invokevirtual 83, 3) := by decide +kernel
theorem dX6_demandLiteral_46 : decode cX6_demandLiteral 46 = .ok (.iconst 1, 1) := by decide +kernel
theorem dX6_demandLiteral_47 : decode cX6_demandLiteral 47 = .ok (.if_icmp .ne 12, 3) := by decide +kernel
theorem dX6_demandLiteral_50 : decode cX6_demandLiteral 50 = .ok (.aload_n 0, 1) := by decide +kernel
theorem dX6_demandLiteral_51 : decode cX6_demandLiteral 51 = .ok (.iload_n 2, 1) := by decide +kernel
theorem dX6_demandLiteral_52 : decode cX6_demandLiteral 52 = .ok (.iload_n 3, 1) := by decide +kernel
theorem dX6_demandLiteral_53 : decode cX6_demandLiteral 53 = .ok (.invokevirtual 89, 3) := by decide +kernel
theorem dX6_demandLiteral_56 : decode cX6_demandLiteral 56 = .ok (.goto 17, 3) := by decide +kernel
theorem dX6_demandLiteral_59 : decode cX6_demandLiteral 59 = .ok (.aload_n 0, 1) := by decide +kernel
theorem dX6_demandLiteral_60 : decode cX6_demandLiteral 60 = .ok (.iload_n 2, 1) := by decide +kernel
theorem dX6_demandLiteral_61 : decode cX6_demandLiteral 61 = .ok (.iload_n 3, 1) := by decide +kernel
theorem dX6_demandLiteral_62 : decode cX6_demandLiteral 62 = .ok (.aload_n 0, 1) := by decide +kernel
theorem dX6_demandLiteral_63 : decode cX6_demandLiteral 63 = .ok (.getfield 32, 3) := by decide +kernel
theorem dX6_demandLiteral_66 : decode cX6_demandLiteral 66 = .ok (.iload_n 1, 1) := by decide +kernel
theorem dX6_demandLiteral_67 : decode cX6_demandLiteral 67 = .ok (.invokevirtual 92, 3) := by decide +kernel
theorem dX6_demandLiteral_70 : decode cX6_demandLiteral 70 = .ok (.invokevirtual 95, 3) := by decide +kernel
theorem dX6_demandLiteral_73 : decode cX6_demandLiteral 73 = .ok (.return_, 1) := by decide +kernel
set_option maxRecDepth 20000 in
theorem ggX6_demandEqual_X1_equate : GoodIn wsX6_demandEqual wsX1_equate := goodIn_r _ [7, 8, 9, 10, 6, 11, 12, 13, 24] (by decide +kernel) (by decide +kernel)
set_option maxRecDepth 20000 in
theorem gX6_demandEqual_X1_equate : GoodIn wsX6_demandEqual (wsV RX6 99 RX1 yX1_equate wsX1_equate) := goodIn_app (goodIn_of _ (by decide +kernel)) ggX6_demandEqual_X1_equate
theorem dX6_demandEqual_0 : decode cX6_demandEqual 0 = .ok (.aload_n 0, 1) := by decide +kernel
theorem dX6_demandEqual_1 : decode cX6_demandEqual 1 = .ok (.getfield 19, 3) := by decide +kernel
theorem dX6_demandEqual_4 : decode cX6_demandEqual 4 = .ok (.iconst 0, 1) := by decide +kernel
theorem dX6_demandEqual_5 : decode cX6_demandEqual 5 = .ok (.aaload, 1) := by decide +kernel
theorem dX6_demandEqual_6 : decode cX6_demandEqual 6 = .ok (.iload_n 1, 1) := by decide +kernel
theorem dX6_demandEqual_7 : decode cX6_demandEqual 7 = .ok (.iload_n 2, 1) := by decide +kernel
theorem dX6_demandEqual_8 : decode cX6_demandEqual 8 = .ok (.invokevirtual 99, 3) := by decide +kernel
theorem dX6_demandEqual_11 : decode cX6_demandEqual 11 = .ok (.ifCond .ne 8, 3) := by decide +kernel
theorem dX6_demandEqual_14 : decode cX6_demandEqual 14 = .ok (.aload_n 0, 1) := by decide +kernel
theorem dX6_demandEqual_15 : decode cX6_demandEqual 15 = .ok (.iconst 1, 1) := by decide +kernel
theorem dX6_demandEqual_16 : decode cX6_demandEqual 16 = .ok (.putfield 41, 3) := by decide +kernel
theorem dX6_demandEqual_19 : decode cX6_demandEqual 19 = .ok (.return_, 1) := by decide +kernel
set_option maxRecDepth 20000 in
theorem ggX6_demandAtMost_X1_bound : GoodIn wsX6_demandAtMost wsX1_bound := goodIn_r _ [7, 8, 9, 20] (by decide +kernel) (by decide +kernel)
set_option maxRecDepth 20000 in
theorem gX6_demandAtMost_X1_bound : GoodIn wsX6_demandAtMost (wsV RX6 102 RX1 yX1_bound wsX1_bound) := goodIn_app (goodIn_of _ (by decide +kernel)) ggX6_demandAtMost_X1_bound
theorem dX6_demandAtMost_0 : decode cX6_demandAtMost 0 = .ok (.aload_n 0, 1) := by decide +kernel
theorem dX6_demandAtMost_1 : decode cX6_demandAtMost 1 = .ok (.getfield 19, 3) := by decide +kernel
theorem dX6_demandAtMost_4 : decode cX6_demandAtMost 4 = .ok (.iconst 0, 1) := by decide +kernel
theorem dX6_demandAtMost_5 : decode cX6_demandAtMost 5 = .ok (.aaload, 1) := by decide +kernel
theorem dX6_demandAtMost_6 : decode cX6_demandAtMost 6 = .ok (.iload_n 1, 1) := by decide +kernel
theorem dX6_demandAtMost_7 : decode cX6_demandAtMost 7 = .ok (.iload_n 2, 1) := by decide +kernel
theorem dX6_demandAtMost_8 : decode cX6_demandAtMost 8 = .ok (.iload_n 3, 1) := by decide +kernel
theorem dX6_demandAtMost_9 : decode cX6_demandAtMost 9 = .ok (.i2l, 1) := by decide +kernel
theorem dX6_demandAtMost_10 : decode cX6_demandAtMost 10 = .ok (.invokevirtual 102, 3) := by decide +kernel
theorem dX6_demandAtMost_13 : decode cX6_demandAtMost 13 = .ok (.ifCond .ne 8, 3) := by decide +kernel
theorem dX6_demandAtMost_16 : decode cX6_demandAtMost 16 = .ok (.aload_n 0, 1) := by decide +kernel
theorem dX6_demandAtMost_17 : decode cX6_demandAtMost 17 = .ok (.iconst 1, 1) := by decide +kernel
theorem dX6_demandAtMost_18 : decode cX6_demandAtMost 18 = .ok (.putfield 41, 3) := by decide +kernel
theorem dX6_demandAtMost_21 : decode cX6_demandAtMost 21 = .ok (.return_, 1) := by decide +kernel
set_option maxRecDepth 20000 in
theorem ggX6_demandDifferent_X0_setInequality : GoodIn wsX6_demandDifferent wsX0_setInequality := goodIn_r _ [7, 8, 9, 10, 11, 12, 13, 6, 14, 15, 16, 27, 28, 29, 30, 31, 32, 33] (by decide +kernel) (by decide +kernel)
set_option maxRecDepth 20000 in
theorem gX6_demandDifferent_X0_setInequality : GoodIn wsX6_demandDifferent (wsV RX6 106 RX0 yX0_setInequality wsX0_setInequality) := goodIn_app (goodIn_of _ (by decide +kernel)) ggX6_demandDifferent_X0_setInequality
theorem dX6_demandDifferent_0 : decode cX6_demandDifferent 0 = .ok (.aload_n 0, 1) := by decide +kernel
theorem dX6_demandDifferent_1 : decode cX6_demandDifferent 1 = .ok (.getfield 37, 3) := by decide +kernel
theorem dX6_demandDifferent_4 : decode cX6_demandDifferent 4 = .ok (.ifCond .lt 36, 3) := by decide +kernel
theorem dX6_demandDifferent_7 : decode cX6_demandDifferent 7 = .ok (.aload_n 0, 1) := by decide +kernel
theorem dX6_demandDifferent_8 : decode cX6_demandDifferent 8 = .ok (.getfield 37, 3) := by decide +kernel
theorem dX6_demandDifferent_11 : decode cX6_demandDifferent 11 = .ok (.bipush 22, 2) := by decide +kernel
theorem dX6_demandDifferent_13 : decode cX6_demandDifferent 13 = .ok (.if_icmp .ge 27, 3) := by decide +kernel
theorem dX6_demandDifferent_16 : decode cX6_demandDifferent 16 = .ok (.aload_n 0, 1) := by decide +kernel
theorem dX6_demandDifferent_17 : decode cX6_demandDifferent 17 = .ok (.getfield 13, 3) := by decide +kernel
theorem dX6_demandDifferent_20 : decode cX6_demandDifferent 20 = .ok (.aload_n 0, 1) := by decide +kernel
theorem dX6_demandDifferent_21 : decode cX6_demandDifferent 21 = .ok (.getfield 37, 3) := by decide +kernel
theorem dX6_demandDifferent_24 : decode cX6_demandDifferent 24 = .ok (.aaload, 1) := by decide +kernel
theorem dX6_demandDifferent_25 : decode cX6_demandDifferent 25 = .ok (.iload_n 1, 1) := by decide +kernel
theorem dX6_demandDifferent_26 : decode cX6_demandDifferent 26 = .ok (.iload_n 2, 1) := by decide +kernel
theorem dX6_demandDifferent_27 : decode cX6_demandDifferent 27 = .ok (.invokevirtual 106, 3) := by decide +kernel
theorem dX6_demandDifferent_30 : decode cX6_demandDifferent 30 = .ok (.aload_n 0, 1) := by decide +kernel
theorem dX6_demandDifferent_31 : decode cX6_demandDifferent 31 = .ok (.dup, 1) := by decide +kernel
theorem dX6_demandDifferent_32 : decode cX6_demandDifferent 32 = .ok (.getfield 37, 3) := by decide +kernel
theorem dX6_demandDifferent_35 : decode cX6_demandDifferent 35 = .ok (.iconst 1, 1) := by decide +kernel
theorem dX6_demandDifferent_36 : decode cX6_demandDifferent 36 = .ok (.iadd, 1) := by decide +kernel
theorem dX6_demandDifferent_37 : decode cX6_demandDifferent 37 = .ok (.putfield 37, 3) := by decide +kernel
theorem dX6_demandDifferent_40 : decode cX6_demandDifferent 40 = .ok (.return_, 1) := by decide +kernel
theorem dX6_aimAt_0 : decode cX6_aimAt 0 = .ok (.aload_n 0, 1) := by decide +kernel
theorem dX6_aimAt_1 : decode cX6_aimAt 1 = .ok (.iload_n 1, 1) := by decide +kernel
theorem dX6_aimAt_2 : decode cX6_aimAt 2 = .ok (.putfield 109, 3) := by decide +kernel
theorem dX6_aimAt_5 : decode cX6_aimAt 5 = .ok (.aload_n 0, 1) := by decide +kernel
theorem dX6_aimAt_6 : decode cX6_aimAt 6 = .ok (.iload_n 2, 1) := by decide +kernel
theorem dX6_aimAt_7 : decode cX6_aimAt 7 = .ok (.putfield 112, 3) := by decide +kernel
theorem dX6_aimAt_10 : decode cX6_aimAt 10 = .ok (.return_, 1) := by decide +kernel
set_option maxRecDepth 20000 in
theorem ggX6_hasSolution_X6_search : GoodIn wsX6_hasSolution wsX6_search := goodIn_r _ [7, 8, 9, 2, 10, 11, 12, 13, 6, 14, 15, 16, 17, 18, 19, 20, 21, 22, 23, 24, 25, 26, 27, 28, 29, 30, 31, 32, 33, 34, 35, 36, 37, 38, 39, 40, 41, 42, 43, 44, 45, 46, 47, 48, 49, 50, 51, 52, 53, 54, 55, 56, 57, 58, 59, 60, 61, 62, 63, 64, 65, 66, 67, 68, 69, 70, 71, 72, 73, 74, 75, 3, 4, 5, 76, 77, 78, 79, 80, 81, 82, 83, 84, 85, 86, 87, 88, 89, 90, 91, 92, 93] (by decide +kernel) (by decide +kernel)
set_option maxRecDepth 20000 in
theorem gX6_hasSolution_X6_search : GoodIn wsX6_hasSolution (wsV RX6 115 RX6 yX6_search wsX6_search) := goodIn_app (goodIn_of _ (by decide +kernel)) ggX6_hasSolution_X6_search
theorem dX6_hasSolution_0 : decode cX6_hasSolution 0 = .ok (.aload_n 0, 1) := by decide +kernel
theorem dX6_hasSolution_1 : decode cX6_hasSolution 1 = .ok (.getfield 41, 3) := by decide +kernel
theorem dX6_hasSolution_4 : decode cX6_hasSolution 4 = .ok (.ifCond .ne 8, 3) := by decide +kernel
theorem dX6_hasSolution_7 : decode cX6_hasSolution 7 = .ok (.aload_n 0, 1) := by decide +kernel
theorem dX6_hasSolution_8 : decode cX6_hasSolution 8 = .ok (.iconst 0, 1) := by decide +kernel
theorem dX6_hasSolution_9 : decode cX6_hasSolution 9 = .ok (.invokevirtual 115, 3) := by decide +kernel
theorem dX6_hasSolution_12 : decode cX6_hasSolution 12 = .ok (.aload_n 0, 1) := by decide +kernel
theorem dX6_hasSolution_13 : decode cX6_hasSolution 13 = .ok (.getfield 45, 3) := by decide +kernel
theorem dX6_hasSolution_16 : decode cX6_hasSolution 16 = .ok (.ireturn, 1) := by decide +kernel
set_option maxRecDepth 20000 in
theorem ggX6_greatest_X1_between : GoodIn wsX6_greatest wsX1_between := goodIn_r _ [8, 9, 10, 21] (by decide +kernel) (by decide +kernel)
set_option maxRecDepth 20000 in
theorem gX6_greatest_X1_between : GoodIn wsX6_greatest (wsV RX6 118 RX1 yX1_between wsX1_between) := goodIn_app (goodIn_of _ (by decide +kernel)) ggX6_greatest_X1_between
theorem dX6_greatest_0 : decode cX6_greatest 0 = .ok (.aload_n 0, 1) := by decide +kernel
theorem dX6_greatest_1 : decode cX6_greatest 1 = .ok (.getfield 24, 3) := by decide +kernel
theorem dX6_greatest_4 : decode cX6_greatest 4 = .ok (.aload_n 0, 1) := by decide +kernel
theorem dX6_greatest_5 : decode cX6_greatest 5 = .ok (.getfield 109, 3) := by decide +kernel
theorem dX6_greatest_8 : decode cX6_greatest 8 = .ok (.aload_n 0, 1) := by decide +kernel
theorem dX6_greatest_9 : decode cX6_greatest 9 = .ok (.getfield 112, 3) := by decide +kernel
theorem dX6_greatest_12 : decode cX6_greatest 12 = .ok (.invokevirtual 118, 3) := by decide +kernel
theorem dX6_greatest_15 : decode cX6_greatest 15 = .ok (.lreturn, 1) := by decide +kernel
set_option maxRecDepth 20000 in
theorem ggX6_foundEqual_X1_areEqual : GoodIn wsX6_foundEqual wsX1_areEqual := goodIn_r _ [6, 7, 8, 9, 5, 10, 11, 12, 23] (by decide +kernel) (by decide +kernel)
set_option maxRecDepth 20000 in
theorem gX6_foundEqual_X1_areEqual : GoodIn wsX6_foundEqual (wsV RX6 122 RX1 yX1_areEqual wsX1_areEqual) := goodIn_app (goodIn_of _ (by decide +kernel)) ggX6_foundEqual_X1_areEqual
theorem dX6_foundEqual_0 : decode cX6_foundEqual 0 = .ok (.aload_n 0, 1) := by decide +kernel
theorem dX6_foundEqual_1 : decode cX6_foundEqual 1 = .ok (.getfield 24, 3) := by decide +kernel
theorem dX6_foundEqual_4 : decode cX6_foundEqual 4 = .ok (.iload_n 1, 1) := by decide +kernel
theorem dX6_foundEqual_5 : decode cX6_foundEqual 5 = .ok (.iload_n 2, 1) := by decide +kernel
theorem dX6_foundEqual_6 : decode cX6_foundEqual 6 = .ok (.invokevirtual 122, 3) := by decide +kernel
theorem dX6_foundEqual_9 : decode cX6_foundEqual 9 = .ok (.ireturn, 1) := by decide +kernel
set_option maxRecDepth 20000 in
theorem ggX6_search_X6_demandsMore : GoodIn wsX6_search wsX6_demandsMore := goodIn_r _ [9, 3, 10, 11, 12, 13, 14, 15, 8, 16, 2, 17, 18, 19, 20, 21, 22, 23, 24, 25, 26, 27, 74, 75, 76, 77, 78, 79, 80, 81, 82, 83, 84] (by decide +kernel) (by decide +kernel)
set_option maxRecDepth 20000 in
theorem gX6_search_X6_demandsMore : GoodIn wsX6_search (wsV RX6 125 RX6 yX6_demandsMore wsX6_demandsMore) := goodIn_app (goodIn_of _ (by decide +kernel)) ggX6_search_X6_demandsMore
set_option maxRecDepth 20000 in
theorem ggX6_search_X6_takeForcedOptions : GoodIn wsX6_search wsX6_takeForcedOptions := goodIn_r _ [31, 32, 4, 33, 34, 35, 36, 37, 38, 39, 40, 41, 42, 43, 44, 45, 18, 19, 20, 21, 22, 23, 46, 47, 48, 49, 50, 51, 25, 26, 27, 74, 75, 76, 77, 78, 79, 80, 81, 82, 83, 85, 86, 87, 88, 89, 90, 91, 84] (by decide +kernel) (by decide +kernel)
set_option maxRecDepth 20000 in
theorem gX6_search_X6_takeForcedOptions : GoodIn wsX6_search (wsV RX6 129 RX6 yX6_takeForcedOptions wsX6_takeForcedOptions) := goodIn_app (goodIn_of _ (by decide +kernel)) ggX6_search_X6_takeForcedOptions
set_option maxRecDepth 20000 in
theorem ggX6_search_X6_narrowestClause : GoodIn wsX6_search wsX6_narrowestClause := goodIn_r _ [55, 32, 4, 33, 34, 35, 36, 37, 38, 39, 40, 41, 42, 43, 44, 45, 18, 19, 20, 21, 22, 23, 56, 57, 58, 59, 60, 61, 62, 74, 75, 76, 77, 78, 79, 80, 81, 82, 83, 85, 86, 87, 88, 89, 90, 91, 84] (by decide +kernel) (by decide +kernel)
set_option maxRecDepth 20000 in
theorem gX6_search_X6_narrowestClause : GoodIn wsX6_search (wsV RX6 132 RX6 yX6_narrowestClause wsX6_narrowestClause) := goodIn_app (goodIn_of _ (by decide +kernel)) ggX6_search_X6_narrowestClause
set_option maxRecDepth 20000 in
theorem ggX6_search_X1_copyFrom : GoodIn wsX6_search wsX1_copyFrom := goodIn_r _ [66, 22, 67, 68, 69, 70, 84] (by decide +kernel) (by decide +kernel)
set_option maxRecDepth 20000 in
theorem gX6_search_X1_copyFrom : GoodIn wsX6_search (wsV RX6 136 RX1 yX1_copyFrom wsX1_copyFrom) := goodIn_app (goodIn_of _ (by decide +kernel)) ggX6_search_X1_copyFrom
set_option maxRecDepth 20000 in
theorem ggX6_search_X0_openOptions : GoodIn wsX6_search wsX0_openOptions := goodIn_r _ [37, 38, 39, 40, 41, 42, 43, 44, 45, 18, 19, 20, 21, 22, 23, 85, 86, 87, 88, 89, 90, 91, 84] (by decide +kernel) (by decide +kernel)
set_option maxRecDepth 20000 in
theorem gX6_search_X0_openOptions : GoodIn wsX6_search (wsV RX6 140 RX0 yX0_openOptions wsX0_openOptions) := goodIn_app (goodIn_of _ (by decide +kernel)) ggX6_search_X0_openOptions
set_option maxRecDepth 20000 in
theorem ggX6_search_X0_take : GoodIn wsX6_search wsX0_take := goodIn_r _ [49, 38, 39, 50, 40, 41, 43, 44, 51, 25, 26, 20, 27, 22, 23, 85, 86, 87, 88, 89, 90, 91, 84] (by decide +kernel) (by decide +kernel)
set_option maxRecDepth 20000 in
theorem gX6_search_X0_take : GoodIn wsX6_search (wsV RX6 143 RX0 yX0_take wsX0_take) := goodIn_app (goodIn_of _ (by decide +kernel)) ggX6_search_X0_take
set_option maxRecDepth 20000 in
theorem ggX6_search_X6_search : GoodIn wsX6_search wsX6_search := goodIn_r _ [0, 1, 2, 3, 4, 5, 6, 7, 8, 9, 10, 11, 12, 13, 14, 15, 16, 17, 18, 19, 20, 21, 22, 23, 24, 25, 26, 27, 28, 29, 30, 31, 32, 33, 34, 35, 36, 37, 38, 39, 40, 41, 42, 43, 44, 45, 46, 47, 48, 49, 50, 51, 52, 53, 54, 55, 56, 57, 58, 59, 60, 61, 62, 63, 64, 65, 66, 67, 68, 69, 70, 71, 72, 73, 74, 75, 76, 77, 78, 79, 80, 81, 82, 83, 84, 85, 86, 87, 88, 89, 90, 91] (by decide +kernel) (by decide +kernel)
set_option maxRecDepth 20000 in
theorem gX6_search_X6_search : GoodIn wsX6_search (wsV RX6 115 RX6 yX6_search wsX6_search) := goodIn_app (goodIn_of _ (by decide +kernel)) ggX6_search_X6_search
theorem dX6_search_0 : decode cX6_search 0 = .ok (.iload_n 1, 1) := by decide +kernel
theorem dX6_search_1 : decode cX6_search 1 = .ok (.ifCond .lt 9, 3) := by decide +kernel
theorem dX6_search_4 : decode cX6_search 4 = .ok (.iload_n 1, 1) := by decide +kernel
theorem dX6_search_5 : decode cX6_search 5 = .ok (.bipush 23, 2) := by decide +kernel
theorem dX6_search_7 : decode cX6_search 7 = .ok (.if_icmp .lt 4, 3) := by decide +kernel
theorem dX6_search_10 : decode cX6_search 10 = .ok (.return_, 1) := by decide +kernel
theorem dX6_search_11 : decode cX6_search 11 = .ok (.aload_n 0, 1) := by decide +kernel
theorem dX6_search_12 : decode cX6_search 12 = .ok (.getfield 19, 3) := by decide +kernel
theorem dX6_search_15 : decode cX6_search 15 = .ok (.iload_n 1, 1) := by decide +kernel
theorem dX6_search_16 : decode cX6_search 16 = .ok (.aaload, 1) := by decide +kernel
theorem dX6_search_17 : decode cX6_search 17 = .ok (.astore_n 2, 1) := by decide +kernel
theorem dX6_search_18 : decode cX6_search 18 = .ok (.aload_n 0, 1) := by decide +kernel
theorem dX6_search_19 : decode cX6_search 19 = .ok (.aload_n 2, 1) := by decide +kernel
theorem dX6_search_20 : decode cX6_search 20 = .ok (.invokevirtual 125, 3) := by decide +kernel
theorem dX6_search_23 : decode cX6_search 23 = .ok (.ifCond .eq 11, 3) := by decide +kernel
theorem dX6_search_26 : decode cX6_search 26 = .ok (.aload_n 0, 1) := by decide +kernel
theorem dX6_search_27 : decode cX6_search 27 = .ok (.aload_n 2, 1) := by decide +kernel
theorem dX6_search_28 : decode cX6_search 28 = .ok (.invokevirtual 129, 3) := by decide +kernel
theorem dX6_search_31 : decode cX6_search 31 = .ok (.ifCond .ne 4, 3) := by decide +kernel
theorem dX6_search_34 : decode cX6_search 34 = .ok (.return_, 1) := by decide +kernel
theorem dX6_search_35 : decode cX6_search 35 = .ok (.aload_n 0, 1) := by decide +kernel
theorem dX6_search_36 : decode cX6_search 36 = .ok (.aload_n 2, 1) := by decide +kernel
theorem dX6_search_37 : decode cX6_search 37 = .ok (.invokevirtual 132, 3) := by decide +kernel
theorem dX6_search_40 : decode cX6_search 40 = .ok (.istore_n 3, 1) := by decide +kernel
theorem dX6_search_41 : decode cX6_search 41 = .ok (.iload_n 3, 1) := by decide +kernel
theorem dX6_search_42 : decode cX6_search 42 = .ok (.ifCond .lt 9, 3) := by decide +kernel
theorem dX6_search_45 : decode cX6_search 45 = .ok (.iload_n 3, 1) := by decide +kernel
theorem dX6_search_46 : decode cX6_search 46 = .ok (.bipush 22, 2) := by decide +kernel
theorem dX6_search_48 : decode cX6_search 48 = .ok (.if_icmp .lt 17, 3) := by decide +kernel
theorem dX6_search_51 : decode cX6_search 51 = .ok (.aload_n 0, 1) := by decide +kernel
theorem dX6_search_52 : decode cX6_search 52 = .ok (.getfield 24, 3) := by decide +kernel
theorem dX6_search_55 : decode cX6_search 55 = .ok (.aload_n 2, 1) := by decide +kernel
theorem dX6_search_56 : decode cX6_search 56 = .ok (.invokevirtual 136, 3) := by decide +kernel
theorem dX6_search_59 : decode cX6_search 59 = .ok (.aload_n 0, 1) := by decide +kernel
theorem dX6_search_60 : decode cX6_search 60 = .ok (.iconst 1, 1) := by decide +kernel
theorem dX6_search_61 : decode cX6_search 61 = .ok (.putfield 45, 3) := by decide +kernel
theorem dX6_search_64 : decode cX6_search 64 = .ok (.return_, 1) := by decide +kernel
theorem dX6_search_65 : decode cX6_search 65 = .ok (.aload_n 0, 1) := by decide +kernel
theorem dX6_search_66 : decode cX6_search 66 = .ok (.getfield 13, 3) := by decide +kernel
theorem dX6_search_69 : decode cX6_search 69 = .ok (.iload_n 3, 1) := by decide +kernel
theorem dX6_search_70 : decode cX6_search 70 = .ok (.aaload, 1) := by decide +kernel
theorem dX6_search_71 : decode cX6_search 71 = .ok (.aload_n 2, 1) := by decide +kernel
theorem dX6_search_72 : decode cX6_search 72 = .ok (.invokevirtual 140, 3) := by decide +kernel
theorem dX6_search_75 : decode cX6_search 75 = .ok (.istore 4, 2) := by decide +kernel
theorem dX6_search_77 : decode cX6_search 77 = .ok (.iconst 0, 1) := by decide +kernel
theorem dX6_search_78 : decode cX6_search 78 = .ok (.istore 5, 2) := by decide +kernel
theorem dX6_search_80 : decode cX6_search 80 = .ok (.iload 5, 2) := by decide +kernel
theorem dX6_search_82 : decode cX6_search 82 = .ok (.iconst 5, 1) := by decide +kernel
theorem dX6_search_83 : decode cX6_search 83 = .ok (.if_icmp .ge 69, 3) := by decide +kernel
theorem dX6_search_86 : decode cX6_search 86 = .ok (.iload_n 1, 1) := by decide +kernel
theorem dX6_search_87 : decode cX6_search 87 = .ok (.iconst 1, 1) := by decide +kernel
theorem dX6_search_88 : decode cX6_search 88 = .ok (.iadd, 1) := by decide +kernel
theorem dX6_search_89 : decode cX6_search 89 = .ok (.bipush 23, 2) := by decide +kernel
theorem dX6_search_91 : decode cX6_search 91 = .ok (.if_icmp .ge 61, 3) := by decide +kernel
theorem dX6_search_94 : decode cX6_search 94 = .ok (.iload 4, 2) := by decide +kernel
theorem dX6_search_96 : decode cX6_search 96 = .ok (.iload 5, 2) := by decide +kernel
theorem dX6_search_98 : decode cX6_search 98 = .ok (.ishr, 1) := by decide +kernel
theorem dX6_search_99 : decode cX6_search 99 = .ok (.iconst 1, 1) := by decide +kernel
theorem dX6_search_100 : decode cX6_search 100 = .ok (.iand, 1) := by decide +kernel
theorem dX6_search_101 : decode cX6_search 101 = .ok (.iconst 1, 1) := by decide +kernel
theorem dX6_search_102 : decode cX6_search 102 = .ok (.if_icmp .ne 44, 3) := by decide +kernel
theorem dX6_search_105 : decode cX6_search 105 = .ok (.aload_n 0, 1) := by decide +kernel
theorem dX6_search_106 : decode cX6_search 106 = .ok (.getfield 19, 3) := by decide +kernel
theorem dX6_search_109 : decode cX6_search 109 = .ok (.iload_n 1, 1) := by decide +kernel
theorem dX6_search_110 : decode cX6_search 110 = .ok (.iconst 1, 1) := by decide +kernel
theorem dX6_search_111 : decode cX6_search 111 = .ok (.iadd, 1) := by decide +kernel
theorem dX6_search_112 : decode cX6_search 112 = .ok (.aaload, 1) := by decide +kernel
theorem dX6_search_113 : decode cX6_search 113 = .ok (.aload_n 2, 1) := by decide +kernel
theorem dX6_search_114 : decode cX6_search 114 = .ok (.invokevirtual 136, 3) := by decide +kernel
theorem dX6_search_117 : decode cX6_search 117 = .ok (.aload_n 0, 1) := by decide +kernel
theorem dX6_search_118 : decode cX6_search 118 = .ok (.getfield 13, 3) := by decide +kernel
theorem dX6_search_121 : decode cX6_search 121 = .ok (.iload_n 3, 1) := by decide +kernel
theorem dX6_search_122 : decode cX6_search 122 = .ok (.aaload, 1) := by decide +kernel
theorem dX6_search_123 : decode cX6_search 123 = .ok (.aload_n 0, 1) := by decide +kernel
theorem dX6_search_124 : decode cX6_search 124 = .ok (.getfield 19, 3) := by decide +kernel
theorem dX6_search_127 : decode cX6_search 127 = .ok (.iload_n 1, 1) := by decide +kernel
theorem dX6_search_128 : decode cX6_search 128 = .ok (.iconst 1, 1) := by decide +kernel
theorem dX6_search_129 : decode cX6_search 129 = .ok (.iadd, 1) := by decide +kernel
theorem dX6_search_130 : decode cX6_search 130 = .ok (.aaload, 1) := by decide +kernel
theorem dX6_search_131 : decode cX6_search 131 = .ok (.iload 5, 2) := by decide +kernel
theorem dX6_search_133 : decode cX6_search 133 = .ok (.invokevirtual 143, 3) := by decide +kernel
theorem dX6_search_136 : decode cX6_search 136 = .ok (.ifCond .eq 10, 3) := by decide +kernel
theorem dX6_search_139 : decode cX6_search 139 = .ok (.aload_n 0, 1) := by decide +kernel
theorem dX6_search_140 : decode cX6_search 140 = .ok (.iload_n 1, 1) := by decide +kernel
theorem dX6_search_141 : decode cX6_search 141 = .ok (.iconst 1, 1) := by decide +kernel
theorem dX6_search_142 : decode cX6_search 142 = .ok (.iadd, 1) := by decide +kernel
theorem dX6_search_143 : decode cX6_search 143 = .ok (.invokevirtual 115, 3) := by decide +kernel
theorem dX6_search_146 : decode cX6_search 146 = .ok (.iinc 5 1, 3) := by decide +kernel
theorem dX6_search_149 : decode cX6_search 149 = .ok (.goto (-69), 3) := by decide +kernel
theorem dX6_search_152 : decode cX6_search 152 = .ok (.return_, 1) := by decide +kernel
set_option maxRecDepth 20000 in
theorem ggX6_demandsMore_X6_greatest : GoodIn wsX6_demandsMore wsX6_greatest := goodIn_r _ [9, 10, 4, 3, 11, 12, 13, 14, 15, 16, 17, 22, 23, 24, 25, 26, 27, 28, 29, 30, 31, 32] (by decide +kernel) (by decide +kernel)
set_option maxRecDepth 20000 in
theorem gX6_demandsMore_X6_greatest : GoodIn wsX6_demandsMore (wsV RX6 147 RX6 yX6_greatest wsX6_greatest) := goodIn_app (goodIn_of _ (by decide +kernel)) ggX6_demandsMore_X6_greatest
set_option maxRecDepth 20000 in
theorem ggX6_demandsMore_X1_bound : GoodIn wsX6_demandsMore wsX1_bound := goodIn_r _ [21, 16, 17, 32] (by decide +kernel) (by decide +kernel)
set_option maxRecDepth 20000 in
theorem gX6_demandsMore_X1_bound : GoodIn wsX6_demandsMore (wsV RX6 102 RX1 yX1_bound wsX1_bound) := goodIn_app (goodIn_of _ (by decide +kernel)) ggX6_demandsMore_X1_bound
theorem dX6_demandsMore_0 : decode cX6_demandsMore 0 = .ok (.aload_n 0, 1) := by decide +kernel
theorem dX6_demandsMore_1 : decode cX6_demandsMore 1 = .ok (.getfield 45, 3) := by decide +kernel
theorem dX6_demandsMore_4 : decode cX6_demandsMore 4 = .ok (.ifCond .ne 5, 3) := by decide +kernel
theorem dX6_demandsMore_7 : decode cX6_demandsMore 7 = .ok (.iconst 1, 1) := by decide +kernel
theorem dX6_demandsMore_8 : decode cX6_demandsMore 8 = .ok (.ireturn, 1) := by decide +kernel
theorem dX6_demandsMore_9 : decode cX6_demandsMore 9 = .ok (.aload_n 0, 1) := by decide +kernel
theorem dX6_demandsMore_10 : decode cX6_demandsMore 10 = .ok (.invokevirtual 147, 3) := by decide +kernel
theorem dX6_demandsMore_13 : decode cX6_demandsMore 13 = .ok (.ldc2_w 151, 3) := by decide +kernel
theorem dX6_demandsMore_16 : decode cX6_demandsMore 16 = .ok (.lcmp, 1) := by decide +kernel
theorem dX6_demandsMore_17 : decode cX6_demandsMore 17 = .ok (.ifCond .eq 29, 3) := by decide +kernel
theorem dX6_demandsMore_20 : decode cX6_demandsMore 20 = .ok (.aload_n 1, 1) := by decide +kernel
theorem dX6_demandsMore_21 : decode cX6_demandsMore 21 = .ok (.aload_n 0, 1) := by decide +kernel
theorem dX6_demandsMore_22 : decode cX6_demandsMore 22 = .ok (.getfield 112, 3) := by decide +kernel
theorem dX6_demandsMore_25 : decode cX6_demandsMore 25 = .ok (.aload_n 0, 1) := by decide +kernel
theorem dX6_demandsMore_26 : decode cX6_demandsMore 26 = .ok (.getfield 109, 3) := by decide +kernel
theorem dX6_demandsMore_29 : decode cX6_demandsMore 29 = .ok (.aload_n 0, 1) := by decide +kernel
theorem dX6_demandsMore_30 : decode cX6_demandsMore 30 = .ok (.invokevirtual 147, 3) := by decide +kernel
theorem dX6_demandsMore_33 : decode cX6_demandsMore 33 = .ok (.lneg, 1) := by decide +kernel
theorem dX6_demandsMore_34 : decode cX6_demandsMore 34 = .ok (.lconst 1, 1) := by decide +kernel
theorem dX6_demandsMore_35 : decode cX6_demandsMore 35 = .ok (.lsub, 1) := by decide +kernel
theorem dX6_demandsMore_36 : decode cX6_demandsMore 36 = .ok (.invokevirtual 102, 3) := by decide +kernel
theorem dX6_demandsMore_39 : decode cX6_demandsMore 39 = .ok (.ifCond .eq 7, 3) := by decide +kernel
theorem dX6_demandsMore_42 : decode cX6_demandsMore 42 = .ok (.iconst 1, 1) := by decide +kernel
theorem dX6_demandsMore_43 : decode cX6_demandsMore 43 = .ok (.goto 4, 3) := by decide +kernel
theorem dX6_demandsMore_46 : decode cX6_demandsMore 46 = .ok (.iconst 0, 1) := by decide +kernel
theorem dX6_demandsMore_47 : decode cX6_demandsMore 47 = .ok (.ireturn, 1) := by decide +kernel
set_option maxRecDepth 20000 in
theorem ggX6_takeForcedOptions_X0_openOptions : GoodIn wsX6_takeForcedOptions wsX0_openOptions := goodIn_r _ [7, 8, 9, 10, 11, 12, 13, 14, 15, 16, 17, 18, 19, 20, 21, 41, 42, 43, 44, 45, 46, 47, 48] (by decide +kernel) (by decide +kernel)
set_option maxRecDepth 20000 in
theorem gX6_takeForcedOptions_X0_openOptions : GoodIn wsX6_takeForcedOptions (wsV RX6 140 RX0 yX0_openOptions wsX0_openOptions) := goodIn_app (goodIn_of _ (by decide +kernel)) ggX6_takeForcedOptions_X0_openOptions
set_option maxRecDepth 20000 in
theorem ggX6_takeForcedOptions_X0_take : GoodIn wsX6_takeForcedOptions wsX0_take := goodIn_r _ [25, 8, 9, 26, 10, 11, 13, 14, 27, 28, 29, 18, 30, 20, 21, 41, 42, 43, 44, 45, 46, 47, 48] (by decide +kernel) (by decide +kernel)
set_option maxRecDepth 20000 in
theorem gX6_takeForcedOptions_X0_take : GoodIn wsX6_takeForcedOptions (wsV RX6 143 RX0 yX0_take wsX0_take) := goodIn_app (goodIn_of _ (by decide +kernel)) ggX6_takeForcedOptions_X0_take
theorem dX6_takeForcedOptions_0 : decode cX6_takeForcedOptions 0 = .ok (.iconst 1, 1) := by decide +kernel
theorem dX6_takeForcedOptions_1 : decode cX6_takeForcedOptions 1 = .ok (.istore_n 2, 1) := by decide +kernel
theorem dX6_takeForcedOptions_2 : decode cX6_takeForcedOptions 2 = .ok (.iconst 0, 1) := by decide +kernel
theorem dX6_takeForcedOptions_3 : decode cX6_takeForcedOptions 3 = .ok (.istore_n 3, 1) := by decide +kernel
theorem dX6_takeForcedOptions_4 : decode cX6_takeForcedOptions 4 = .ok (.iload_n 3, 1) := by decide +kernel
theorem dX6_takeForcedOptions_5 : decode cX6_takeForcedOptions 5 = .ok (.bipush 22, 2) := by decide +kernel
theorem dX6_takeForcedOptions_7 : decode cX6_takeForcedOptions 7 = .ok (.if_icmp .gt 102, 3) := by decide +kernel
theorem dX6_takeForcedOptions_10 : decode cX6_takeForcedOptions 10 = .ok (.iload_n 2, 1) := by decide +kernel
theorem dX6_takeForcedOptions_11 : decode cX6_takeForcedOptions 11 = .ok (.ifCond .eq 98, 3) := by decide +kernel
theorem dX6_takeForcedOptions_14 : decode cX6_takeForcedOptions 14 = .ok (.iconst 0, 1) := by decide +kernel
theorem dX6_takeForcedOptions_15 : decode cX6_takeForcedOptions 15 = .ok (.istore_n 2, 1) := by decide +kernel
theorem dX6_takeForcedOptions_16 : decode cX6_takeForcedOptions 16 = .ok (.iconst 0, 1) := by decide +kernel
theorem dX6_takeForcedOptions_17 : decode cX6_takeForcedOptions 17 = .ok (.istore 4, 2) := by decide +kernel
theorem dX6_takeForcedOptions_19 : decode cX6_takeForcedOptions 19 = .ok (.iload 4, 2) := by decide +kernel
theorem dX6_takeForcedOptions_21 : decode cX6_takeForcedOptions 21 = .ok (.aload_n 0, 1) := by decide +kernel
theorem dX6_takeForcedOptions_22 : decode cX6_takeForcedOptions 22 = .ok (.getfield 37, 3) := by decide +kernel
theorem dX6_takeForcedOptions_25 : decode cX6_takeForcedOptions 25 = .ok (.if_icmp .ge 78, 3) := by decide +kernel
theorem dX6_takeForcedOptions_28 : decode cX6_takeForcedOptions 28 = .ok (.iload 4, 2) := by decide +kernel
theorem dX6_takeForcedOptions_30 : decode cX6_takeForcedOptions 30 = .ok (.bipush 22, 2) := by decide +kernel
theorem dX6_takeForcedOptions_32 : decode cX6_takeForcedOptions 32 = .ok (.if_icmp .ge 71, 3) := by decide +kernel
theorem dX6_takeForcedOptions_35 : decode cX6_takeForcedOptions 35 = .ok (.aload_n 0, 1) := by decide +kernel
theorem dX6_takeForcedOptions_36 : decode cX6_takeForcedOptions 36 = .ok (.getfield 13, 3) := by decide +kernel
theorem dX6_takeForcedOptions_39 : decode cX6_takeForcedOptions 39 = .ok (.iload 4, 2) := by decide +kernel
theorem dX6_takeForcedOptions_41 : decode cX6_takeForcedOptions 41 = .ok (.aaload, 1) := by decide +kernel
theorem dX6_takeForcedOptions_42 : decode cX6_takeForcedOptions 42 = .ok (.aload_n 1, 1) := by decide +kernel
theorem dX6_takeForcedOptions_43 : decode cX6_takeForcedOptions 43 = .ok (.invokevirtual 140, 3) := by decide +kernel
theorem dX6_takeForcedOptions_46 : decode cX6_takeForcedOptions 46 = .ok (.istore 5, 2) := by decide +kernel
theorem dX6_takeForcedOptions_48 : decode cX6_takeForcedOptions 48 = .ok (.iload 5, 2) := by decide +kernel
theorem dX6_takeForcedOptions_50 : decode cX6_takeForcedOptions 50 = .ok (.ifCond .ne 5, 3) := by decide +kernel
theorem dX6_takeForcedOptions_53 : decode cX6_takeForcedOptions 53 = .ok (.iconst 0, 1) := by decide +kernel
theorem dX6_takeForcedOptions_54 : decode cX6_takeForcedOptions 54 = .ok (.ireturn, 1) := by decide +kernel
theorem dX6_takeForcedOptions_55 : decode cX6_takeForcedOptions 55 = .ok (.iconst 0, 1) := by decide +kernel
theorem dX6_takeForcedOptions_56 : decode cX6_takeForcedOptions 56 = .ok (.istore 6, 2) := by decide +kernel
theorem dX6_takeForcedOptions_58 : decode cX6_takeForcedOptions 58 = .ok (.iload 6, 2) := by decide +kernel
theorem dX6_takeForcedOptions_60 : decode cX6_takeForcedOptions 60 = .ok (.iconst 5, 1) := by decide +kernel
theorem dX6_takeForcedOptions_61 : decode cX6_takeForcedOptions 61 = .ok (.if_icmp .ge 36, 3) := by decide +kernel
theorem dX6_takeForcedOptions_64 : decode cX6_takeForcedOptions 64 = .ok (.iload 5, 2) := by decide +kernel
theorem dX6_takeForcedOptions_66 : decode cX6_takeForcedOptions 66 = .ok (.iconst 1, 1) := by decide +kernel
theorem dX6_takeForcedOptions_67 : decode cX6_takeForcedOptions 67 = .ok (.iload 6, 2) := by decide +kernel
theorem dX6_takeForcedOptions_69 : decode cX6_takeForcedOptions 69 = .ok (.ishl, 1) := by decide +kernel
theorem dX6_takeForcedOptions_70 : decode cX6_takeForcedOptions 70 = .ok (.if_icmp .ne 21, 3) := by decide +kernel
theorem dX6_takeForcedOptions_73 : decode cX6_takeForcedOptions 73 = .ok (.aload_n 0, 1) := by decide +kernel
theorem dX6_takeForcedOptions_74 : decode cX6_takeForcedOptions 74 = .ok (.getfield 13, 3) := by decide +kernel
theorem dX6_takeForcedOptions_77 : decode cX6_takeForcedOptions 77 = .ok (.iload 4, 2) := by decide +kernel
theorem dX6_takeForcedOptions_79 : decode cX6_takeForcedOptions 79 = .ok (.aaload, 1) := by decide +kernel
theorem dX6_takeForcedOptions_80 : decode cX6_takeForcedOptions 80 = .ok (.aload_n 1, 1) := by decide +kernel
theorem dX6_takeForcedOptions_81 : decode cX6_takeForcedOptions 81 = .ok (.iload 6, 2) := by decide +kernel
theorem dX6_takeForcedOptions_83 : decode cX6_takeForcedOptions 83 = .ok (.invokevirtual 143, 3) := by decide +kernel
theorem dX6_takeForcedOptions_86 : decode cX6_takeForcedOptions 86 = .ok (.ifCond .eq 5, 3) := by decide +kernel
theorem dX6_takeForcedOptions_89 : decode cX6_takeForcedOptions 89 = .ok (.iconst 1, 1) := by decide +kernel
theorem dX6_takeForcedOptions_90 : decode cX6_takeForcedOptions 90 = .ok (.istore_n 2, 1) := by decide +kernel
theorem dX6_takeForcedOptions_91 : decode cX6_takeForcedOptions 91 = .ok (.iinc 6 1, 3) := by decide +kernel
theorem dX6_takeForcedOptions_94 : decode cX6_takeForcedOptions 94 = .ok (.goto (-36), 3) := by decide +kernel
theorem dX6_takeForcedOptions_97 : decode cX6_takeForcedOptions 97 = .ok (.iinc 4 1, 3) := by decide +kernel
theorem dX6_takeForcedOptions_100 : decode cX6_takeForcedOptions 100 = .ok (.goto (-81), 3) := by decide +kernel
theorem dX6_takeForcedOptions_103 : decode cX6_takeForcedOptions 103 = .ok (.iinc 3 1, 3) := by decide +kernel
theorem dX6_takeForcedOptions_106 : decode cX6_takeForcedOptions 106 = .ok (.goto (-102), 3) := by decide +kernel
theorem dX6_takeForcedOptions_109 : decode cX6_takeForcedOptions 109 = .ok (.iconst 1, 1) := by decide +kernel
theorem dX6_takeForcedOptions_110 : decode cX6_takeForcedOptions 110 = .ok (.ireturn, 1) := by decide +kernel
set_option maxRecDepth 20000 in
theorem ggX6_narrowestClause_X0_openOptions : GoodIn wsX6_narrowestClause wsX0_openOptions := goodIn_r _ [7, 8, 9, 10, 11, 12, 13, 14, 15, 16, 17, 18, 19, 20, 21, 39, 40, 41, 42, 43, 44, 45, 46] (by decide +kernel) (by decide +kernel)
set_option maxRecDepth 20000 in
theorem gX6_narrowestClause_X0_openOptions : GoodIn wsX6_narrowestClause (wsV RX6 140 RX0 yX0_openOptions wsX0_openOptions) := goodIn_app (goodIn_of _ (by decide +kernel)) ggX6_narrowestClause_X0_openOptions
set_option maxRecDepth 20000 in
theorem ggX6_narrowestClause_J6_bitCount_0f7a4 : GoodIn wsX6_narrowestClause wsJ6_bitCount_0f7a4 := goodIn_r _ [25, 26, 27, 28] (by decide +kernel) (by decide +kernel)
set_option maxRecDepth 20000 in
theorem gX6_narrowestClause_J6_bitCount_0f7a4 : GoodIn wsX6_narrowestClause (va_wsS RX6 153 yJ6_bitCount_0f7a4 wsJ6_bitCount_0f7a4) := goodIn_app (goodIn_of _ (by decide +kernel)) ggX6_narrowestClause_J6_bitCount_0f7a4
theorem dX6_narrowestClause_0 : decode cX6_narrowestClause 0 = .ok (.iconst (-1), 1) := by decide +kernel
theorem dX6_narrowestClause_1 : decode cX6_narrowestClause 1 = .ok (.istore_n 2, 1) := by decide +kernel
theorem dX6_narrowestClause_2 : decode cX6_narrowestClause 2 = .ok (.bipush 6, 2) := by decide +kernel
theorem dX6_narrowestClause_4 : decode cX6_narrowestClause 4 = .ok (.istore_n 3, 1) := by decide +kernel
theorem dX6_narrowestClause_5 : decode cX6_narrowestClause 5 = .ok (.iconst 0, 1) := by decide +kernel
theorem dX6_narrowestClause_6 : decode cX6_narrowestClause 6 = .ok (.istore 4, 2) := by decide +kernel
theorem dX6_narrowestClause_8 : decode cX6_narrowestClause 8 = .ok (.iload 4, 2) := by decide +kernel
theorem dX6_narrowestClause_10 : decode cX6_narrowestClause 10 = .ok (.aload_n 0, 1) := by decide +kernel
theorem dX6_narrowestClause_11 : decode cX6_narrowestClause 11 = .ok (.getfield 37, 3) := by decide +kernel
theorem dX6_narrowestClause_14 : decode cX6_narrowestClause 14 = .ok (.if_icmp .ge 53, 3) := by decide +kernel
theorem dX6_narrowestClause_17 : decode cX6_narrowestClause 17 = .ok (.iload 4, 2) := by decide +kernel
theorem dX6_narrowestClause_19 : decode cX6_narrowestClause 19 = .ok (.bipush 22, 2) := by decide +kernel
theorem dX6_narrowestClause_21 : decode cX6_narrowestClause 21 = .ok (.if_icmp .ge 46, 3) := by decide +kernel
theorem dX6_narrowestClause_24 : decode cX6_narrowestClause 24 = .ok (.aload_n 0, 1) := by decide +kernel
theorem dX6_narrowestClause_25 : decode cX6_narrowestClause 25 = .ok (.getfield 13, 3) := by decide +kernel
theorem dX6_narrowestClause_28 : decode cX6_narrowestClause 28 = .ok (.iload 4, 2) := by decide +kernel
theorem dX6_narrowestClause_30 : decode cX6_narrowestClause 30 = .ok (.aaload, 1) := by decide +kernel
theorem dX6_narrowestClause_31 : decode cX6_narrowestClause 31 = .ok (.aload_n 1, 1) := by decide +kernel
theorem dX6_narrowestClause_32 : decode cX6_narrowestClause 32 = .ok (.invokevirtual 140, 3) := by decide +kernel
theorem dX6_narrowestClause_35 : decode cX6_narrowestClause 35 = .ok (.istore 5, 2) := by decide +kernel
theorem dX6_narrowestClause_37 : decode cX6_narrowestClause 37 = .ok (.iload 5, 2) := by decide +kernel
theorem dX6_narrowestClause_39 : decode cX6_narrowestClause 39 = .ok (.iconst (-1), 1) := by decide +kernel
theorem dX6_narrowestClause_40 : decode cX6_narrowestClause 40 = .ok (.if_icmp .eq 21, 3) := by decide +kernel
theorem dX6_narrowestClause_43 : decode cX6_narrowestClause 43 = .ok (.iload 5, 2) := by decide +kernel
theorem dX6_narrowestClause_45 : decode cX6_narrowestClause 45 = .ok (.invokestatic 153, 3) := by decide +kernel
theorem dX6_narrowestClause_48 : decode cX6_narrowestClause 48 = .ok (.iload_n 3, 1) := by decide +kernel
theorem dX6_narrowestClause_49 : decode cX6_narrowestClause 49 = .ok (.if_icmp .ge 12, 3) := by decide +kernel
theorem dX6_narrowestClause_52 : decode cX6_narrowestClause 52 = .ok (.iload 5, 2) := by decide +kernel
theorem dX6_narrowestClause_54 : decode cX6_narrowestClause 54 = .ok (.invokestatic 153, 3) := by decide +kernel
theorem dX6_narrowestClause_57 : decode cX6_narrowestClause 57 = .ok (.istore_n 3, 1) := by decide +kernel
theorem dX6_narrowestClause_58 : decode cX6_narrowestClause 58 = .ok (.iload 4, 2) := by decide +kernel
theorem dX6_narrowestClause_60 : decode cX6_narrowestClause 60 = .ok (.istore_n 2, 1) := by decide +kernel
theorem dX6_narrowestClause_61 : decode cX6_narrowestClause 61 = .ok (.iinc 4 1, 3) := by decide +kernel
theorem dX6_narrowestClause_64 : decode cX6_narrowestClause 64 = .ok (.goto (-56), 3) := by decide +kernel
theorem dX6_narrowestClause_67 : decode cX6_narrowestClause 67 = .ok (.iload_n 2, 1) := by decide +kernel
theorem dX6_narrowestClause_68 : decode cX6_narrowestClause 68 = .ok (.ireturn, 1) := by decide +kernel
theorem dX7_init_0 : decode cX7_init 0 = .ok (.aload_n 0, 1) := by decide +kernel
theorem dX7_init_1 : decode cX7_init 1 = .ok (.invokespecial 3, 3) := by decide +kernel
theorem dX7_init_4 : decode cX7_init 4 = .ok (.aload_n 0, 1) := by decide +kernel
theorem dX7_init_5 : decode cX7_init 5 = .ok (.bipush 10, 2) := by decide +kernel
theorem dX7_init_7 : decode cX7_init 7 = .ok (.newarray .int, 2) := by decide +kernel
theorem dX7_init_9 : decode cX7_init 9 = .ok (.putfield 9, 3) := by decide +kernel
theorem dX7_init_12 : decode cX7_init 12 = .ok (.aload_n 0, 1) := by decide +kernel
theorem dX7_init_13 : decode cX7_init 13 = .ok (.bipush 10, 2) := by decide +kernel
theorem dX7_init_15 : decode cX7_init 15 = .ok (.newarray .int, 2) := by decide +kernel
theorem dX7_init_17 : decode cX7_init 17 = .ok (.putfield 15, 3) := by decide +kernel
theorem dX7_init_20 : decode cX7_init 20 = .ok (.aload_n 0, 1) := by decide +kernel
theorem dX7_init_21 : decode cX7_init 21 = .ok (.bipush 10, 2) := by decide +kernel
theorem dX7_init_23 : decode cX7_init 23 = .ok (.newarray .int, 2) := by decide +kernel
theorem dX7_init_25 : decode cX7_init 25 = .ok (.putfield 18, 3) := by decide +kernel
theorem dX7_init_28 : decode cX7_init 28 = .ok (.aload_n 0, 1) := by decide +kernel
theorem dX7_init_29 : decode cX7_init 29 = .ok (.bipush 10, 2) := by decide +kernel
theorem dX7_init_31 : decode cX7_init 31 = .ok (.newarray .int, 2) := by decide +kernel
theorem dX7_init_33 : decode cX7_init 33 = .ok (.putfield 21, 3) := by decide +kernel
theorem dX7_init_36 : decode cX7_init 36 = .ok (.aload_n 0, 1) := by decide +kernel
theorem dX7_init_37 : decode cX7_init 37 = .ok (.iconst 5, 1) := by decide +kernel
theorem dX7_init_38 : decode cX7_init 38 = .ok (.putfield 24, 3) := by decide +kernel
theorem dX7_init_41 : decode cX7_init 41 = .ok (.iconst 0, 1) := by decide +kernel
theorem dX7_init_42 : decode cX7_init 42 = .ok (.istore_n 1, 1) := by decide +kernel
theorem dX7_init_43 : decode cX7_init 43 = .ok (.iload_n 1, 1) := by decide +kernel
theorem dX7_init_44 : decode cX7_init 44 = .ok (.iconst 5, 1) := by decide +kernel
theorem dX7_init_45 : decode cX7_init 45 = .ok (.if_icmp .ge 39, 3) := by decide +kernel
theorem dX7_init_48 : decode cX7_init 48 = .ok (.aload_n 0, 1) := by decide +kernel
theorem dX7_init_49 : decode cX7_init 49 = .ok (.getfield 9, 3) := by decide +kernel
theorem dX7_init_52 : decode cX7_init 52 = .ok (.iload_n 1, 1) := by decide +kernel
theorem dX7_init_53 : decode cX7_init 53 = .ok (.iconst 0, 1) := by decide +kernel
theorem dX7_init_54 : decode cX7_init 54 = .ok (.iastore, 1) := by decide +kernel
theorem dX7_init_55 : decode cX7_init 55 = .ok (.aload_n 0, 1) := by decide +kernel
theorem dX7_init_56 : decode cX7_init 56 = .ok (.getfield 15, 3) := by decide +kernel
theorem dX7_init_59 : decode cX7_init 59 = .ok (.iload_n 1, 1) := by decide +kernel
theorem dX7_init_60 : decode cX7_init 60 = .ok (.ldc 28, 2) := by decide +kernel
theorem dX7_init_62 : decode cX7_init 62 = .ok (.iastore, 1) := by decide +kernel
theorem dX7_init_63 : decode cX7_init 63 = .ok (.aload_n 0, 1) := by decide +kernel
theorem dX7_init_64 : decode cX7_init 64 = .ok (.getfield 18, 3) := by decide +kernel
theorem dX7_init_67 : decode cX7_init 67 = .ok (.iload_n 1, 1) := by decide +kernel
theorem dX7_init_68 : decode cX7_init 68 = .ok (.ldc 28, 2) := by decide +kernel
theorem dX7_init_70 : decode cX7_init 70 = .ok (.iastore, 1) := by decide +kernel
theorem dX7_init_71 : decode cX7_init 71 = .ok (.aload_n 0, 1) := by decide +kernel
theorem dX7_init_72 : decode cX7_init 72 = .ok (.getfield 21, 3) := by decide +kernel
theorem dX7_init_75 : decode cX7_init 75 = .ok (.iload_n 1, 1) := by decide +kernel
theorem dX7_init_76 : decode cX7_init 76 = .ok (.iconst 1, 1) := by decide +kernel
theorem dX7_init_77 : decode cX7_init 77 = .ok (.iastore, 1) := by decide +kernel
theorem dX7_init_78 : decode cX7_init 78 = .ok (.iinc 1 1, 3) := by decide +kernel
theorem dX7_init_81 : decode cX7_init 81 = .ok (.goto (-38), 3) := by decide +kernel
theorem dX7_init_84 : decode cX7_init 84 = .ok (.return_, 1) := by decide +kernel
theorem dX7_size_0 : decode cX7_size 0 = .ok (.aload_n 0, 1) := by decide +kernel
theorem dX7_size_1 : decode cX7_size 1 = .ok (.getfield 24, 3) := by decide +kernel
theorem dX7_size_4 : decode cX7_size 4 = .ok (.ireturn, 1) := by decide +kernel
theorem dX7_has_0 : decode cX7_has 0 = .ok (.iload_n 1, 1) := by decide +kernel
theorem dX7_has_1 : decode cX7_has 1 = .ok (.ifCond .lt 21, 3) := by decide +kernel
theorem dX7_has_4 : decode cX7_has 4 = .ok (.iload_n 1, 1) := by decide +kernel
theorem dX7_has_5 : decode cX7_has 5 = .ok (.aload_n 0, 1) := by decide +kernel
theorem dX7_has_6 : decode cX7_has 6 = .ok (.getfield 24, 3) := by decide +kernel
theorem dX7_has_9 : decode cX7_has 9 = .ok (.if_icmp .ge 13, 3) := by decide +kernel
theorem dX7_has_12 : decode cX7_has 12 = .ok (.iload_n 1, 1) := by decide +kernel
theorem dX7_has_13 : decode cX7_has 13 = .ok (.bipush 10, 2) := by decide +kernel
theorem dX7_has_15 : decode cX7_has 15 = .ok (.if_icmp .ge 7, 3) := by decide +kernel
theorem dX7_has_18 : decode cX7_has 18 = .ok (.iconst 1, 1) := by decide +kernel
theorem dX7_has_19 : decode cX7_has 19 = .ok (.goto 4, 3) := by decide +kernel
theorem dX7_has_22 : decode cX7_has 22 = .ok (.iconst 0, 1) := by decide +kernel
theorem dX7_has_23 : decode cX7_has 23 = .ok (.ireturn, 1) := by decide +kernel
set_option maxRecDepth 20000 in
theorem ggX7_kindOf_X7_has : GoodIn wsX7_kindOf wsX7_has := goodIn_r _ [6, 7, 8, 9, 10, 11, 12] (by decide +kernel) (by decide +kernel)
set_option maxRecDepth 20000 in
theorem gX7_kindOf_X7_has : GoodIn wsX7_kindOf (wsV RX7 29 RX7 yX7_has wsX7_has) := goodIn_app (goodIn_of _ (by decide +kernel)) ggX7_kindOf_X7_has
theorem dX7_kindOf_0 : decode cX7_kindOf 0 = .ok (.aload_n 0, 1) := by decide +kernel
theorem dX7_kindOf_1 : decode cX7_kindOf 1 = .ok (.iload_n 1, 1) := by decide +kernel
theorem dX7_kindOf_2 : decode cX7_kindOf 2 = .ok (.invokevirtual 29, 3) := by decide +kernel
theorem dX7_kindOf_5 : decode cX7_kindOf 5 = .ok (.ifCond .eq 12, 3) := by decide +kernel
theorem dX7_kindOf_8 : decode cX7_kindOf 8 = .ok (.aload_n 0, 1) := by decide +kernel
theorem dX7_kindOf_9 : decode cX7_kindOf 9 = .ok (.getfield 9, 3) := by decide +kernel
theorem dX7_kindOf_12 : decode cX7_kindOf 12 = .ok (.iload_n 1, 1) := by decide +kernel
theorem dX7_kindOf_13 : decode cX7_kindOf 13 = .ok (.iaload, 1) := by decide +kernel
theorem dX7_kindOf_14 : decode cX7_kindOf 14 = .ok (.goto 4, 3) := by decide +kernel
theorem dX7_kindOf_17 : decode cX7_kindOf 17 = .ok (.iconst 0, 1) := by decide +kernel
theorem dX7_kindOf_18 : decode cX7_kindOf 18 = .ok (.ireturn, 1) := by decide +kernel
set_option maxRecDepth 20000 in
theorem ggX7_firstOf_X7_has : GoodIn wsX7_firstOf wsX7_has := goodIn_r _ [7, 8, 9, 10, 11, 12, 13] (by decide +kernel) (by decide +kernel)
set_option maxRecDepth 20000 in
theorem gX7_firstOf_X7_has : GoodIn wsX7_firstOf (wsV RX7 29 RX7 yX7_has wsX7_has) := goodIn_app (goodIn_of _ (by decide +kernel)) ggX7_firstOf_X7_has
theorem dX7_firstOf_0 : decode cX7_firstOf 0 = .ok (.aload_n 0, 1) := by decide +kernel
theorem dX7_firstOf_1 : decode cX7_firstOf 1 = .ok (.iload_n 1, 1) := by decide +kernel
theorem dX7_firstOf_2 : decode cX7_firstOf 2 = .ok (.invokevirtual 29, 3) := by decide +kernel
theorem dX7_firstOf_5 : decode cX7_firstOf 5 = .ok (.ifCond .eq 12, 3) := by decide +kernel
theorem dX7_firstOf_8 : decode cX7_firstOf 8 = .ok (.aload_n 0, 1) := by decide +kernel
theorem dX7_firstOf_9 : decode cX7_firstOf 9 = .ok (.getfield 15, 3) := by decide +kernel
theorem dX7_firstOf_12 : decode cX7_firstOf 12 = .ok (.iload_n 1, 1) := by decide +kernel
theorem dX7_firstOf_13 : decode cX7_firstOf 13 = .ok (.iaload, 1) := by decide +kernel
theorem dX7_firstOf_14 : decode cX7_firstOf 14 = .ok (.goto 5, 3) := by decide +kernel
theorem dX7_firstOf_17 : decode cX7_firstOf 17 = .ok (.ldc 28, 2) := by decide +kernel
theorem dX7_firstOf_19 : decode cX7_firstOf 19 = .ok (.ireturn, 1) := by decide +kernel
set_option maxRecDepth 20000 in
theorem ggX7_secondOf_X7_has : GoodIn wsX7_secondOf wsX7_has := goodIn_r _ [7, 8, 9, 10, 11, 12, 13] (by decide +kernel) (by decide +kernel)
set_option maxRecDepth 20000 in
theorem gX7_secondOf_X7_has : GoodIn wsX7_secondOf (wsV RX7 29 RX7 yX7_has wsX7_has) := goodIn_app (goodIn_of _ (by decide +kernel)) ggX7_secondOf_X7_has
theorem dX7_secondOf_0 : decode cX7_secondOf 0 = .ok (.aload_n 0, 1) := by decide +kernel
theorem dX7_secondOf_1 : decode cX7_secondOf 1 = .ok (.iload_n 1, 1) := by decide +kernel
theorem dX7_secondOf_2 : decode cX7_secondOf 2 = .ok (.invokevirtual 29, 3) := by decide +kernel
theorem dX7_secondOf_5 : decode cX7_secondOf 5 = .ok (.ifCond .eq 12, 3) := by decide +kernel
theorem dX7_secondOf_8 : decode cX7_secondOf 8 = .ok (.aload_n 0, 1) := by decide +kernel
theorem dX7_secondOf_9 : decode cX7_secondOf 9 = .ok (.getfield 18, 3) := by decide +kernel
theorem dX7_secondOf_12 : decode cX7_secondOf 12 = .ok (.iload_n 1, 1) := by decide +kernel
theorem dX7_secondOf_13 : decode cX7_secondOf 13 = .ok (.iaload, 1) := by decide +kernel
theorem dX7_secondOf_14 : decode cX7_secondOf 14 = .ok (.goto 5, 3) := by decide +kernel
theorem dX7_secondOf_17 : decode cX7_secondOf 17 = .ok (.ldc 28, 2) := by decide +kernel
theorem dX7_secondOf_19 : decode cX7_secondOf 19 = .ok (.ireturn, 1) := by decide +kernel
set_option maxRecDepth 20000 in
theorem ggX7_lengthOf_X7_has : GoodIn wsX7_lengthOf wsX7_has := goodIn_r _ [6, 7, 8, 9, 10, 11, 12] (by decide +kernel) (by decide +kernel)
set_option maxRecDepth 20000 in
theorem gX7_lengthOf_X7_has : GoodIn wsX7_lengthOf (wsV RX7 29 RX7 yX7_has wsX7_has) := goodIn_app (goodIn_of _ (by decide +kernel)) ggX7_lengthOf_X7_has
theorem dX7_lengthOf_0 : decode cX7_lengthOf 0 = .ok (.aload_n 0, 1) := by decide +kernel
theorem dX7_lengthOf_1 : decode cX7_lengthOf 1 = .ok (.iload_n 1, 1) := by decide +kernel
theorem dX7_lengthOf_2 : decode cX7_lengthOf 2 = .ok (.invokevirtual 29, 3) := by decide +kernel
theorem dX7_lengthOf_5 : decode cX7_lengthOf 5 = .ok (.ifCond .eq 12, 3) := by decide +kernel
theorem dX7_lengthOf_8 : decode cX7_lengthOf 8 = .ok (.aload_n 0, 1) := by decide +kernel
theorem dX7_lengthOf_9 : decode cX7_lengthOf 9 = .ok (.getfield 21, 3) := by decide +kernel
theorem dX7_lengthOf_12 : decode cX7_lengthOf 12 = .ok (.iload_n 1, 1) := by decide +kernel
theorem dX7_lengthOf_13 : decode cX7_lengthOf 13 = .ok (.iaload, 1) := by decide +kernel
theorem dX7_lengthOf_14 : decode cX7_lengthOf 14 = .ok (.goto 4, 3) := by decide +kernel
theorem dX7_lengthOf_17 : decode cX7_lengthOf 17 = .ok (.iconst 0, 1) := by decide +kernel
theorem dX7_lengthOf_18 : decode cX7_lengthOf 18 = .ok (.ireturn, 1) := by decide +kernel
set_option maxRecDepth 20000 in
theorem ggX7_haveSameFunction_X7_has : GoodIn wsX7_haveSameFunction wsX7_has := goodIn_r _ [6, 7, 8, 9, 10, 11, 12] (by decide +kernel) (by decide +kernel)
set_option maxRecDepth 20000 in
theorem gX7_haveSameFunction_X7_has : GoodIn wsX7_haveSameFunction (wsV RX7 29 RX7 yX7_has wsX7_has) := goodIn_app (goodIn_of _ (by decide +kernel)) ggX7_haveSameFunction_X7_has
theorem dX7_haveSameFunction_0 : decode cX7_haveSameFunction 0 = .ok (.aload_n 0, 1) := by decide +kernel
theorem dX7_haveSameFunction_1 : decode cX7_haveSameFunction 1 = .ok (.iload_n 1, 1) := by decide +kernel
theorem dX7_haveSameFunction_2 : decode cX7_haveSameFunction 2 = .ok (.invokevirtual 29, 3) := by decide +kernel
theorem dX7_haveSameFunction_5 : decode cX7_haveSameFunction 5 = .ok (.ifCond .eq 39, 3) := by decide +kernel
theorem dX7_haveSameFunction_8 : decode cX7_haveSameFunction 8 = .ok (.aload_n 0, 1) := by decide +kernel
theorem dX7_haveSameFunction_9 : decode cX7_haveSameFunction 9 = .ok (.iload_n 2, 1) := by decide +kernel
theorem dX7_haveSameFunction_10 : decode cX7_haveSameFunction 10 = .ok (.invokevirtual 29, 3) := by decide +kernel
theorem dX7_haveSameFunction_13 : decode cX7_haveSameFunction 13 = .ok (.ifCond .eq 31, 3) := by decide +kernel
theorem dX7_haveSameFunction_16 : decode cX7_haveSameFunction 16 = .ok (.aload_n 0, 1) := by decide +kernel
theorem dX7_haveSameFunction_17 : decode cX7_haveSameFunction 17 = .ok (.getfield 9, 3) := by decide +kernel
theorem dX7_haveSameFunction_20 : decode cX7_haveSameFunction 20 = .ok (.iload_n 1, 1) := by decide +kernel
theorem dX7_haveSameFunction_21 : decode cX7_haveSameFunction 21 = .ok (.iaload, 1) := by decide +kernel
theorem dX7_haveSameFunction_22 : decode cX7_haveSameFunction 22 = .ok (.ifCond .eq 22, 3) := by decide +kernel
theorem dX7_haveSameFunction_25 : decode cX7_haveSameFunction 25 = .ok (.aload_n 0, 1) := by decide +kernel
theorem dX7_haveSameFunction_26 : decode cX7_haveSameFunction 26 = .ok (.getfield 9, 3) := by decide +kernel
theorem dX7_haveSameFunction_29 : decode cX7_haveSameFunction 29 = .ok (.iload_n 1, 1) := by decide +kernel
theorem dX7_haveSameFunction_30 : decode cX7_haveSameFunction 30 = .ok (.iaload, 1) := by decide +kernel
theorem dX7_haveSameFunction_31 : decode cX7_haveSameFunction 31 = .ok (.aload_n 0, 1) := by decide +kernel
theorem dX7_haveSameFunction_32 : decode cX7_haveSameFunction 32 = .ok (.getfield 9, 3) := by decide +kernel
theorem dX7_haveSameFunction_35 : decode cX7_haveSameFunction 35 = .ok (.iload_n 2, 1) := by decide +kernel
theorem dX7_haveSameFunction_36 : decode cX7_haveSameFunction 36 = .ok (.iaload, 1) := by decide +kernel
theorem dX7_haveSameFunction_37 : decode cX7_haveSameFunction 37 = .ok (.if_icmp .ne 7, 3) := by decide +kernel
theorem dX7_haveSameFunction_40 : decode cX7_haveSameFunction 40 = .ok (.iconst 1, 1) := by decide +kernel
theorem dX7_haveSameFunction_41 : decode cX7_haveSameFunction 41 = .ok (.goto 4, 3) := by decide +kernel
theorem dX7_haveSameFunction_44 : decode cX7_haveSameFunction 44 = .ok (.iconst 0, 1) := by decide +kernel
theorem dX7_haveSameFunction_45 : decode cX7_haveSameFunction 45 = .ok (.ireturn, 1) := by decide +kernel
set_option maxRecDepth 20000 in
theorem ggX7_numberFor_X7_lengthOf : GoodIn wsX7_numberFor wsX7_lengthOf := goodIn_r _ [11, 6, 12, 13, 14, 10, 15, 1, 16, 17, 18, 19, 20] (by decide +kernel) (by decide +kernel)
set_option maxRecDepth 20000 in
theorem gX7_numberFor_X7_lengthOf : GoodIn wsX7_numberFor (wsV RX7 33 RX7 yX7_lengthOf wsX7_lengthOf) := goodIn_app (goodIn_of _ (by decide +kernel)) ggX7_numberFor_X7_lengthOf
theorem dX7_numberFor_0 : decode cX7_numberFor 0 = .ok (.iconst 5, 1) := by decide +kernel
theorem dX7_numberFor_1 : decode cX7_numberFor 1 = .ok (.istore 4, 2) := by decide +kernel
theorem dX7_numberFor_3 : decode cX7_numberFor 3 = .ok (.iload 4, 2) := by decide +kernel
theorem dX7_numberFor_5 : decode cX7_numberFor 5 = .ok (.aload_n 0, 1) := by decide +kernel
theorem dX7_numberFor_6 : decode cX7_numberFor 6 = .ok (.getfield 24, 3) := by decide +kernel
theorem dX7_numberFor_9 : decode cX7_numberFor 9 = .ok (.if_icmp .ge 52, 3) := by decide +kernel
theorem dX7_numberFor_12 : decode cX7_numberFor 12 = .ok (.iload 4, 2) := by decide +kernel
theorem dX7_numberFor_14 : decode cX7_numberFor 14 = .ok (.bipush 10, 2) := by decide +kernel
theorem dX7_numberFor_16 : decode cX7_numberFor 16 = .ok (.if_icmp .ge 45, 3) := by decide +kernel
theorem dX7_numberFor_19 : decode cX7_numberFor 19 = .ok (.aload_n 0, 1) := by decide +kernel
theorem dX7_numberFor_20 : decode cX7_numberFor 20 = .ok (.getfield 9, 3) := by decide +kernel
theorem dX7_numberFor_23 : decode cX7_numberFor 23 = .ok (.iload 4, 2) := by decide +kernel
theorem dX7_numberFor_25 : decode cX7_numberFor 25 = .ok (.iaload, 1) := by decide +kernel
theorem dX7_numberFor_26 : decode cX7_numberFor 26 = .ok (.iload_n 1, 1) := by decide +kernel
theorem dX7_numberFor_27 : decode cX7_numberFor 27 = .ok (.if_icmp .ne 28, 3) := by decide +kernel
theorem dX7_numberFor_30 : decode cX7_numberFor 30 = .ok (.aload_n 0, 1) := by decide +kernel
theorem dX7_numberFor_31 : decode cX7_numberFor 31 = .ok (.getfield 15, 3) := by decide +kernel
theorem dX7_numberFor_34 : decode cX7_numberFor 34 = .ok (.iload 4, 2) := by decide +kernel
theorem dX7_numberFor_36 : decode cX7_numberFor 36 = .ok (.iaload, 1) := by decide +kernel
theorem dX7_numberFor_37 : decode cX7_numberFor 37 = .ok (.iload_n 2, 1) := by decide +kernel
theorem dX7_numberFor_38 : decode cX7_numberFor 38 = .ok (.if_icmp .ne 17, 3) := by decide +kernel
theorem dX7_numberFor_41 : decode cX7_numberFor 41 = .ok (.aload_n 0, 1) := by decide +kernel
theorem dX7_numberFor_42 : decode cX7_numberFor 42 = .ok (.getfield 18, 3) := by decide +kernel
theorem dX7_numberFor_45 : decode cX7_numberFor 45 = .ok (.iload 4, 2) := by decide +kernel
theorem dX7_numberFor_47 : decode cX7_numberFor 47 = .ok (.iaload, 1) := by decide +kernel
theorem dX7_numberFor_48 : decode cX7_numberFor 48 = .ok (.iload_n 3, 1) := by decide +kernel
theorem dX7_numberFor_49 : decode cX7_numberFor 49 = .ok (.if_icmp .ne 6, 3) := by decide +kernel
theorem dX7_numberFor_52 : decode cX7_numberFor 52 = .ok (.iload 4, 2) := by decide +kernel
theorem dX7_numberFor_54 : decode cX7_numberFor 54 = .ok (.ireturn, 1) := by decide +kernel
theorem dX7_numberFor_55 : decode cX7_numberFor 55 = .ok (.iinc 4 1, 3) := by decide +kernel
theorem dX7_numberFor_58 : decode cX7_numberFor 58 = .ok (.goto (-55), 3) := by decide +kernel
theorem dX7_numberFor_61 : decode cX7_numberFor 61 = .ok (.aload_n 0, 1) := by decide +kernel
theorem dX7_numberFor_62 : decode cX7_numberFor 62 = .ok (.getfield 24, 3) := by decide +kernel
theorem dX7_numberFor_65 : decode cX7_numberFor 65 = .ok (.iconst 5, 1) := by decide +kernel
theorem dX7_numberFor_66 : decode cX7_numberFor 66 = .ok (.if_icmp .lt 12, 3) := by decide +kernel
theorem dX7_numberFor_69 : decode cX7_numberFor 69 = .ok (.aload_n 0, 1) := by decide +kernel
theorem dX7_numberFor_70 : decode cX7_numberFor 70 = .ok (.getfield 24, 3) := by decide +kernel
theorem dX7_numberFor_73 : decode cX7_numberFor 73 = .ok (.bipush 10, 2) := by decide +kernel
theorem dX7_numberFor_75 : decode cX7_numberFor 75 = .ok (.if_icmp .lt 6, 3) := by decide +kernel
theorem dX7_numberFor_78 : decode cX7_numberFor 78 = .ok (.ldc 28, 2) := by decide +kernel
theorem dX7_numberFor_80 : decode cX7_numberFor 80 = .ok (.ireturn, 1) := by decide +kernel
theorem dX7_numberFor_81 : decode cX7_numberFor 81 = .ok (.aload_n 0, 1) := by decide +kernel
theorem dX7_numberFor_82 : decode cX7_numberFor 82 = .ok (.getfield 9, 3) := by decide +kernel
theorem dX7_numberFor_85 : decode cX7_numberFor 85 = .ok (.aload_n 0, 1) := by decide +kernel
theorem dX7_numberFor_86 : decode cX7_numberFor 86 = .ok (.getfield 24, 3) := by decide +kernel
theorem dX7_numberFor_89 : decode cX7_numberFor 89 = .ok (.iload_n 1, 1) := by decide +kernel
theorem dX7_numberFor_90 : decode cX7_numberFor 90 = .ok (.iastore, 1) := by decide +kernel
theorem dX7_numberFor_91 : decode cX7_numberFor 91 = .ok (.aload_n 0, 1) := by decide +kernel
theorem dX7_numberFor_92 : decode cX7_numberFor 92 = .ok (.getfield 15, 3) := by decide +kernel
theorem dX7_numberFor_95 : decode cX7_numberFor 95 = .ok (.aload_n 0, 1) := by decide +kernel
theorem dX7_numberFor_96 : decode cX7_numberFor 96 = .ok (.getfield 24, 3) := by decide +kernel
theorem dX7_numberFor_99 : decode cX7_numberFor 99 = .ok (.iload_n 2, 1) := by decide +kernel
theorem dX7_numberFor_100 : decode cX7_numberFor 100 = .ok (.iastore, 1) := by decide +kernel
theorem dX7_numberFor_101 : decode cX7_numberFor 101 = .ok (.aload_n 0, 1) := by decide +kernel
theorem dX7_numberFor_102 : decode cX7_numberFor 102 = .ok (.getfield 18, 3) := by decide +kernel
theorem dX7_numberFor_105 : decode cX7_numberFor 105 = .ok (.aload_n 0, 1) := by decide +kernel
theorem dX7_numberFor_106 : decode cX7_numberFor 106 = .ok (.getfield 24, 3) := by decide +kernel
theorem dX7_numberFor_109 : decode cX7_numberFor 109 = .ok (.iload_n 3, 1) := by decide +kernel
theorem dX7_numberFor_110 : decode cX7_numberFor 110 = .ok (.iastore, 1) := by decide +kernel
theorem dX7_numberFor_111 : decode cX7_numberFor 111 = .ok (.aload_n 0, 1) := by decide +kernel
theorem dX7_numberFor_112 : decode cX7_numberFor 112 = .ok (.getfield 21, 3) := by decide +kernel
theorem dX7_numberFor_115 : decode cX7_numberFor 115 = .ok (.aload_n 0, 1) := by decide +kernel
theorem dX7_numberFor_116 : decode cX7_numberFor 116 = .ok (.getfield 24, 3) := by decide +kernel
theorem dX7_numberFor_119 : decode cX7_numberFor 119 = .ok (.iload_n 1, 1) := by decide +kernel
theorem dX7_numberFor_120 : decode cX7_numberFor 120 = .ok (.iconst 1, 1) := by decide +kernel
theorem dX7_numberFor_121 : decode cX7_numberFor 121 = .ok (.if_icmp .ne 13, 3) := by decide +kernel
theorem dX7_numberFor_124 : decode cX7_numberFor 124 = .ok (.aload_n 0, 1) := by decide +kernel
theorem dX7_numberFor_125 : decode cX7_numberFor 125 = .ok (.iload_n 2, 1) := by decide +kernel
theorem dX7_numberFor_126 : decode cX7_numberFor 126 = .ok (.invokevirtual 33, 3) := by decide +kernel
theorem dX7_numberFor_129 : decode cX7_numberFor 129 = .ok (.iconst 3, 1) := by decide +kernel
theorem dX7_numberFor_130 : decode cX7_numberFor 130 = .ok (.iadd, 1) := by decide +kernel
theorem dX7_numberFor_131 : decode cX7_numberFor 131 = .ok (.goto 16, 3) := by decide +kernel
theorem dX7_numberFor_134 : decode cX7_numberFor 134 = .ok (.aload_n 0, 1) := by decide +kernel
theorem dX7_numberFor_135 : decode cX7_numberFor 135 = .ok (.iload_n 2, 1) := by decide +kernel
theorem dX7_numberFor_136 : decode cX7_numberFor 136 = .ok (.invokevirtual 33, 3) := by decide +kernel
theorem dX7_numberFor_139 : decode cX7_numberFor 139 = .ok (.aload_n 0, 1) := by decide +kernel
theorem dX7_numberFor_140 : decode cX7_numberFor 140 = .ok (.iload_n 3, 1) := by decide +kernel
theorem dX7_numberFor_141 : decode cX7_numberFor 141 = .ok (.invokevirtual 33, 3) := by decide +kernel
theorem dX7_numberFor_144 : decode cX7_numberFor 144 = .ok (.iadd, 1) := by decide +kernel
theorem dX7_numberFor_145 : decode cX7_numberFor 145 = .ok (.iconst 4, 1) := by decide +kernel
theorem dX7_numberFor_146 : decode cX7_numberFor 146 = .ok (.iadd, 1) := by decide +kernel
theorem dX7_numberFor_147 : decode cX7_numberFor 147 = .ok (.iastore, 1) := by decide +kernel
theorem dX7_numberFor_148 : decode cX7_numberFor 148 = .ok (.aload_n 0, 1) := by decide +kernel
theorem dX7_numberFor_149 : decode cX7_numberFor 149 = .ok (.dup, 1) := by decide +kernel
theorem dX7_numberFor_150 : decode cX7_numberFor 150 = .ok (.getfield 24, 3) := by decide +kernel
theorem dX7_numberFor_153 : decode cX7_numberFor 153 = .ok (.iconst 1, 1) := by decide +kernel
theorem dX7_numberFor_154 : decode cX7_numberFor 154 = .ok (.iadd, 1) := by decide +kernel
theorem dX7_numberFor_155 : decode cX7_numberFor 155 = .ok (.putfield 24, 3) := by decide +kernel
theorem dX7_numberFor_158 : decode cX7_numberFor 158 = .ok (.aload_n 0, 1) := by decide +kernel
theorem dX7_numberFor_159 : decode cX7_numberFor 159 = .ok (.getfield 24, 3) := by decide +kernel
theorem dX7_numberFor_162 : decode cX7_numberFor 162 = .ok (.iconst 1, 1) := by decide +kernel
theorem dX7_numberFor_163 : decode cX7_numberFor 163 = .ok (.isub, 1) := by decide +kernel
theorem dX7_numberFor_164 : decode cX7_numberFor 164 = .ok (.ireturn, 1) := by decide +kernel
theorem dX7_shrinkTo_0 : decode cX7_shrinkTo 0 = .ok (.iload_n 1, 1) := by decide +kernel
theorem dX7_shrinkTo_1 : decode cX7_shrinkTo 1 = .ok (.iconst 5, 1) := by decide +kernel
theorem dX7_shrinkTo_2 : decode cX7_shrinkTo 2 = .ok (.if_icmp .lt 16, 3) := by decide +kernel
theorem dX7_shrinkTo_5 : decode cX7_shrinkTo 5 = .ok (.iload_n 1, 1) := by decide +kernel
theorem dX7_shrinkTo_6 : decode cX7_shrinkTo 6 = .ok (.aload_n 0, 1) := by decide +kernel
theorem dX7_shrinkTo_7 : decode cX7_shrinkTo 7 = .ok (.getfield 24, 3) := by decide +kernel
theorem dX7_shrinkTo_10 : decode cX7_shrinkTo 10 = .ok (.if_icmp .ge 8, 3) := by decide +kernel
theorem dX7_shrinkTo_13 : decode cX7_shrinkTo 13 = .ok (.aload_n 0, 1) := by decide +kernel
theorem dX7_shrinkTo_14 : decode cX7_shrinkTo 14 = .ok (.iload_n 1, 1) := by decide +kernel
theorem dX7_shrinkTo_15 : decode cX7_shrinkTo 15 = .ok (.putfield 24, 3) := by decide +kernel
theorem dX7_shrinkTo_18 : decode cX7_shrinkTo 18 = .ok (.return_, 1) := by decide +kernel
theorem dX7_copyFrom_0 : decode cX7_copyFrom 0 = .ok (.iconst 0, 1) := by decide +kernel
theorem dX7_copyFrom_1 : decode cX7_copyFrom 1 = .ok (.istore_n 2, 1) := by decide +kernel
theorem dX7_copyFrom_2 : decode cX7_copyFrom 2 = .ok (.iload_n 2, 1) := by decide +kernel
theorem dX7_copyFrom_3 : decode cX7_copyFrom 3 = .ok (.bipush 10, 2) := by decide +kernel
theorem dX7_copyFrom_5 : decode cX7_copyFrom 5 = .ok (.if_icmp .ge 57, 3) := by decide +kernel
theorem dX7_copyFrom_8 : decode cX7_copyFrom 8 = .ok (.aload_n 0, 1) := by decide +kernel
theorem dX7_copyFrom_9 : decode cX7_copyFrom 9 = .ok (.getfield 9, 3) := by decide +kernel
theorem dX7_copyFrom_12 : decode cX7_copyFrom 12 = .ok (.iload_n 2, 1) := by decide +kernel
theorem dX7_copyFrom_13 : decode cX7_copyFrom 13 = .ok (.aload_n 1, 1) := by decide +kernel
theorem dX7_copyFrom_14 : decode cX7_copyFrom 14 = .ok (.getfield 9, 3) := by decide +kernel
theorem dX7_copyFrom_17 : decode cX7_copyFrom 17 = .ok (.iload_n 2, 1) := by decide +kernel
theorem dX7_copyFrom_18 : decode cX7_copyFrom 18 = .ok (.iaload, 1) := by decide +kernel
theorem dX7_copyFrom_19 : decode cX7_copyFrom 19 = .ok (.iastore, 1) := by decide +kernel
theorem dX7_copyFrom_20 : decode cX7_copyFrom 20 = .ok (.aload_n 0, 1) := by decide +kernel
theorem dX7_copyFrom_21 : decode cX7_copyFrom 21 = .ok (.getfield 15, 3) := by decide +kernel
theorem dX7_copyFrom_24 : decode cX7_copyFrom 24 = .ok (.iload_n 2, 1) := by decide +kernel
theorem dX7_copyFrom_25 : decode cX7_copyFrom 25 = .ok (.aload_n 1, 1) := by decide +kernel
theorem dX7_copyFrom_26 : decode cX7_copyFrom 26 = .ok (.getfield 15, 3) := by decide +kernel
theorem dX7_copyFrom_29 : decode cX7_copyFrom 29 = .ok (.iload_n 2, 1) := by decide +kernel
theorem dX7_copyFrom_30 : decode cX7_copyFrom 30 = .ok (.iaload, 1) := by decide +kernel
theorem dX7_copyFrom_31 : decode cX7_copyFrom 31 = .ok (.iastore, 1) := by decide +kernel
theorem dX7_copyFrom_32 : decode cX7_copyFrom 32 = .ok (.aload_n 0, 1) := by decide +kernel
theorem dX7_copyFrom_33 : decode cX7_copyFrom 33 = .ok (.getfield 18, 3) := by decide +kernel
theorem dX7_copyFrom_36 : decode cX7_copyFrom 36 = .ok (.iload_n 2, 1) := by decide +kernel
theorem dX7_copyFrom_37 : decode cX7_copyFrom 37 = .ok (.aload_n 1, 1) := by decide +kernel
theorem dX7_copyFrom_38 : decode cX7_copyFrom 38 = .ok (.getfield 18, 3) := by decide +kernel
theorem dX7_copyFrom_41 : decode cX7_copyFrom 41 = .ok (.iload_n 2, 1) := by decide +kernel
theorem dX7_copyFrom_42 : decode cX7_copyFrom 42 = .ok (.iaload, 1) := by decide +kernel
theorem dX7_copyFrom_43 : decode cX7_copyFrom 43 = .ok (.iastore, 1) := by decide +kernel
theorem dX7_copyFrom_44 : decode cX7_copyFrom 44 = .ok (.aload_n 0, 1) := by decide +kernel
theorem dX7_copyFrom_45 : decode cX7_copyFrom 45 = .ok (.getfield 21, 3) := by decide +kernel
theorem dX7_copyFrom_48 : decode cX7_copyFrom 48 = .ok (.iload_n 2, 1) := by decide +kernel
theorem dX7_copyFrom_49 : decode cX7_copyFrom 49 = .ok (.aload_n 1, 1) := by decide +kernel
theorem dX7_copyFrom_50 : decode cX7_copyFrom 50 = .ok (.getfield 21, 3) := by decide +kernel
theorem dX7_copyFrom_53 : decode cX7_copyFrom 53 = .ok (.iload_n 2, 1) := by decide +kernel
theorem dX7_copyFrom_54 : decode cX7_copyFrom 54 = .ok (.iaload, 1) := by decide +kernel
theorem dX7_copyFrom_55 : decode cX7_copyFrom 55 = .ok (.iastore, 1) := by decide +kernel
theorem dX7_copyFrom_56 : decode cX7_copyFrom 56 = .ok (.iinc 2 1, 3) := by decide +kernel
theorem dX7_copyFrom_59 : decode cX7_copyFrom 59 = .ok (.goto (-57), 3) := by decide +kernel
theorem dX7_copyFrom_62 : decode cX7_copyFrom 62 = .ok (.aload_n 0, 1) := by decide +kernel
theorem dX7_copyFrom_63 : decode cX7_copyFrom 63 = .ok (.aload_n 1, 1) := by decide +kernel
theorem dX7_copyFrom_64 : decode cX7_copyFrom 64 = .ok (.getfield 24, 3) := by decide +kernel
theorem dX7_copyFrom_67 : decode cX7_copyFrom 67 = .ok (.putfield 24, 3) := by decide +kernel
theorem dX7_copyFrom_70 : decode cX7_copyFrom 70 = .ok (.return_, 1) := by decide +kernel
set_option maxRecDepth 20000 in
theorem ggX8_init_X5_init : GoodIn wsX8_init wsX5_init := goodIn_r _ [32, 33, 2, 3, 4, 34, 35, 36, 111, 112, 113, 114, 115, 116, 117, 118, 119, 120] (by decide +kernel) (by decide +kernel)
set_option maxRecDepth 20000 in
theorem gX8_init_X5_init_n15 : GoodIn wsX8_init (wsX5_init) := ggX8_init_X5_init
set_option maxRecDepth 20000 in
theorem ggX8_init_X7_init : GoodIn wsX8_init wsX7_init := goodIn_r _ [39, 40, 2, 3, 4, 41, 42, 43, 44, 45, 46, 121, 122, 123, 124, 125] (by decide +kernel) (by decide +kernel)
set_option maxRecDepth 20000 in
theorem gX8_init_X7_init : GoodIn wsX8_init (wsX7_init) := ggX8_init_X7_init
set_option maxRecDepth 20000 in
theorem ggX8_init_X3_init : GoodIn wsX8_init wsX3_init := goodIn_r _ [48, 49, 2, 3, 4, 50, 51, 52, 53, 126, 127, 128, 129, 130] (by decide +kernel) (by decide +kernel)
set_option maxRecDepth 20000 in
theorem gX8_init_X3_init_n32 : GoodIn wsX8_init (wsX3_init) := ggX8_init_X3_init
set_option maxRecDepth 20000 in
theorem ggX8_init_X2_init : GoodIn wsX8_init wsX2_init := goodIn_r _ [56, 57, 2, 3, 58, 59, 60, 61, 4, 62, 63, 64, 65, 66, 67, 68, 69, 151, 131, 132, 133, 134, 135, 136] (by decide +kernel) (by decide +kernel)
set_option maxRecDepth 20000 in
theorem gX8_init_X2_init : GoodIn wsX8_init (wsX2_init) := ggX8_init_X2_init
set_option maxRecDepth 20000 in
theorem ggX8_init_X6_init : GoodIn wsX8_init wsX6_init := goodIn_r _ [72, 73, 2, 3, 74, 75, 76, 77, 59, 60, 78, 79, 80, 81, 82, 65, 66, 67, 68, 69, 83, 84, 85, 137, 138, 139, 140, 141, 142, 143, 144, 145, 146, 151, 152, 153, 154, 155, 156, 157, 158] (by decide +kernel) (by decide +kernel)
set_option maxRecDepth 20000 in
theorem gX8_init_X6_init : GoodIn wsX8_init (wsX6_init) := ggX8_init_X6_init
set_option maxRecDepth 20000 in
theorem ggX8_init_X4_init : GoodIn wsX8_init wsX4_init := goodIn_r _ [88, 89, 2, 3, 4, 90, 91, 92, 93, 94, 147, 148, 149, 150] (by decide +kernel) (by decide +kernel)
set_option maxRecDepth 20000 in
theorem gX8_init_X4_init : GoodIn wsX8_init (wsX4_init) := ggX8_init_X4_init
theorem dX8_init_0 : decode cX8_init 0 = .ok (.aload_n 0, 1) := by decide +kernel
theorem dX8_init_1 : decode cX8_init 1 = .ok (.invokespecial 1, 3) := by decide +kernel
theorem dX8_init_4 : decode cX8_init 4 = .ok (.aload_n 0, 1) := by decide +kernel
theorem dX8_init_5 : decode cX8_init 5 = .ok (.bipush 40, 2) := by decide +kernel
theorem dX8_init_7 : decode cX8_init 7 = .ok (.newarray .int, 2) := by decide +kernel
theorem dX8_init_9 : decode cX8_init 9 = .ok (.putfield 9, 3) := by decide +kernel
theorem dX8_init_12 : decode cX8_init 12 = .ok (.aload_n 0, 1) := by decide +kernel
theorem dX8_init_13 : decode cX8_init 13 = .ok (.new 13, 3) := by decide +kernel
theorem dX8_init_16 : decode cX8_init 16 = .ok (.dup, 1) := by decide +kernel
theorem dX8_init_17 : decode cX8_init 17 = .ok (.invokespecial 15, 3) := by decide +kernel
theorem dX8_init_20 : decode cX8_init 20 = .ok (.putfield 16, 3) := by decide +kernel
theorem dX8_init_23 : decode cX8_init 23 = .ok (.aload_n 0, 1) := by decide +kernel
theorem dX8_init_24 : decode cX8_init 24 = .ok (.new 20, 3) := by decide +kernel
theorem dX8_init_27 : decode cX8_init 27 = .ok (.dup, 1) := by decide +kernel
theorem dX8_init_28 : decode cX8_init 28 = .ok (.invokespecial 22, 3) := by decide +kernel
theorem dX8_init_31 : decode cX8_init 31 = .ok (.putfield 23, 3) := by decide +kernel
theorem dX8_init_34 : decode cX8_init 34 = .ok (.aload_n 0, 1) := by decide +kernel
theorem dX8_init_35 : decode cX8_init 35 = .ok (.new 20, 3) := by decide +kernel
theorem dX8_init_38 : decode cX8_init 38 = .ok (.dup, 1) := by decide +kernel
theorem dX8_init_39 : decode cX8_init 39 = .ok (.invokespecial 22, 3) := by decide +kernel
theorem dX8_init_42 : decode cX8_init 42 = .ok (.putfield 27, 3) := by decide +kernel
theorem dX8_init_45 : decode cX8_init 45 = .ok (.aload_n 0, 1) := by decide +kernel
theorem dX8_init_46 : decode cX8_init 46 = .ok (.new 30, 3) := by decide +kernel
theorem dX8_init_49 : decode cX8_init 49 = .ok (.dup, 1) := by decide +kernel
theorem dX8_init_50 : decode cX8_init 50 = .ok (.invokespecial 32, 3) := by decide +kernel
theorem dX8_init_53 : decode cX8_init 53 = .ok (.putfield 33, 3) := by decide +kernel
theorem dX8_init_56 : decode cX8_init 56 = .ok (.aload_n 0, 1) := by decide +kernel
theorem dX8_init_57 : decode cX8_init 57 = .ok (.new 37, 3) := by decide +kernel
theorem dX8_init_60 : decode cX8_init 60 = .ok (.dup, 1) := by decide +kernel
theorem dX8_init_61 : decode cX8_init 61 = .ok (.aload_n 0, 1) := by decide +kernel
theorem dX8_init_62 : decode cX8_init 62 = .ok (.getfield 23, 3) := by decide +kernel
theorem dX8_init_65 : decode cX8_init 65 = .ok (.aload_n 0, 1) := by decide +kernel
theorem dX8_init_66 : decode cX8_init 66 = .ok (.getfield 33, 3) := by decide +kernel
theorem dX8_init_69 : decode cX8_init 69 = .ok (.invokespecial 39, 3) := by decide +kernel
theorem dX8_init_72 : decode cX8_init 72 = .ok (.putfield 42, 3) := by decide +kernel
theorem dX8_init_75 : decode cX8_init 75 = .ok (.aload_n 0, 1) := by decide +kernel
theorem dX8_init_76 : decode cX8_init 76 = .ok (.new 46, 3) := by decide +kernel
theorem dX8_init_79 : decode cX8_init 79 = .ok (.dup, 1) := by decide +kernel
theorem dX8_init_80 : decode cX8_init 80 = .ok (.aload_n 0, 1) := by decide +kernel
theorem dX8_init_81 : decode cX8_init 81 = .ok (.getfield 23, 3) := by decide +kernel
theorem dX8_init_84 : decode cX8_init 84 = .ok (.aload_n 0, 1) := by decide +kernel
theorem dX8_init_85 : decode cX8_init 85 = .ok (.getfield 33, 3) := by decide +kernel
theorem dX8_init_88 : decode cX8_init 88 = .ok (.invokespecial 48, 3) := by decide +kernel
theorem dX8_init_91 : decode cX8_init 91 = .ok (.putfield 49, 3) := by decide +kernel
theorem dX8_init_94 : decode cX8_init 94 = .ok (.aload_n 0, 1) := by decide +kernel
theorem dX8_init_95 : decode cX8_init 95 = .ok (.new 53, 3) := by decide +kernel
theorem dX8_init_98 : decode cX8_init 98 = .ok (.dup, 1) := by decide +kernel
theorem dX8_init_99 : decode cX8_init 99 = .ok (.aload_n 0, 1) := by decide +kernel
theorem dX8_init_100 : decode cX8_init 100 = .ok (.getfield 49, 3) := by decide +kernel
theorem dX8_init_103 : decode cX8_init 103 = .ok (.invokespecial 55, 3) := by decide +kernel
theorem dX8_init_106 : decode cX8_init 106 = .ok (.putfield 58, 3) := by decide +kernel
theorem dX8_init_109 : decode cX8_init 109 = .ok (.return_, 1) := by decide +kernel
theorem dX8_letter_0 : decode cX8_letter 0 = .ok (.iload_n 1, 1) := by decide +kernel
theorem dX8_letter_1 : decode cX8_letter 1 = .ok (.bipush 32, 2) := by decide +kernel
theorem dX8_letter_3 : decode cX8_letter 3 = .ok (.if_icmp .lt 9, 3) := by decide +kernel
theorem dX8_letter_6 : decode cX8_letter 6 = .ok (.iload_n 1, 1) := by decide +kernel
theorem dX8_letter_7 : decode cX8_letter 7 = .ok (.bipush 126, 2) := by decide +kernel
theorem dX8_letter_9 : decode cX8_letter 9 = .ok (.if_icmp .le 6, 3) := by decide +kernel
theorem dX8_letter_12 : decode cX8_letter 12 = .ok (.ldc 62, 2) := by decide +kernel
theorem dX8_letter_14 : decode cX8_letter 14 = .ok (.ireturn, 1) := by decide +kernel
theorem dX8_letter_15 : decode cX8_letter 15 = .ok (.aload_n 0, 1) := by decide +kernel
theorem dX8_letter_16 : decode cX8_letter 16 = .ok (.getfield 63, 3) := by decide +kernel
theorem dX8_letter_19 : decode cX8_letter 19 = .ok (.ifCond .lt 12, 3) := by decide +kernel
theorem dX8_letter_22 : decode cX8_letter 22 = .ok (.aload_n 0, 1) := by decide +kernel
theorem dX8_letter_23 : decode cX8_letter 23 = .ok (.getfield 63, 3) := by decide +kernel
theorem dX8_letter_26 : decode cX8_letter 26 = .ok (.bipush 40, 2) := by decide +kernel
theorem dX8_letter_28 : decode cX8_letter 28 = .ok (.if_icmp .lt 6, 3) := by decide +kernel
theorem dX8_letter_31 : decode cX8_letter 31 = .ok (.ldc 67, 2) := by decide +kernel
theorem dX8_letter_33 : decode cX8_letter 33 = .ok (.ireturn, 1) := by decide +kernel
theorem dX8_letter_34 : decode cX8_letter 34 = .ok (.aload_n 0, 1) := by decide +kernel
theorem dX8_letter_35 : decode cX8_letter 35 = .ok (.getfield 9, 3) := by decide +kernel
theorem dX8_letter_38 : decode cX8_letter 38 = .ok (.aload_n 0, 1) := by decide +kernel
theorem dX8_letter_39 : decode cX8_letter 39 = .ok (.getfield 63, 3) := by decide +kernel
theorem dX8_letter_42 : decode cX8_letter 42 = .ok (.iload_n 1, 1) := by decide +kernel
theorem dX8_letter_43 : decode cX8_letter 43 = .ok (.iastore, 1) := by decide +kernel
theorem dX8_letter_44 : decode cX8_letter 44 = .ok (.aload_n 0, 1) := by decide +kernel
theorem dX8_letter_45 : decode cX8_letter 45 = .ok (.dup, 1) := by decide +kernel
theorem dX8_letter_46 : decode cX8_letter 46 = .ok (.getfield 63, 3) := by decide +kernel
theorem dX8_letter_49 : decode cX8_letter 49 = .ok (.iconst 1, 1) := by decide +kernel
theorem dX8_letter_50 : decode cX8_letter 50 = .ok (.iadd, 1) := by decide +kernel
theorem dX8_letter_51 : decode cX8_letter 51 = .ok (.putfield 63, 3) := by decide +kernel
theorem dX8_letter_54 : decode cX8_letter 54 = .ok (.aload_n 0, 1) := by decide +kernel
theorem dX8_letter_55 : decode cX8_letter 55 = .ok (.getfield 63, 3) := by decide +kernel
theorem dX8_letter_58 : decode cX8_letter 58 = .ok (.ireturn, 1) := by decide +kernel
theorem dX8_blank_0 : decode cX8_blank 0 = .ok (.aload_n 0, 1) := by decide +kernel
theorem dX8_blank_1 : decode cX8_blank 1 = .ok (.getfield 63, 3) := by decide +kernel
theorem dX8_blank_4 : decode cX8_blank 4 = .ok (.istore_n 1, 1) := by decide +kernel
theorem dX8_blank_5 : decode cX8_blank 5 = .ok (.aload_n 0, 1) := by decide +kernel
theorem dX8_blank_6 : decode cX8_blank 6 = .ok (.iconst 0, 1) := by decide +kernel
theorem dX8_blank_7 : decode cX8_blank 7 = .ok (.putfield 63, 3) := by decide +kernel
theorem dX8_blank_10 : decode cX8_blank 10 = .ok (.iload_n 1, 1) := by decide +kernel
theorem dX8_blank_11 : decode cX8_blank 11 = .ok (.ireturn, 1) := by decide +kernel
set_option maxRecDepth 20000 in
theorem ggX8_fault_X5_firstFault : GoodIn wsX8_fault wsX5_firstFault := goodIn_r _ [8, 9, 10, 11, 12, 13, 14, 15, 16, 17, 7, 18, 19, 20, 21, 22, 23, 24, 25, 26, 27, 28, 29, 30, 31, 32, 33, 34, 35, 36, 37, 38, 39, 40, 41, 42, 43, 44, 61, 62, 63, 64, 65, 66, 67, 68, 69, 70] (by decide +kernel) (by decide +kernel)
set_option maxRecDepth 20000 in
theorem gX8_fault_X5_firstFault : GoodIn wsX8_fault (wsV RX8 68 RX5 yX5_firstFault wsX5_firstFault) := goodIn_app (goodIn_of _ (by decide +kernel)) ggX8_fault_X5_firstFault
theorem dX8_fault_0 : decode cX8_fault 0 = .ok (.aload_n 0, 1) := by decide +kernel
theorem dX8_fault_1 : decode cX8_fault 1 = .ok (.getfield 16, 3) := by decide +kernel
theorem dX8_fault_4 : decode cX8_fault 4 = .ok (.aload_n 0, 1) := by decide +kernel
theorem dX8_fault_5 : decode cX8_fault 5 = .ok (.getfield 9, 3) := by decide +kernel
theorem dX8_fault_8 : decode cX8_fault 8 = .ok (.aload_n 0, 1) := by decide +kernel
theorem dX8_fault_9 : decode cX8_fault 9 = .ok (.getfield 63, 3) := by decide +kernel
theorem dX8_fault_12 : decode cX8_fault 12 = .ok (.invokevirtual 68, 3) := by decide +kernel
theorem dX8_fault_15 : decode cX8_fault 15 = .ok (.ireturn, 1) := by decide +kernel
set_option maxRecDepth 20000 in
theorem ggX8_add_X5_firstFault : GoodIn wsX8_add wsX5_firstFault := goodIn_r _ [13, 14, 15, 16, 17, 18, 19, 20, 21, 22, 12, 23, 24, 25, 26, 27, 28, 29, 30, 31, 32, 33, 34, 35, 36, 37, 38, 39, 40, 41, 42, 43, 44, 45, 46, 47, 48, 49, 146, 147, 148, 149, 150, 151, 152, 153, 154, 155] (by decide +kernel) (by decide +kernel)
set_option maxRecDepth 20000 in
theorem gX8_add_X5_firstFault : GoodIn wsX8_add (wsV RX8 68 RX5 yX5_firstFault wsX5_firstFault) := goodIn_app (goodIn_of _ (by decide +kernel)) ggX8_add_X5_firstFault
set_option maxRecDepth 20000 in
theorem ggX8_add_X5_isComplete : GoodIn wsX8_add wsX5_isComplete := goodIn_r _ [53, 14, 15, 17, 146, 147, 148, 149, 150, 151, 152, 153, 154, 155] (by decide +kernel) (by decide +kernel)
set_option maxRecDepth 20000 in
theorem gX8_add_X5_isComplete : GoodIn wsX8_add (wsV RX8 72 RX5 yX5_isComplete wsX5_isComplete) := goodIn_app (goodIn_of _ (by decide +kernel)) ggX8_add_X5_isComplete
set_option maxRecDepth 20000 in
theorem ggX8_add_X3_size : GoodIn wsX8_add wsX3_size := goodIn_r _ [58, 59, 156, 157, 158, 159, 160] (by decide +kernel) (by decide +kernel)
set_option maxRecDepth 20000 in
theorem gX8_add_X3_size : GoodIn wsX8_add (wsV RX8 77 RX3 yX3_size wsX3_size) := goodIn_app (goodIn_of _ (by decide +kernel)) ggX8_add_X3_size
set_option maxRecDepth 20000 in
theorem ggX8_add_X7_size : GoodIn wsX8_add wsX7_size := goodIn_r _ [64, 65, 161, 162, 163, 164, 165] (by decide +kernel) (by decide +kernel)
set_option maxRecDepth 20000 in
theorem gX8_add_X7_size : GoodIn wsX8_add (wsV RX8 81 RX7 yX7_size wsX7_size) := goodIn_app (goodIn_of _ (by decide +kernel)) ggX8_add_X7_size
set_option maxRecDepth 20000 in
theorem ggX8_add_X5_buildIn : GoodIn wsX8_add wsX5_buildIn := goodIn_r _ [69, 70, 16, 33, 71, 72, 73, 74, 75, 12, 76, 77, 78, 79, 63, 80, 65, 81, 82, 83, 84, 85, 86, 87, 88, 89, 90, 91, 92, 93, 146, 147, 148, 149, 150, 151, 152, 153, 154, 155, 161, 162, 163, 164, 165] (by decide +kernel) (by decide +kernel)
set_option maxRecDepth 20000 in
theorem gX8_add_X5_buildIn : GoodIn wsX8_add (wsV RX8 82 RX5 yX5_buildIn wsX5_buildIn) := goodIn_app (goodIn_of _ (by decide +kernel)) ggX8_add_X5_buildIn
set_option maxRecDepth 20000 in
theorem ggX8_add_X7_shrinkTo : GoodIn wsX8_add wsX7_shrinkTo := goodIn_r _ [97, 65, 161, 162, 163, 164, 165] (by decide +kernel) (by decide +kernel)
set_option maxRecDepth 20000 in
theorem gX8_add_X7_shrinkTo : GoodIn wsX8_add (wsV RX8 86 RX7 yX7_shrinkTo wsX7_shrinkTo) := goodIn_app (goodIn_of _ (by decide +kernel)) ggX8_add_X7_shrinkTo
set_option maxRecDepth 20000 in
theorem ggX8_add_X5_kind : GoodIn wsX8_add wsX5_kind := goodIn_r _ [101, 17, 146, 147, 148, 149, 150, 151, 152, 153, 154, 155] (by decide +kernel) (by decide +kernel)
set_option maxRecDepth 20000 in
theorem gX8_add_X5_kind : GoodIn wsX8_add (wsV RX8 90 RX5 yX5_kind wsX5_kind) := goodIn_app (goodIn_of _ (by decide +kernel)) ggX8_add_X5_kind
set_option maxRecDepth 20000 in
theorem ggX8_add_X5_left : GoodIn wsX8_add wsX5_left := goodIn_r _ [105, 70, 72, 71, 146, 147, 148, 149, 150, 151, 152, 153, 154, 155] (by decide +kernel) (by decide +kernel)
set_option maxRecDepth 20000 in
theorem gX8_add_X5_left : GoodIn wsX8_add (wsV RX8 93 RX5 yX5_left wsX5_left) := goodIn_app (goodIn_of _ (by decide +kernel)) ggX8_add_X5_left
set_option maxRecDepth 20000 in
theorem ggX8_add_X5_right : GoodIn wsX8_add wsX5_right := goodIn_r _ [109, 70, 72, 71, 146, 147, 148, 149, 150, 151, 152, 153, 154, 155] (by decide +kernel) (by decide +kernel)
set_option maxRecDepth 20000 in
theorem gX8_add_X5_right : GoodIn wsX8_add (wsV RX8 96 RX5 yX5_right wsX5_right) := goodIn_app (goodIn_of _ (by decide +kernel)) ggX8_add_X5_right
set_option maxRecDepth 20000 in
theorem ggX8_add_X5_number : GoodIn wsX8_add wsX5_number := goodIn_r _ [113, 18, 19, 146, 147, 148, 149, 150, 151, 152, 153, 154, 155] (by decide +kernel) (by decide +kernel)
set_option maxRecDepth 20000 in
theorem gX8_add_X5_number : GoodIn wsX8_add (wsV RX8 99 RX5 yX5_number wsX5_number) := goodIn_app (goodIn_of _ (by decide +kernel)) ggX8_add_X5_number
set_option maxRecDepth 20000 in
theorem ggX8_add_X3_append : GoodIn wsX8_add wsX3_append := goodIn_r _ [117, 59, 118, 119, 120, 121, 156, 157, 158, 159, 160] (by decide +kernel) (by decide +kernel)
set_option maxRecDepth 20000 in
theorem gX8_add_X3_append : GoodIn wsX8_add (wsV RX8 102 RX3 yX3_append wsX3_append) := goodIn_app (goodIn_of _ (by decide +kernel)) ggX8_add_X3_append
set_option maxRecDepth 20000 in
theorem ggX8_add_X8_forgetResults : GoodIn wsX8_add wsX8_forgetResults := goodIn_r _ [126, 127, 128, 129, 130, 131, 132, 133, 134, 135, 136, 137, 138, 139, 140, 141, 142, 143, 144, 145] (by decide +kernel) (by decide +kernel)
set_option maxRecDepth 20000 in
theorem gX8_add_X8_forgetResults : GoodIn wsX8_add (wsV RX8 109 RX8 yX8_forgetResults wsX8_forgetResults) := goodIn_app (goodIn_of _ (by decide +kernel)) ggX8_add_X8_forgetResults
theorem dX8_add_0 : decode cX8_add 0 = .ok (.aload_n 0, 1) := by decide +kernel
theorem dX8_add_1 : decode cX8_add 1 = .ok (.getfield 16, 3) := by decide +kernel
theorem dX8_add_4 : decode cX8_add 4 = .ok (.aload_n 0, 1) := by decide +kernel
theorem dX8_add_5 : decode cX8_add 5 = .ok (.getfield 9, 3) := by decide +kernel
theorem dX8_add_8 : decode cX8_add 8 = .ok (.aload_n 0, 1) := by decide +kernel
theorem dX8_add_9 : decode cX8_add 9 = .ok (.getfield 63, 3) := by decide +kernel
theorem dX8_add_12 : decode cX8_add 12 = .ok (.invokevirtual 68, 3) := by decide +kernel
theorem dX8_add_15 : decode cX8_add 15 = .ok (.aload_n 0, 1) := by decide +kernel
theorem dX8_add_16 : decode cX8_add 16 = .ok (.getfield 63, 3) := by decide +kernel
theorem dX8_add_19 : decode cX8_add 19 = .ok (.if_icmp .lt 13, 3) := by decide +kernel
theorem dX8_add_22 : decode cX8_add 22 = .ok (.aload_n 0, 1) := by decide +kernel
theorem dX8_add_23 : decode cX8_add 23 = .ok (.getfield 16, 3) := by decide +kernel
theorem dX8_add_26 : decode cX8_add 26 = .ok (.invokevirtual 72, 3) := by decide +kernel
theorem dX8_add_29 : decode cX8_add 29 = .ok (.ifCond .ne 6, 3) := by decide +kernel
theorem dX8_add_32 : decode cX8_add 32 = .ok (.ldc 76, 2) := by decide +kernel
theorem dX8_add_34 : decode cX8_add 34 = .ok (.ireturn, 1) := by decide +kernel
theorem dX8_add_35 : decode cX8_add 35 = .ok (.aload_n 0, 1) := by decide +kernel
theorem dX8_add_36 : decode cX8_add 36 = .ok (.getfield 33, 3) := by decide +kernel
theorem dX8_add_39 : decode cX8_add 39 = .ok (.invokevirtual 77, 3) := by decide +kernel
theorem dX8_add_42 : decode cX8_add 42 = .ok (.bipush 10, 2) := by decide +kernel
theorem dX8_add_44 : decode cX8_add 44 = .ok (.if_icmp .lt 6, 3) := by decide +kernel
theorem dX8_add_47 : decode cX8_add 47 = .ok (.ldc 67, 2) := by decide +kernel
theorem dX8_add_49 : decode cX8_add 49 = .ok (.ireturn, 1) := by decide +kernel
theorem dX8_add_50 : decode cX8_add 50 = .ok (.aload_n 0, 1) := by decide +kernel
theorem dX8_add_51 : decode cX8_add 51 = .ok (.getfield 23, 3) := by decide +kernel
theorem dX8_add_54 : decode cX8_add 54 = .ok (.invokevirtual 81, 3) := by decide +kernel
theorem dX8_add_57 : decode cX8_add 57 = .ok (.istore_n 1, 1) := by decide +kernel
theorem dX8_add_58 : decode cX8_add 58 = .ok (.aload_n 0, 1) := by decide +kernel
theorem dX8_add_59 : decode cX8_add 59 = .ok (.getfield 16, 3) := by decide +kernel
theorem dX8_add_62 : decode cX8_add 62 = .ok (.aload_n 0, 1) := by decide +kernel
theorem dX8_add_63 : decode cX8_add 63 = .ok (.getfield 23, 3) := by decide +kernel
theorem dX8_add_66 : decode cX8_add 66 = .ok (.invokevirtual 82, 3) := by decide +kernel
theorem dX8_add_69 : decode cX8_add 69 = .ok (.ifCond .ne 14, 3) := by decide +kernel
theorem dX8_add_72 : decode cX8_add 72 = .ok (.aload_n 0, 1) := by decide +kernel
theorem dX8_add_73 : decode cX8_add 73 = .ok (.getfield 23, 3) := by decide +kernel
theorem dX8_add_76 : decode cX8_add 76 = .ok (.iload_n 1, 1) := by decide +kernel
theorem dX8_add_77 : decode cX8_add 77 = .ok (.invokevirtual 86, 3) := by decide +kernel
theorem dX8_add_80 : decode cX8_add 80 = .ok (.ldc 67, 2) := by decide +kernel
theorem dX8_add_82 : decode cX8_add 82 = .ok (.ireturn, 1) := by decide +kernel
theorem dX8_add_83 : decode cX8_add 83 = .ok (.aload_n 0, 1) := by decide +kernel
theorem dX8_add_84 : decode cX8_add 84 = .ok (.getfield 33, 3) := by decide +kernel
theorem dX8_add_87 : decode cX8_add 87 = .ok (.aload_n 0, 1) := by decide +kernel
theorem dX8_add_88 : decode cX8_add 88 = .ok (.getfield 16, 3) := by decide +kernel
theorem dX8_add_91 : decode cX8_add 91 = .ok (.invokevirtual 90, 3) := by decide +kernel
theorem dX8_add_94 : decode cX8_add 94 = .ok (.aload_n 0, 1) := by decide +kernel
theorem dX8_add_95 : decode cX8_add 95 = .ok (.getfield 16, 3) := by decide +kernel
theorem dX8_add_98 : decode cX8_add 98 = .ok (.invokevirtual 93, 3) := by decide +kernel
theorem dX8_add_101 : decode cX8_add 101 = .ok (.aload_n 0, 1) := by decide +kernel
theorem dX8_add_102 : decode cX8_add 102 = .ok (.getfield 16, 3) := by decide +kernel
theorem dX8_add_105 : decode cX8_add 105 = .ok (.invokevirtual 96, 3) := by decide +kernel
theorem dX8_add_108 : decode cX8_add 108 = .ok (.aload_n 0, 1) := by decide +kernel
theorem dX8_add_109 : decode cX8_add 109 = .ok (.getfield 16, 3) := by decide +kernel
theorem dX8_add_112 : decode cX8_add 112 = .ok (.invokevirtual 99, 3) := by decide +kernel
theorem dX8_add_115 : decode cX8_add 115 = .ok (.invokevirtual 102, 3) := by decide +kernel
theorem dX8_add_118 : decode cX8_add 118 = .ok (.aload_n 0, 1) := by decide +kernel
theorem dX8_add_119 : decode cX8_add 119 = .ok (.iconst 0, 1) := by decide +kernel
theorem dX8_add_120 : decode cX8_add 120 = .ok (.putfield 63, 3) := by decide +kernel
theorem dX8_add_123 : decode cX8_add 123 = .ok (.aload_n 0, 1) := by decide +kernel
theorem dX8_add_124 : decode cX8_add 124 = .ok (.dup, 1) := by decide +kernel
theorem dX8_add_125 : decode cX8_add 125 = .ok (.getfield 106, 3) := by decide +kernel
theorem dX8_add_128 : decode cX8_add 128 = .ok (.iconst 1, 1) := by decide +kernel
theorem dX8_add_129 : decode cX8_add 129 = .ok (.iadd, 1) := by decide +kernel
theorem dX8_add_130 : decode cX8_add 130 = .ok (.putfield 106, 3) := by decide +kernel
theorem dX8_add_133 : decode cX8_add 133 = .ok (.aload_n 0, 1) := by decide +kernel
theorem dX8_add_134 : decode cX8_add 134 = .ok (.invokevirtual 109, 3) := by decide +kernel
theorem dX8_add_137 : decode cX8_add 137 = .ok (.aload_n 0, 1) := by decide +kernel
theorem dX8_add_138 : decode cX8_add 138 = .ok (.getfield 33, 3) := by decide +kernel
theorem dX8_add_141 : decode cX8_add 141 = .ok (.invokevirtual 77, 3) := by decide +kernel
theorem dX8_add_144 : decode cX8_add 144 = .ok (.iconst 1, 1) := by decide +kernel
theorem dX8_add_145 : decode cX8_add 145 = .ok (.isub, 1) := by decide +kernel
theorem dX8_add_146 : decode cX8_add 146 = .ok (.ireturn, 1) := by decide +kernel
set_option maxRecDepth 20000 in
theorem ggX8_drop_X3_has : GoodIn wsX8_drop wsX3_has := goodIn_r _ [8, 9, 110, 111, 112, 113, 114] (by decide +kernel) (by decide +kernel)
set_option maxRecDepth 20000 in
theorem gX8_drop_X3_has : GoodIn wsX8_drop (wsV RX8 112 RX3 yX3_has wsX3_has) := goodIn_app (goodIn_of _ (by decide +kernel)) ggX8_drop_X3_has
set_option maxRecDepth 20000 in
theorem ggX8_drop_X3_removeAt : GoodIn wsX8_drop wsX3_removeAt := goodIn_r _ [13, 9, 14, 15, 16, 17, 18, 5, 6, 7, 8, 110, 111, 112, 113, 114] (by decide +kernel) (by decide +kernel)
set_option maxRecDepth 20000 in
theorem gX8_drop_X3_removeAt : GoodIn wsX8_drop (wsV RX8 117 RX3 yX3_removeAt wsX3_removeAt) := goodIn_app (goodIn_of _ (by decide +kernel)) ggX8_drop_X3_removeAt
set_option maxRecDepth 20000 in
theorem ggX8_drop_X8_numberTermsAnew : GoodIn wsX8_drop wsX8_numberTermsAnew := goodIn_r _ [23, 24, 25, 1, 26, 27, 28, 29, 30, 31, 32, 33, 34, 35, 36, 37, 38, 39, 40, 41, 42, 7, 43, 9, 44, 45, 46, 47, 15, 48, 18, 5, 6, 8, 49, 50, 51, 22, 52, 53, 54, 55, 56, 57, 58, 59, 60, 61, 62, 63, 64, 65, 66, 67, 68, 69, 70, 71, 72, 73, 74, 75, 76, 77, 78, 79, 80, 81, 82, 16, 83, 84, 85, 86, 94, 95, 96, 97, 98, 99, 100, 101, 102, 103, 104, 105, 106, 107, 108, 109, 115, 116, 117, 118, 119, 110, 111, 112, 113, 114] (by decide +kernel) (by decide +kernel)
set_option maxRecDepth 20000 in
theorem gX8_drop_X8_numberTermsAnew : GoodIn wsX8_drop (wsV RX8 120 RX8 yX8_numberTermsAnew wsX8_numberTermsAnew) := goodIn_app (goodIn_of _ (by decide +kernel)) ggX8_drop_X8_numberTermsAnew
set_option maxRecDepth 20000 in
theorem ggX8_drop_X8_forgetResults : GoodIn wsX8_drop wsX8_forgetResults := goodIn_r _ [90, 91, 92, 93, 94, 95, 96, 97, 98, 99, 100, 101, 102, 103, 104, 105, 106, 107, 108, 109] (by decide +kernel) (by decide +kernel)
set_option maxRecDepth 20000 in
theorem gX8_drop_X8_forgetResults : GoodIn wsX8_drop (wsV RX8 109 RX8 yX8_forgetResults wsX8_forgetResults) := goodIn_app (goodIn_of _ (by decide +kernel)) ggX8_drop_X8_forgetResults
set_option maxRecDepth 20000 in
theorem ggX8_drop_X3_size : GoodIn wsX8_drop wsX3_size := goodIn_r _ [43, 9, 110, 111, 112, 113, 114] (by decide +kernel) (by decide +kernel)
set_option maxRecDepth 20000 in
theorem gX8_drop_X3_size : GoodIn wsX8_drop (wsV RX8 77 RX3 yX3_size wsX3_size) := goodIn_app (goodIn_of _ (by decide +kernel)) ggX8_drop_X3_size
theorem dX8_drop_0 : decode cX8_drop 0 = .ok (.aload_n 0, 1) := by decide +kernel
theorem dX8_drop_1 : decode cX8_drop 1 = .ok (.getfield 33, 3) := by decide +kernel
theorem dX8_drop_4 : decode cX8_drop 4 = .ok (.iload_n 1, 1) := by decide +kernel
theorem dX8_drop_5 : decode cX8_drop 5 = .ok (.invokevirtual 112, 3) := by decide +kernel
theorem dX8_drop_8 : decode cX8_drop 8 = .ok (.ifCond .ne 6, 3) := by decide +kernel
theorem dX8_drop_11 : decode cX8_drop 11 = .ok (.ldc 116, 2) := by decide +kernel
theorem dX8_drop_13 : decode cX8_drop 13 = .ok (.ireturn, 1) := by decide +kernel
theorem dX8_drop_14 : decode cX8_drop 14 = .ok (.aload_n 0, 1) := by decide +kernel
theorem dX8_drop_15 : decode cX8_drop 15 = .ok (.getfield 33, 3) := by decide +kernel
theorem dX8_drop_18 : decode cX8_drop 18 = .ok (.iload_n 1, 1) := by decide +kernel
theorem dX8_drop_19 : decode cX8_drop 19 = .ok (.invokevirtual 117, 3) := by decide +kernel
theorem dX8_drop_22 : decode cX8_drop 22 = .ok (.aload_n 0, 1) := by decide +kernel
theorem dX8_drop_23 : decode cX8_drop 23 = .ok (.invokevirtual 120, 3) := by decide +kernel
theorem dX8_drop_26 : decode cX8_drop 26 = .ok (.aload_n 0, 1) := by decide +kernel
theorem dX8_drop_27 : decode cX8_drop 27 = .ok (.dup, 1) := by decide +kernel
theorem dX8_drop_28 : decode cX8_drop 28 = .ok (.getfield 123, 3) := by decide +kernel
theorem dX8_drop_31 : decode cX8_drop 31 = .ok (.iconst 1, 1) := by decide +kernel
theorem dX8_drop_32 : decode cX8_drop 32 = .ok (.iadd, 1) := by decide +kernel
theorem dX8_drop_33 : decode cX8_drop 33 = .ok (.putfield 123, 3) := by decide +kernel
theorem dX8_drop_36 : decode cX8_drop 36 = .ok (.aload_n 0, 1) := by decide +kernel
theorem dX8_drop_37 : decode cX8_drop 37 = .ok (.invokevirtual 109, 3) := by decide +kernel
theorem dX8_drop_40 : decode cX8_drop 40 = .ok (.aload_n 0, 1) := by decide +kernel
theorem dX8_drop_41 : decode cX8_drop 41 = .ok (.getfield 33, 3) := by decide +kernel
theorem dX8_drop_44 : decode cX8_drop 44 = .ok (.invokevirtual 77, 3) := by decide +kernel
theorem dX8_drop_47 : decode cX8_drop 47 = .ok (.ireturn, 1) := by decide +kernel
set_option maxRecDepth 20000 in
theorem ggX8_scale_X3_size : GoodIn wsX8_scale wsX3_size := goodIn_r _ [8, 9, 52, 53, 54, 55, 56] (by decide +kernel) (by decide +kernel)
set_option maxRecDepth 20000 in
theorem gX8_scale_X3_size : GoodIn wsX8_scale (wsV RX8 77 RX3 yX3_size wsX3_size) := goodIn_app (goodIn_of _ (by decide +kernel)) ggX8_scale_X3_size
set_option maxRecDepth 20000 in
theorem ggX8_scale_X3_numberOf : GoodIn wsX8_scale wsX3_numberOf := goodIn_r _ [13, 14, 15, 16, 17, 7, 18, 9, 52, 53, 54, 55, 56] (by decide +kernel) (by decide +kernel)
set_option maxRecDepth 20000 in
theorem gX8_scale_X3_numberOf : GoodIn wsX8_scale (wsV RX8 126 RX3 yX3_numberOf wsX3_numberOf) := goodIn_app (goodIn_of _ (by decide +kernel)) ggX8_scale_X3_numberOf
set_option maxRecDepth 20000 in
theorem ggX8_scale_X8_isGreat : GoodIn wsX8_scale wsX8_isGreat := goodIn_r _ [22, 23, 24] (by decide +kernel) (by decide +kernel)
set_option maxRecDepth 20000 in
theorem gX8_scale_X8_isGreat : GoodIn wsX8_scale (va_wsS RX8 130 yX8_isGreat wsX8_isGreat) := goodIn_app (goodIn_of _ (by decide +kernel)) ggX8_scale_X8_isGreat
set_option maxRecDepth 20000 in
theorem ggX8_scale_X3_setNumber : GoodIn wsX8_scale wsX3_setNumber := goodIn_r _ [28, 14, 15, 16, 17, 7, 18, 9, 52, 53, 54, 55, 56] (by decide +kernel) (by decide +kernel)
set_option maxRecDepth 20000 in
theorem gX8_scale_X3_setNumber : GoodIn wsX8_scale (wsV RX8 135 RX3 yX3_setNumber wsX3_setNumber) := goodIn_app (goodIn_of _ (by decide +kernel)) ggX8_scale_X3_setNumber
set_option maxRecDepth 20000 in
theorem ggX8_scale_X8_forgetResults : GoodIn wsX8_scale wsX8_forgetResults := goodIn_r _ [32, 33, 34, 35, 36, 37, 38, 39, 40, 41, 42, 43, 44, 45, 46, 47, 48, 49, 50, 51] (by decide +kernel) (by decide +kernel)
set_option maxRecDepth 20000 in
theorem gX8_scale_X8_forgetResults : GoodIn wsX8_scale (wsV RX8 109 RX8 yX8_forgetResults wsX8_forgetResults) := goodIn_app (goodIn_of _ (by decide +kernel)) ggX8_scale_X8_forgetResults
theorem dX8_scale_0 : decode cX8_scale 0 = .ok (.iload_n 1, 1) := by decide +kernel
theorem dX8_scale_1 : decode cX8_scale 1 = .ok (.sipush (-1000), 3) := by decide +kernel
theorem dX8_scale_4 : decode cX8_scale 4 = .ok (.if_icmp .lt 10, 3) := by decide +kernel
theorem dX8_scale_7 : decode cX8_scale 7 = .ok (.iload_n 1, 1) := by decide +kernel
theorem dX8_scale_8 : decode cX8_scale 8 = .ok (.sipush 1000, 3) := by decide +kernel
theorem dX8_scale_11 : decode cX8_scale 11 = .ok (.if_icmp .le 6, 3) := by decide +kernel
theorem dX8_scale_14 : decode cX8_scale 14 = .ok (.ldc 62, 2) := by decide +kernel
theorem dX8_scale_16 : decode cX8_scale 16 = .ok (.ireturn, 1) := by decide +kernel
theorem dX8_scale_17 : decode cX8_scale 17 = .ok (.iconst 0, 1) := by decide +kernel
theorem dX8_scale_18 : decode cX8_scale 18 = .ok (.istore_n 2, 1) := by decide +kernel
theorem dX8_scale_19 : decode cX8_scale 19 = .ok (.iload_n 2, 1) := by decide +kernel
theorem dX8_scale_20 : decode cX8_scale 20 = .ok (.aload_n 0, 1) := by decide +kernel
theorem dX8_scale_21 : decode cX8_scale 21 = .ok (.getfield 33, 3) := by decide +kernel
theorem dX8_scale_24 : decode cX8_scale 24 = .ok (.invokevirtual 77, 3) := by decide +kernel
theorem dX8_scale_27 : decode cX8_scale 27 = .ok (.if_icmp .ge 30, 3) := by decide +kernel
theorem dX8_scale_30 : decode cX8_scale 30 = .ok (.aload_n 0, 1) := by decide +kernel
theorem dX8_scale_31 : decode cX8_scale 31 = .ok (.getfield 33, 3) := by decide +kernel
theorem dX8_scale_34 : decode cX8_scale 34 = .ok (.iload_n 2, 1) := by decide +kernel
theorem dX8_scale_35 : decode cX8_scale 35 = .ok (.invokevirtual 126, 3) := by decide +kernel
theorem dX8_scale_38 : decode cX8_scale 38 = .ok (.i2l, 1) := by decide +kernel
theorem dX8_scale_39 : decode cX8_scale 39 = .ok (.iload_n 1, 1) := by decide +kernel
theorem dX8_scale_40 : decode cX8_scale 40 = .ok (.i2l, 1) := by decide +kernel
theorem dX8_scale_41 : decode cX8_scale 41 = .ok (.lmul, 1) := by decide +kernel
theorem dX8_scale_42 : decode cX8_scale 42 = .ok (.invokestatic 130, 3) := by decide +kernel
theorem dX8_scale_45 : decode cX8_scale 45 = .ok (.ifCond .eq 6, 3) := by decide +kernel
theorem dX8_scale_48 : decode cX8_scale 48 = .ok (.ldc 134, 2) := by decide +kernel
theorem dX8_scale_50 : decode cX8_scale 50 = .ok (.ireturn, 1) := by decide +kernel
theorem dX8_scale_51 : decode cX8_scale 51 = .ok (.iinc 2 1, 3) := by decide +kernel
theorem dX8_scale_54 : decode cX8_scale 54 = .ok (.goto (-35), 3) := by decide +kernel
theorem dX8_scale_57 : decode cX8_scale 57 = .ok (.iconst 0, 1) := by decide +kernel
theorem dX8_scale_58 : decode cX8_scale 58 = .ok (.istore_n 2, 1) := by decide +kernel
theorem dX8_scale_59 : decode cX8_scale 59 = .ok (.iconst 0, 1) := by decide +kernel
theorem dX8_scale_60 : decode cX8_scale 60 = .ok (.istore_n 3, 1) := by decide +kernel
theorem dX8_scale_61 : decode cX8_scale 61 = .ok (.iload_n 3, 1) := by decide +kernel
theorem dX8_scale_62 : decode cX8_scale 62 = .ok (.aload_n 0, 1) := by decide +kernel
theorem dX8_scale_63 : decode cX8_scale 63 = .ok (.getfield 33, 3) := by decide +kernel
theorem dX8_scale_66 : decode cX8_scale 66 = .ok (.invokevirtual 77, 3) := by decide +kernel
theorem dX8_scale_69 : decode cX8_scale 69 = .ok (.if_icmp .ge 47, 3) := by decide +kernel
theorem dX8_scale_72 : decode cX8_scale 72 = .ok (.aload_n 0, 1) := by decide +kernel
theorem dX8_scale_73 : decode cX8_scale 73 = .ok (.getfield 33, 3) := by decide +kernel
theorem dX8_scale_76 : decode cX8_scale 76 = .ok (.iload_n 3, 1) := by decide +kernel
theorem dX8_scale_77 : decode cX8_scale 77 = .ok (.invokevirtual 126, 3) := by decide +kernel
theorem dX8_scale_80 : decode cX8_scale 80 = .ok (.iload_n 1, 1) := by decide +kernel
theorem dX8_scale_81 : decode cX8_scale 81 = .ok (.imul, 1) := by decide +kernel
theorem dX8_scale_82 : decode cX8_scale 82 = .ok (.istore 4, 2) := by decide +kernel
theorem dX8_scale_84 : decode cX8_scale 84 = .ok (.iload 4, 2) := by decide +kernel
theorem dX8_scale_86 : decode cX8_scale 86 = .ok (.aload_n 0, 1) := by decide +kernel
theorem dX8_scale_87 : decode cX8_scale 87 = .ok (.getfield 33, 3) := by decide +kernel
theorem dX8_scale_90 : decode cX8_scale 90 = .ok (.iload_n 3, 1) := by decide +kernel
theorem dX8_scale_91 : decode cX8_scale 91 = .ok (.invokevirtual 126, 3) := by decide +kernel
theorem dX8_scale_94 : decode cX8_scale 94 = .ok (.if_icmp .eq 16, 3) := by decide +kernel
theorem dX8_scale_97 : decode cX8_scale 97 = .ok (.aload_n 0, 1) := by decide +kernel
theorem dX8_scale_98 : decode cX8_scale 98 = .ok (.getfield 33, 3) := by decide +kernel
theorem dX8_scale_101 : decode cX8_scale 101 = .ok (.iload_n 3, 1) := by decide +kernel
theorem dX8_scale_102 : decode cX8_scale 102 = .ok (.iload 4, 2) := by decide +kernel
theorem dX8_scale_104 : decode cX8_scale 104 = .ok (.invokevirtual 135, 3) := by decide +kernel
theorem dX8_scale_107 : decode cX8_scale 107 = .ok (.iinc 2 1, 3) := by decide +kernel
theorem dX8_scale_110 : decode cX8_scale 110 = .ok (.iinc 3 1, 3) := by decide +kernel
theorem dX8_scale_113 : decode cX8_scale 113 = .ok (.goto (-52), 3) := by decide +kernel
theorem dX8_scale_116 : decode cX8_scale 116 = .ok (.aload_n 0, 1) := by decide +kernel
theorem dX8_scale_117 : decode cX8_scale 117 = .ok (.invokevirtual 109, 3) := by decide +kernel
theorem dX8_scale_120 : decode cX8_scale 120 = .ok (.iload_n 2, 1) := by decide +kernel
theorem dX8_scale_121 : decode cX8_scale 121 = .ok (.ireturn, 1) := by decide +kernel
set_option maxRecDepth 20000 in
theorem ggX8_literal_X3_has : GoodIn wsX8_literal wsX3_has := goodIn_r _ [8, 9, 48, 49, 50, 51, 52] (by decide +kernel) (by decide +kernel)
set_option maxRecDepth 20000 in
theorem gX8_literal_X3_has : GoodIn wsX8_literal (wsV RX8 112 RX3 yX3_has wsX3_has) := goodIn_app (goodIn_of _ (by decide +kernel)) ggX8_literal_X3_has
set_option maxRecDepth 20000 in
theorem ggX8_literal_X3_kindOf : GoodIn wsX8_literal wsX3_kindOf := goodIn_r _ [13, 14, 15, 16, 5, 6, 7, 8, 9, 48, 49, 50, 51, 52] (by decide +kernel) (by decide +kernel)
set_option maxRecDepth 20000 in
theorem gX8_literal_X3_kindOf : GoodIn wsX8_literal (wsV RX8 139 RX3 yX3_kindOf wsX3_kindOf) := goodIn_app (goodIn_of _ (by decide +kernel)) ggX8_literal_X3_kindOf
set_option maxRecDepth 20000 in
theorem ggX8_literal_X3_leftOf : GoodIn wsX8_literal wsX3_leftOf := goodIn_r _ [20, 21, 15, 16, 5, 6, 7, 8, 9, 48, 49, 50, 51, 52] (by decide +kernel) (by decide +kernel)
set_option maxRecDepth 20000 in
theorem gX8_literal_X3_leftOf : GoodIn wsX8_literal (wsV RX8 142 RX3 yX3_leftOf wsX3_leftOf) := goodIn_app (goodIn_of _ (by decide +kernel)) ggX8_literal_X3_leftOf
set_option maxRecDepth 20000 in
theorem ggX8_literal_X3_rightOf : GoodIn wsX8_literal wsX3_rightOf := goodIn_r _ [25, 26, 15, 16, 5, 6, 7, 8, 9, 48, 49, 50, 51, 52] (by decide +kernel) (by decide +kernel)
set_option maxRecDepth 20000 in
theorem gX8_literal_X3_rightOf : GoodIn wsX8_literal (wsV RX8 145 RX3 yX3_rightOf wsX3_rightOf) := goodIn_app (goodIn_of _ (by decide +kernel)) ggX8_literal_X3_rightOf
set_option maxRecDepth 20000 in
theorem ggX8_literal_X3_numberOf : GoodIn wsX8_literal wsX3_numberOf := goodIn_r _ [30, 31, 16, 5, 6, 7, 8, 9, 48, 49, 50, 51, 52] (by decide +kernel) (by decide +kernel)
set_option maxRecDepth 20000 in
theorem gX8_literal_X3_numberOf : GoodIn wsX8_literal (wsV RX8 126 RX3 yX3_numberOf wsX3_numberOf) := goodIn_app (goodIn_of _ (by decide +kernel)) ggX8_literal_X3_numberOf
theorem dX8_literal_0 : decode cX8_literal 0 = .ok (.aload_n 0, 1) := by decide +kernel
theorem dX8_literal_1 : decode cX8_literal 1 = .ok (.getfield 33, 3) := by decide +kernel
theorem dX8_literal_4 : decode cX8_literal 4 = .ok (.iload_n 1, 1) := by decide +kernel
theorem dX8_literal_5 : decode cX8_literal 5 = .ok (.invokevirtual 112, 3) := by decide +kernel
theorem dX8_literal_8 : decode cX8_literal 8 = .ok (.ifCond .ne 6, 3) := by decide +kernel
theorem dX8_literal_11 : decode cX8_literal 11 = .ok (.ldc 116, 2) := by decide +kernel
theorem dX8_literal_13 : decode cX8_literal 13 = .ok (.ireturn, 1) := by decide +kernel
theorem dX8_literal_14 : decode cX8_literal 14 = .ok (.iload_n 2, 1) := by decide +kernel
theorem dX8_literal_15 : decode cX8_literal 15 = .ok (.tableswitch 65 0 3 #[29, 38, 47, 56], 29) := by decide +kernel
theorem dX8_literal_44 : decode cX8_literal 44 = .ok (.aload_n 0, 1) := by decide +kernel
theorem dX8_literal_45 : decode cX8_literal 45 = .ok (.getfield 33, 3) := by decide +kernel
theorem dX8_literal_48 : decode cX8_literal 48 = .ok (.iload_n 1, 1) := by decide +kernel
theorem dX8_literal_49 : decode cX8_literal 49 = .ok (.invokevirtual 139, 3) := by decide +kernel
theorem dX8_literal_52 : decode cX8_literal 52 = .ok (.ireturn, 1) := by decide +kernel
theorem dX8_literal_53 : decode cX8_literal 53 = .ok (.aload_n 0, 1) := by decide +kernel
theorem dX8_literal_54 : decode cX8_literal 54 = .ok (.getfield 33, 3) := by decide +kernel
theorem dX8_literal_57 : decode cX8_literal 57 = .ok (.iload_n 1, 1) := by decide +kernel
theorem dX8_literal_58 : decode cX8_literal 58 = .ok (.invokevirtual 142, 3) := by decide +kernel
theorem dX8_literal_61 : decode cX8_literal 61 = .ok (.ireturn, 1) := by decide +kernel
theorem dX8_literal_62 : decode cX8_literal 62 = .ok (.aload_n 0, 1) := by decide +kernel
theorem dX8_literal_63 : decode cX8_literal 63 = .ok (.getfield 33, 3) := by decide +kernel
theorem dX8_literal_66 : decode cX8_literal 66 = .ok (.iload_n 1, 1) := by decide +kernel
theorem dX8_literal_67 : decode cX8_literal 67 = .ok (.invokevirtual 145, 3) := by decide +kernel
theorem dX8_literal_70 : decode cX8_literal 70 = .ok (.ireturn, 1) := by decide +kernel
theorem dX8_literal_71 : decode cX8_literal 71 = .ok (.aload_n 0, 1) := by decide +kernel
theorem dX8_literal_72 : decode cX8_literal 72 = .ok (.getfield 33, 3) := by decide +kernel
theorem dX8_literal_75 : decode cX8_literal 75 = .ok (.iload_n 1, 1) := by decide +kernel
theorem dX8_literal_76 : decode cX8_literal 76 = .ok (.invokevirtual 126, 3) := by decide +kernel
theorem dX8_literal_79 : decode cX8_literal 79 = .ok (.ireturn, 1) := by decide +kernel
theorem dX8_literal_80 : decode cX8_literal 80 = .ok (.ldc 62, 2) := by decide +kernel
theorem dX8_literal_82 : decode cX8_literal 82 = .ok (.ireturn, 1) := by decide +kernel
set_option maxRecDepth 20000 in
theorem ggX8_term_X7_has : GoodIn wsX8_term wsX7_has := goodIn_r _ [10, 11, 178, 179, 180, 181, 182] (by decide +kernel) (by decide +kernel)
set_option maxRecDepth 20000 in
theorem gX8_term_X7_has : GoodIn wsX8_term (wsV RX8 148 RX7 yX7_has wsX7_has) := goodIn_app (goodIn_of _ (by decide +kernel)) ggX8_term_X7_has
set_option maxRecDepth 20000 in
theorem ggX8_term_X7_kindOf : GoodIn wsX8_term wsX7_kindOf := goodIn_r _ [15, 16, 17, 7, 8, 9, 10, 11, 178, 179, 180, 181, 182] (by decide +kernel) (by decide +kernel)
set_option maxRecDepth 20000 in
theorem gX8_term_X7_kindOf : GoodIn wsX8_term (wsV RX8 149 RX7 yX7_kindOf wsX7_kindOf) := goodIn_app (goodIn_of _ (by decide +kernel)) ggX8_term_X7_kindOf
set_option maxRecDepth 20000 in
theorem ggX8_term_X7_firstOf : GoodIn wsX8_term wsX7_firstOf := goodIn_r _ [21, 22, 23, 17, 7, 8, 9, 10, 11, 178, 179, 180, 181, 182] (by decide +kernel) (by decide +kernel)
set_option maxRecDepth 20000 in
theorem gX8_term_X7_firstOf : GoodIn wsX8_term (wsV RX8 150 RX7 yX7_firstOf wsX7_firstOf) := goodIn_app (goodIn_of _ (by decide +kernel)) ggX8_term_X7_firstOf
set_option maxRecDepth 20000 in
theorem ggX8_term_X7_secondOf : GoodIn wsX8_term wsX7_secondOf := goodIn_r _ [27, 28, 23, 17, 7, 8, 9, 10, 11, 178, 179, 180, 181, 182] (by decide +kernel) (by decide +kernel)
set_option maxRecDepth 20000 in
theorem gX8_term_X7_secondOf : GoodIn wsX8_term (wsV RX8 153 RX7 yX7_secondOf wsX7_secondOf) := goodIn_app (goodIn_of _ (by decide +kernel)) ggX8_term_X7_secondOf
set_option maxRecDepth 20000 in
theorem ggX8_term_X7_lengthOf : GoodIn wsX8_term wsX7_lengthOf := goodIn_r _ [32, 33, 17, 7, 8, 9, 10, 11, 178, 179, 180, 181, 182] (by decide +kernel) (by decide +kernel)
set_option maxRecDepth 20000 in
theorem gX8_term_X7_lengthOf : GoodIn wsX8_term (wsV RX8 156 RX7 yX7_lengthOf wsX7_lengthOf) := goodIn_app (goodIn_of _ (by decide +kernel)) ggX8_term_X7_lengthOf
set_option maxRecDepth 20000 in
theorem ggX8_term_X8_ensureExchanged : GoodIn wsX8_term wsX8_ensureExchanged := goodIn_r _ [38, 39, 3, 40, 41, 42, 43, 44, 45, 46, 47, 48, 49, 50, 51, 52, 53, 54, 55, 56, 57, 58, 59, 60, 61, 62, 63, 64, 65, 66, 67, 68, 69, 70, 71, 72, 73, 74, 75, 76, 77, 78, 79, 80, 81, 82, 83, 84, 85, 86, 87, 88, 89, 90, 91, 92, 93, 94, 95, 96, 97, 98, 99, 9, 100, 11, 101, 102, 103, 104, 105, 106, 107, 108, 16, 17, 7, 8, 10, 109, 19, 20, 21, 22, 23, 110, 25, 26, 27, 28, 111, 112, 113, 114, 115, 116, 117, 118, 119, 120, 121, 122, 123, 124, 125, 126, 127, 128, 129, 130, 131, 132, 133, 134, 135, 136, 137, 138, 139, 140, 141, 142, 143, 144, 145, 146, 147, 148, 149, 150, 151, 152, 153, 154, 155, 156, 162, 163, 164, 165, 166, 167, 168, 169, 170, 171, 172, 173, 174, 175, 176, 177, 183, 184, 185, 186, 187, 188, 189, 190, 191, 192, 193, 178, 179, 180, 181, 182, 194] (by decide +kernel) (by decide +kernel)
set_option maxRecDepth 20000 in
theorem gX8_term_X8_ensureExchanged : GoodIn wsX8_term (wsV RX8 159 RX8 yX8_ensureExchanged wsX8_ensureExchanged) := goodIn_app (goodIn_of _ (by decide +kernel)) ggX8_term_X8_ensureExchanged
set_option maxRecDepth 20000 in
theorem ggX8_term_X2_smallestSame : GoodIn wsX8_term wsX2_smallestSame := goodIn_r _ [90, 51, 91, 183, 184, 185, 186, 187, 188] (by decide +kernel) (by decide +kernel)
set_option maxRecDepth 20000 in
theorem gX8_term_X2_smallestSame : GoodIn wsX8_term (wsV RX8 162 RX2 yX2_smallestSame wsX2_smallestSame) := goodIn_app (goodIn_of _ (by decide +kernel)) ggX8_term_X2_smallestSame
set_option maxRecDepth 20000 in
theorem ggX8_term_X3_howManyHave : GoodIn wsX8_term wsX3_howManyHave := goodIn_r _ [161, 58, 73, 78, 189, 190, 191, 192, 193] (by decide +kernel) (by decide +kernel)
set_option maxRecDepth 20000 in
theorem gX8_term_X3_howManyHave : GoodIn wsX8_term (wsV RX8 165 RX3 yX3_howManyHave wsX3_howManyHave) := goodIn_app (goodIn_of _ (by decide +kernel)) ggX8_term_X3_howManyHave
theorem dX8_term_0 : decode cX8_term 0 = .ok (.aload_n 0, 1) := by decide +kernel
theorem dX8_term_1 : decode cX8_term 1 = .ok (.getfield 23, 3) := by decide +kernel
theorem dX8_term_4 : decode cX8_term 4 = .ok (.iload_n 1, 1) := by decide +kernel
theorem dX8_term_5 : decode cX8_term 5 = .ok (.invokevirtual 148, 3) := by decide +kernel
theorem dX8_term_8 : decode cX8_term 8 = .ok (.ifCond .ne 6, 3) := by decide +kernel
theorem dX8_term_11 : decode cX8_term 11 = .ok (.ldc 116, 2) := by decide +kernel
theorem dX8_term_13 : decode cX8_term 13 = .ok (.ireturn, 1) := by decide +kernel
theorem dX8_term_14 : decode cX8_term 14 = .ok (.iload_n 2, 1) := by decide +kernel
theorem dX8_term_15 : decode cX8_term 15 = .ok (.tableswitch 95 0 5 #[37, 46, 55, 64, 73, 86], 37) := by decide +kernel
theorem dX8_term_52 : decode cX8_term 52 = .ok (.aload_n 0, 1) := by decide +kernel
theorem dX8_term_53 : decode cX8_term 53 = .ok (.getfield 23, 3) := by decide +kernel
theorem dX8_term_56 : decode cX8_term 56 = .ok (.iload_n 1, 1) := by decide +kernel
theorem dX8_term_57 : decode cX8_term 57 = .ok (.invokevirtual 149, 3) := by decide +kernel
theorem dX8_term_60 : decode cX8_term 60 = .ok (.ireturn, 1) := by decide +kernel
theorem dX8_term_61 : decode cX8_term 61 = .ok (.aload_n 0, 1) := by decide +kernel
theorem dX8_term_62 : decode cX8_term 62 = .ok (.getfield 23, 3) := by decide +kernel
theorem dX8_term_65 : decode cX8_term 65 = .ok (.iload_n 1, 1) := by decide +kernel
theorem dX8_term_66 : decode cX8_term 66 = .ok (.invokevirtual 150, 3) := by decide +kernel
theorem dX8_term_69 : decode cX8_term 69 = .ok (.ireturn, 1) := by decide +kernel
theorem dX8_term_70 : decode cX8_term 70 = .ok (.aload_n 0, 1) := by decide +kernel
theorem dX8_term_71 : decode cX8_term 71 = .ok (.getfield 23, 3) := by decide +kernel
theorem dX8_term_74 : decode cX8_term 74 = .ok (.iload_n 1, 1) := by decide +kernel
theorem dX8_term_75 : decode cX8_term 75 = .ok (.invokevirtual 153, 3) := by decide +kernel
theorem dX8_term_78 : decode cX8_term 78 = .ok (.ireturn, 1) := by decide +kernel
theorem dX8_term_79 : decode cX8_term 79 = .ok (.aload_n 0, 1) := by decide +kernel
theorem dX8_term_80 : decode cX8_term 80 = .ok (.getfield 23, 3) := by decide +kernel
theorem dX8_term_83 : decode cX8_term 83 = .ok (.iload_n 1, 1) := by decide +kernel
theorem dX8_term_84 : decode cX8_term 84 = .ok (.invokevirtual 156, 3) := by decide +kernel
theorem dX8_term_87 : decode cX8_term 87 = .ok (.ireturn, 1) := by decide +kernel
theorem dX8_term_88 : decode cX8_term 88 = .ok (.aload_n 0, 1) := by decide +kernel
theorem dX8_term_89 : decode cX8_term 89 = .ok (.invokevirtual 159, 3) := by decide +kernel
theorem dX8_term_92 : decode cX8_term 92 = .ok (.aload_n 0, 1) := by decide +kernel
theorem dX8_term_93 : decode cX8_term 93 = .ok (.getfield 42, 3) := by decide +kernel
theorem dX8_term_96 : decode cX8_term 96 = .ok (.iload_n 1, 1) := by decide +kernel
theorem dX8_term_97 : decode cX8_term 97 = .ok (.invokevirtual 162, 3) := by decide +kernel
theorem dX8_term_100 : decode cX8_term 100 = .ok (.ireturn, 1) := by decide +kernel
theorem dX8_term_101 : decode cX8_term 101 = .ok (.aload_n 0, 1) := by decide +kernel
theorem dX8_term_102 : decode cX8_term 102 = .ok (.getfield 33, 3) := by decide +kernel
theorem dX8_term_105 : decode cX8_term 105 = .ok (.iload_n 1, 1) := by decide +kernel
theorem dX8_term_106 : decode cX8_term 106 = .ok (.invokevirtual 165, 3) := by decide +kernel
theorem dX8_term_109 : decode cX8_term 109 = .ok (.ireturn, 1) := by decide +kernel
theorem dX8_term_110 : decode cX8_term 110 = .ok (.ldc 62, 2) := by decide +kernel
theorem dX8_term_112 : decode cX8_term 112 = .ok (.ireturn, 1) := by decide +kernel
set_option maxRecDepth 20000 in
theorem ggX8_exchange_X8_ensureExchanged : GoodIn wsX8_exchange wsX8_ensureExchanged := goodIn_r _ [7, 8, 2, 9, 10, 11, 12, 13, 14, 15, 16, 17, 18, 19, 20, 21, 22, 23, 24, 25, 26, 27, 28, 29, 30, 31, 32, 33, 34, 35, 36, 37, 38, 39, 40, 41, 42, 43, 44, 45, 46, 47, 48, 49, 50, 51, 52, 53, 54, 55, 56, 57, 58, 59, 60, 61, 62, 63, 64, 65, 66, 67, 68, 69, 70, 71, 72, 73, 74, 75, 76, 77, 78, 79, 80, 81, 82, 83, 84, 85, 86, 87, 88, 89, 90, 91, 92, 93, 94, 95, 96, 97, 98, 99, 100, 101, 102, 103, 104, 105, 106, 107, 108, 109, 110, 111, 112, 113, 114, 115, 116, 117, 118, 119, 120, 121, 122, 123, 124, 125, 126, 127, 128, 129, 130, 131, 132, 133, 134, 135, 136, 137, 138, 139, 140, 141, 154, 155, 156, 157, 158, 159, 160, 161, 162, 163, 164, 165, 166, 167, 168, 169, 170, 171, 172, 173, 174, 175, 176, 177, 178, 179, 180, 181, 182, 183, 184, 185, 186] (by decide +kernel) (by decide +kernel)
set_option maxRecDepth 20000 in
theorem gX8_exchange_X8_ensureExchanged : GoodIn wsX8_exchange (wsV RX8 159 RX8 yX8_ensureExchanged wsX8_ensureExchanged) := goodIn_app (goodIn_of _ (by decide +kernel)) ggX8_exchange_X8_ensureExchanged
set_option maxRecDepth 20000 in
theorem ggX8_exchange_X2_hasConflict : GoodIn wsX8_exchange wsX2_hasConflict := goodIn_r _ [145, 15, 170, 171, 172, 173, 174, 175] (by decide +kernel) (by decide +kernel)
set_option maxRecDepth 20000 in
theorem gX8_exchange_X2_hasConflict : GoodIn wsX8_exchange (wsV RX8 168 RX2 yX2_hasConflict wsX2_hasConflict) := goodIn_app (goodIn_of _ (by decide +kernel)) ggX8_exchange_X2_hasConflict
set_option maxRecDepth 20000 in
theorem ggX8_exchange_X2_rounds : GoodIn wsX8_exchange wsX2_rounds := goodIn_r _ [149, 14, 170, 171, 172, 173, 174, 175] (by decide +kernel) (by decide +kernel)
set_option maxRecDepth 20000 in
theorem gX8_exchange_X2_rounds : GoodIn wsX8_exchange (wsV RX8 171 RX2 yX2_rounds wsX2_rounds) := goodIn_app (goodIn_of _ (by decide +kernel)) ggX8_exchange_X2_rounds
set_option maxRecDepth 20000 in
theorem ggX8_exchange_X2_classes : GoodIn wsX8_exchange wsX2_classes := goodIn_r _ [153, 65, 20, 66, 67, 68, 69, 70, 71, 170, 171, 172, 173, 174, 175, 181, 182, 183, 184, 185] (by decide +kernel) (by decide +kernel)
set_option maxRecDepth 20000 in
theorem gX8_exchange_X2_classes : GoodIn wsX8_exchange (wsV RX8 174 RX2 yX2_classes wsX2_classes) := goodIn_app (goodIn_of _ (by decide +kernel)) ggX8_exchange_X2_classes
theorem dX8_exchange_0 : decode cX8_exchange 0 = .ok (.iload_n 1, 1) := by decide +kernel
theorem dX8_exchange_1 : decode cX8_exchange 1 = .ok (.ifCond .lt 8, 3) := by decide +kernel
theorem dX8_exchange_4 : decode cX8_exchange 4 = .ok (.iload_n 1, 1) := by decide +kernel
theorem dX8_exchange_5 : decode cX8_exchange 5 = .ok (.iconst 2, 1) := by decide +kernel
theorem dX8_exchange_6 : decode cX8_exchange 6 = .ok (.if_icmp .le 6, 3) := by decide +kernel
theorem dX8_exchange_9 : decode cX8_exchange 9 = .ok (.ldc 62, 2) := by decide +kernel
theorem dX8_exchange_11 : decode cX8_exchange 11 = .ok (.ireturn, 1) := by decide +kernel
theorem dX8_exchange_12 : decode cX8_exchange 12 = .ok (.aload_n 0, 1) := by decide +kernel
theorem dX8_exchange_13 : decode cX8_exchange 13 = .ok (.invokevirtual 159, 3) := by decide +kernel
theorem dX8_exchange_16 : decode cX8_exchange 16 = .ok (.iload_n 1, 1) := by decide +kernel
theorem dX8_exchange_17 : decode cX8_exchange 17 = .ok (.lookupswitch 51 #[(0, 27), (1, 43)], 27) := by decide +kernel
theorem dX8_exchange_44 : decode cX8_exchange 44 = .ok (.aload_n 0, 1) := by decide +kernel
theorem dX8_exchange_45 : decode cX8_exchange 45 = .ok (.getfield 42, 3) := by decide +kernel
theorem dX8_exchange_48 : decode cX8_exchange 48 = .ok (.invokevirtual 168, 3) := by decide +kernel
theorem dX8_exchange_51 : decode cX8_exchange 51 = .ok (.ifCond .eq 7, 3) := by decide +kernel
theorem dX8_exchange_54 : decode cX8_exchange 54 = .ok (.iconst 1, 1) := by decide +kernel
theorem dX8_exchange_55 : decode cX8_exchange 55 = .ok (.goto 4, 3) := by decide +kernel
theorem dX8_exchange_58 : decode cX8_exchange 58 = .ok (.iconst 0, 1) := by decide +kernel
theorem dX8_exchange_59 : decode cX8_exchange 59 = .ok (.ireturn, 1) := by decide +kernel
theorem dX8_exchange_60 : decode cX8_exchange 60 = .ok (.aload_n 0, 1) := by decide +kernel
theorem dX8_exchange_61 : decode cX8_exchange 61 = .ok (.getfield 42, 3) := by decide +kernel
theorem dX8_exchange_64 : decode cX8_exchange 64 = .ok (.invokevirtual 171, 3) := by decide +kernel
theorem dX8_exchange_67 : decode cX8_exchange 67 = .ok (.ireturn, 1) := by decide +kernel
theorem dX8_exchange_68 : decode cX8_exchange 68 = .ok (.aload_n 0, 1) := by decide +kernel
theorem dX8_exchange_69 : decode cX8_exchange 69 = .ok (.getfield 42, 3) := by decide +kernel
theorem dX8_exchange_72 : decode cX8_exchange 72 = .ok (.invokevirtual 174, 3) := by decide +kernel
theorem dX8_exchange_75 : decode cX8_exchange 75 = .ok (.ireturn, 1) := by decide +kernel
set_option maxRecDepth 20000 in
theorem ggX8_far_X7_has : GoodIn wsX8_far wsX7_has := goodIn_r _ [9, 10, 181, 182, 183, 184, 185] (by decide +kernel) (by decide +kernel)
set_option maxRecDepth 20000 in
theorem gX8_far_X7_has : GoodIn wsX8_far (wsV RX8 148 RX7 yX7_has wsX7_has) := goodIn_app (goodIn_of _ (by decide +kernel)) ggX8_far_X7_has
set_option maxRecDepth 20000 in
theorem ggX8_far_X8_ensureExchanged : GoodIn wsX8_far wsX8_ensureExchanged := goodIn_r _ [15, 16, 3, 17, 18, 19, 20, 21, 22, 23, 24, 25, 26, 27, 28, 29, 30, 31, 32, 33, 34, 35, 36, 37, 38, 39, 40, 41, 42, 43, 44, 45, 46, 47, 48, 49, 50, 51, 52, 53, 54, 55, 56, 57, 58, 59, 60, 61, 62, 63, 64, 65, 66, 67, 68, 69, 70, 71, 72, 73, 74, 75, 76, 8, 77, 10, 78, 79, 80, 81, 82, 83, 84, 85, 86, 87, 6, 7, 9, 88, 89, 90, 91, 92, 93, 94, 95, 96, 97, 98, 99, 100, 101, 102, 103, 104, 105, 106, 107, 108, 109, 110, 111, 112, 113, 114, 115, 116, 117, 118, 119, 120, 121, 122, 123, 124, 125, 126, 127, 128, 129, 130, 131, 132, 133, 134, 135, 136, 137, 138, 139, 140, 141, 142, 143, 144, 165, 166, 167, 168, 169, 170, 171, 172, 173, 174, 175, 176, 177, 178, 179, 180, 186, 187, 188, 189, 190, 191, 192, 193, 194, 195, 196, 181, 182, 183, 184, 185, 197] (by decide +kernel) (by decide +kernel)
set_option maxRecDepth 20000 in
theorem gX8_far_X8_ensureExchanged : GoodIn wsX8_far (wsV RX8 159 RX8 yX8_ensureExchanged wsX8_ensureExchanged) := goodIn_app (goodIn_of _ (by decide +kernel)) ggX8_far_X8_ensureExchanged
set_option maxRecDepth 20000 in
theorem ggX8_far_X2_hasConflict : GoodIn wsX8_far wsX2_hasConflict := goodIn_r _ [148, 23, 186, 187, 188, 189, 190, 191] (by decide +kernel) (by decide +kernel)
set_option maxRecDepth 20000 in
theorem gX8_far_X2_hasConflict : GoodIn wsX8_far (wsV RX8 168 RX2 yX2_hasConflict wsX2_hasConflict) := goodIn_app (goodIn_of _ (by decide +kernel)) ggX8_far_X2_hasConflict
set_option maxRecDepth 20000 in
theorem ggX8_far_X2_distance : GoodIn wsX8_far wsX2_distance := goodIn_r _ [152, 103, 153, 138, 139, 107, 140, 109, 110, 186, 187, 188, 189, 190, 191, 197] (by decide +kernel) (by decide +kernel)
set_option maxRecDepth 20000 in
theorem gX8_far_X2_distance : GoodIn wsX8_far (wsV RX8 177 RX2 yX2_distance wsX2_distance) := goodIn_app (goodIn_of _ (by decide +kernel)) ggX8_far_X2_distance
set_option maxRecDepth 20000 in
theorem ggX8_far_X8_asAnswer : GoodIn wsX8_far wsX8_asAnswer := goodIn_r _ [156, 157, 158, 159, 160, 161, 14, 162, 163, 164] (by decide +kernel) (by decide +kernel)
set_option maxRecDepth 20000 in
theorem gX8_far_X8_asAnswer : GoodIn wsX8_far (va_wsS RX8 181 yX8_asAnswer wsX8_asAnswer) := goodIn_app (goodIn_of _ (by decide +kernel)) ggX8_far_X8_asAnswer
theorem dX8_far_0 : decode cX8_far 0 = .ok (.aload_n 0, 1) := by decide +kernel
theorem dX8_far_1 : decode cX8_far 1 = .ok (.getfield 23, 3) := by decide +kernel
theorem dX8_far_4 : decode cX8_far 4 = .ok (.iload_n 1, 1) := by decide +kernel
theorem dX8_far_5 : decode cX8_far 5 = .ok (.invokevirtual 148, 3) := by decide +kernel
theorem dX8_far_8 : decode cX8_far 8 = .ok (.ifCond .eq 14, 3) := by decide +kernel
theorem dX8_far_11 : decode cX8_far 11 = .ok (.aload_n 0, 1) := by decide +kernel
theorem dX8_far_12 : decode cX8_far 12 = .ok (.getfield 23, 3) := by decide +kernel
theorem dX8_far_15 : decode cX8_far 15 = .ok (.iload_n 2, 1) := by decide +kernel
theorem dX8_far_16 : decode cX8_far 16 = .ok (.invokevirtual 148, 3) := by decide +kernel
theorem dX8_far_19 : decode cX8_far 19 = .ok (.ifCond .ne 6, 3) := by decide +kernel
theorem dX8_far_22 : decode cX8_far 22 = .ok (.ldc 116, 2) := by decide +kernel
theorem dX8_far_24 : decode cX8_far 24 = .ok (.ireturn, 1) := by decide +kernel
theorem dX8_far_25 : decode cX8_far 25 = .ok (.aload_n 0, 1) := by decide +kernel
theorem dX8_far_26 : decode cX8_far 26 = .ok (.invokevirtual 159, 3) := by decide +kernel
theorem dX8_far_29 : decode cX8_far 29 = .ok (.aload_n 0, 1) := by decide +kernel
theorem dX8_far_30 : decode cX8_far 30 = .ok (.getfield 42, 3) := by decide +kernel
theorem dX8_far_33 : decode cX8_far 33 = .ok (.invokevirtual 168, 3) := by decide +kernel
theorem dX8_far_36 : decode cX8_far 36 = .ok (.ifCond .eq 6, 3) := by decide +kernel
theorem dX8_far_39 : decode cX8_far 39 = .ok (.ldc 76, 2) := by decide +kernel
theorem dX8_far_41 : decode cX8_far 41 = .ok (.ireturn, 1) := by decide +kernel
theorem dX8_far_42 : decode cX8_far 42 = .ok (.aload_n 0, 1) := by decide +kernel
theorem dX8_far_43 : decode cX8_far 43 = .ok (.getfield 42, 3) := by decide +kernel
theorem dX8_far_46 : decode cX8_far 46 = .ok (.iload_n 1, 1) := by decide +kernel
theorem dX8_far_47 : decode cX8_far 47 = .ok (.iload_n 2, 1) := by decide +kernel
theorem dX8_far_48 : decode cX8_far 48 = .ok (.invokevirtual 177, 3) := by decide +kernel
theorem dX8_far_51 : decode cX8_far 51 = .ok (.invokestatic 181, 3) := by decide +kernel
theorem dX8_far_54 : decode cX8_far 54 = .ok (.ireturn, 1) := by decide +kernel
set_option maxRecDepth 20000 in
theorem ggX8_holds_X8_isSolvable : GoodIn wsX8_holds wsX8_isSolvable := goodIn_r _ [5, 6, 7, 8, 9, 10, 11, 12, 13, 14, 15, 16, 17, 18, 19, 20, 21, 22, 23, 24, 25, 26, 27, 28, 29, 30, 31, 32, 33, 34, 35, 36, 37, 38, 39, 40, 41, 42, 43, 44, 45, 46, 47, 48, 49, 50, 51, 52, 53, 54, 55, 56, 57, 58, 59, 60, 61, 62, 63, 64, 65, 66, 67, 68, 69, 70, 71, 72, 73, 74, 75, 76, 77, 78, 79, 80, 81, 82, 83, 84, 85, 86, 87, 88, 89, 90, 91, 92, 93, 94, 95, 96, 97, 98, 99, 100, 101, 102, 103, 104, 105, 106, 107, 108, 109, 110, 111, 112, 113, 114, 115, 116, 117, 118, 119, 120, 121, 122, 123, 124, 125, 126, 127, 128, 129, 130, 131, 132, 133, 134, 135, 136, 137, 138, 139, 140, 141, 142, 143, 144, 145, 146, 147, 148, 149, 150, 151, 152, 153, 154, 155, 156, 157, 158, 159, 160, 161, 162, 163, 164, 165, 166, 167, 168, 169, 170, 171, 172, 173, 174, 175, 176, 177, 178, 179, 180, 181, 182, 183, 184, 185, 186, 187, 188, 189, 190, 191, 192, 193, 194, 195, 196, 197, 198, 199, 200, 201, 202, 203, 204, 205, 206, 207, 208, 209, 210, 211, 212, 213, 214, 215, 216, 217, 218, 219, 220, 221, 222, 223, 224, 225, 226, 227, 228, 229, 230, 231, 232, 233, 234, 235, 236, 237, 238, 239, 240, 241, 242, 243, 244, 245, 246, 247, 248] (by decide +kernel) (by decide +kernel)
set_option maxRecDepth 20000 in
theorem gX8_holds_X8_isSolvable : GoodIn wsX8_holds (wsV RX8 185 RX8 yX8_isSolvable wsX8_isSolvable) := goodIn_app (goodIn_of _ (by decide +kernel)) ggX8_holds_X8_isSolvable
theorem dX8_holds_0 : decode cX8_holds 0 = .ok (.aload_n 0, 1) := by decide +kernel
theorem dX8_holds_1 : decode cX8_holds 1 = .ok (.invokevirtual 185, 3) := by decide +kernel
theorem dX8_holds_4 : decode cX8_holds 4 = .ok (.ifCond .eq 7, 3) := by decide +kernel
theorem dX8_holds_7 : decode cX8_holds 7 = .ok (.iconst 1, 1) := by decide +kernel
theorem dX8_holds_8 : decode cX8_holds 8 = .ok (.goto 4, 3) := by decide +kernel
theorem dX8_holds_11 : decode cX8_holds 11 = .ok (.iconst 0, 1) := by decide +kernel
theorem dX8_holds_12 : decode cX8_holds 12 = .ok (.ireturn, 1) := by decide +kernel
set_option maxRecDepth 20000 in
theorem ggX8_apart_X7_has : GoodIn wsX8_apart wsX7_has := goodIn_r _ [10, 11, 238, 239, 240, 241, 242] (by decide +kernel) (by decide +kernel)
set_option maxRecDepth 20000 in
theorem gX8_apart_X7_has : GoodIn wsX8_apart (wsV RX8 148 RX7 yX7_has wsX7_has) := goodIn_app (goodIn_of _ (by decide +kernel)) ggX8_apart_X7_has
set_option maxRecDepth 20000 in
theorem ggX8_apart_X8_isSolvable : GoodIn wsX8_apart wsX8_isSolvable := goodIn_r _ [16, 17, 4, 5, 18, 19, 20, 21, 22, 23, 24, 25, 26, 27, 28, 29, 30, 31, 32, 33, 34, 35, 36, 37, 38, 39, 40, 41, 42, 43, 44, 45, 46, 47, 48, 49, 50, 51, 52, 53, 54, 55, 56, 57, 58, 59, 60, 61, 62, 63, 64, 65, 66, 67, 68, 69, 70, 71, 72, 73, 74, 75, 76, 77, 78, 79, 80, 81, 82, 83, 84, 85, 86, 87, 88, 89, 90, 91, 92, 93, 94, 95, 96, 97, 98, 99, 100, 101, 102, 103, 104, 105, 106, 107, 108, 109, 110, 111, 112, 113, 114, 115, 116, 117, 118, 119, 120, 121, 122, 123, 124, 9, 125, 11, 126, 127, 128, 129, 130, 131, 7, 8, 10, 132, 133, 134, 135, 136, 137, 138, 139, 140, 141, 142, 143, 144, 145, 146, 147, 148, 149, 150, 151, 152, 153, 154, 155, 156, 157, 158, 159, 160, 161, 162, 163, 164, 165, 166, 167, 168, 169, 170, 171, 172, 173, 174, 175, 176, 177, 178, 179, 180, 181, 182, 183, 184, 185, 186, 187, 188, 189, 190, 191, 192, 193, 194, 195, 196, 197, 198, 199, 200, 201, 202, 203, 204, 205, 206, 207, 208, 222, 223, 224, 225, 226, 227, 228, 229, 230, 231, 232, 233, 234, 235, 236, 237, 243, 244, 245, 246, 247, 248, 249, 250, 251, 252, 253, 254, 255, 256, 257, 258, 259, 260, 261, 262, 263, 264, 265, 238, 239, 240, 241, 242] (by decide +kernel) (by decide +kernel)
set_option maxRecDepth 20000 in
theorem gX8_apart_X8_isSolvable : GoodIn wsX8_apart (wsV RX8 185 RX8 yX8_isSolvable wsX8_isSolvable) := goodIn_app (goodIn_of _ (by decide +kernel)) ggX8_apart_X8_isSolvable
set_option maxRecDepth 20000 in
theorem ggX8_apart_X3_all : GoodIn wsX8_apart wsX3_all := goodIn_r _ [23, 24, 243, 244, 245, 246, 247] (by decide +kernel) (by decide +kernel)
set_option maxRecDepth 20000 in
theorem gX8_apart_X3_all : GoodIn wsX8_apart (wsV RX8 188 RX3 yX3_all wsX3_all) := goodIn_app (goodIn_of _ (by decide +kernel)) ggX8_apart_X3_all
set_option maxRecDepth 20000 in
theorem ggX8_apart_X6_load : GoodIn wsX8_apart wsX6_load := goodIn_r _ [29, 30, 31, 32, 33, 34, 35, 36, 37, 38, 39, 28, 40, 41, 42, 43, 44, 45, 46, 47, 48, 49, 50, 51, 52, 53, 54, 55, 56, 22, 57, 24, 58, 59, 60, 61, 62, 63, 64, 65, 66, 67, 68, 69, 70, 71, 72, 73, 74, 75, 76, 77, 78, 79, 80, 81, 82, 83, 84, 85, 86, 87, 88, 89, 90, 91, 92, 93, 94, 95, 96, 97, 98, 99, 100, 101, 102, 103, 104, 105, 106, 107, 108, 109, 110, 111, 112, 113, 114, 115, 116, 117, 118, 119, 120, 121, 122, 123, 124, 9, 125, 11, 126, 127, 128, 129, 130, 131, 7, 8, 10, 132, 133, 134, 135, 136, 137, 138, 139, 140, 141, 142, 143, 144, 145, 146, 147, 148, 149, 150, 151, 152, 248, 249, 250, 251, 252, 253, 254, 255, 256, 257, 258, 243, 244, 245, 246, 247, 259, 260, 261, 262, 263, 264, 265, 238, 239, 240, 241, 242] (by decide +kernel) (by decide +kernel)
set_option maxRecDepth 20000 in
theorem gX8_apart_X6_load : GoodIn wsX8_apart (wsV RX8 191 RX6 yX6_load wsX6_load) := goodIn_app (goodIn_of _ (by decide +kernel)) ggX8_apart_X6_load
set_option maxRecDepth 20000 in
theorem ggX8_apart_X6_aimAt : GoodIn wsX8_apart wsX6_aimAt := goodIn_r _ [40, 41, 42, 248, 249, 250, 251, 252, 253, 254, 255, 256, 257] (by decide +kernel) (by decide +kernel)
set_option maxRecDepth 20000 in
theorem gX8_apart_X6_aimAt : GoodIn wsX8_apart (wsV RX8 194 RX6 yX6_aimAt wsX6_aimAt) := goodIn_app (goodIn_of _ (by decide +kernel)) ggX8_apart_X6_aimAt
set_option maxRecDepth 20000 in
theorem ggX8_apart_X6_hasSolution : GoodIn wsX8_apart wsX6_hasSolution := goodIn_r _ [156, 31, 32, 157, 158, 159, 28, 160, 33, 161, 36, 162, 163, 164, 165, 166, 42, 41, 167, 168, 169, 170, 171, 172, 173, 46, 174, 48, 49, 121, 91, 92, 93, 175, 176, 177, 178, 30, 179, 180, 181, 101, 182, 103, 104, 110, 111, 105, 136, 137, 183, 184, 185, 186, 187, 188, 189, 190, 191, 192, 193, 194, 195, 196, 197, 198, 199, 200, 201, 202, 203, 204, 205, 206, 207, 208, 248, 249, 250, 251, 252, 253, 254, 255, 256, 257, 258, 259, 260, 261, 262, 263, 264, 265] (by decide +kernel) (by decide +kernel)
set_option maxRecDepth 20000 in
theorem gX8_apart_X6_hasSolution : GoodIn wsX8_apart (wsV RX8 197 RX6 yX6_hasSolution wsX6_hasSolution) := goodIn_app (goodIn_of _ (by decide +kernel)) ggX8_apart_X6_hasSolution
set_option maxRecDepth 20000 in
theorem ggX8_apart_X6_greatest : GoodIn wsX8_apart wsX6_greatest := goodIn_r _ [170, 161, 41, 42, 171, 172, 173, 46, 174, 48, 49, 248, 249, 250, 251, 252, 253, 254, 255, 256, 257, 258] (by decide +kernel) (by decide +kernel)
set_option maxRecDepth 20000 in
theorem gX8_apart_X6_greatest : GoodIn wsX8_apart (wsV RX8 200 RX6 yX6_greatest wsX6_greatest) := goodIn_app (goodIn_of _ (by decide +kernel)) ggX8_apart_X6_greatest
set_option maxRecDepth 20000 in
theorem ggX8_apart_X8_asAnswer : GoodIn wsX8_apart wsX8_asAnswer := goodIn_r _ [213, 214, 215, 216, 217, 218, 15, 219, 220, 221] (by decide +kernel) (by decide +kernel)
set_option maxRecDepth 20000 in
theorem gX8_apart_X8_asAnswer : GoodIn wsX8_apart (va_wsS RX8 181 yX8_asAnswer wsX8_asAnswer) := goodIn_app (goodIn_of _ (by decide +kernel)) ggX8_apart_X8_asAnswer
theorem dX8_apart_0 : decode cX8_apart 0 = .ok (.aload_n 0, 1) := by decide +kernel
theorem dX8_apart_1 : decode cX8_apart 1 = .ok (.getfield 23, 3) := by decide +kernel
theorem dX8_apart_4 : decode cX8_apart 4 = .ok (.iload_n 1, 1) := by decide +kernel
theorem dX8_apart_5 : decode cX8_apart 5 = .ok (.invokevirtual 148, 3) := by decide +kernel
theorem dX8_apart_8 : decode cX8_apart 8 = .ok (.ifCond .eq 14, 3) := by decide +kernel
theorem dX8_apart_11 : decode cX8_apart 11 = .ok (.aload_n 0, 1) := by decide +kernel
theorem dX8_apart_12 : decode cX8_apart 12 = .ok (.getfield 23, 3) := by decide +kernel
theorem dX8_apart_15 : decode cX8_apart 15 = .ok (.iload_n 2, 1) := by decide +kernel
theorem dX8_apart_16 : decode cX8_apart 16 = .ok (.invokevirtual 148, 3) := by decide +kernel
theorem dX8_apart_19 : decode cX8_apart 19 = .ok (.ifCond .ne 6, 3) := by decide +kernel
theorem dX8_apart_22 : decode cX8_apart 22 = .ok (.ldc 116, 2) := by decide +kernel
theorem dX8_apart_24 : decode cX8_apart 24 = .ok (.ireturn, 1) := by decide +kernel
theorem dX8_apart_25 : decode cX8_apart 25 = .ok (.aload_n 0, 1) := by decide +kernel
theorem dX8_apart_26 : decode cX8_apart 26 = .ok (.invokevirtual 185, 3) := by decide +kernel
theorem dX8_apart_29 : decode cX8_apart 29 = .ok (.ifCond .ne 6, 3) := by decide +kernel
theorem dX8_apart_32 : decode cX8_apart 32 = .ok (.ldc 76, 2) := by decide +kernel
theorem dX8_apart_34 : decode cX8_apart 34 = .ok (.ireturn, 1) := by decide +kernel
theorem dX8_apart_35 : decode cX8_apart 35 = .ok (.aload_n 0, 1) := by decide +kernel
theorem dX8_apart_36 : decode cX8_apart 36 = .ok (.getfield 49, 3) := by decide +kernel
theorem dX8_apart_39 : decode cX8_apart 39 = .ok (.aload_n 0, 1) := by decide +kernel
theorem dX8_apart_40 : decode cX8_apart 40 = .ok (.getfield 33, 3) := by decide +kernel
theorem dX8_apart_43 : decode cX8_apart 43 = .ok (.invokevirtual 188, 3) := by decide +kernel
theorem dX8_apart_46 : decode cX8_apart 46 = .ok (.invokevirtual 191, 3) := by decide +kernel
theorem dX8_apart_49 : decode cX8_apart 49 = .ok (.aload_n 0, 1) := by decide +kernel
theorem dX8_apart_50 : decode cX8_apart 50 = .ok (.getfield 49, 3) := by decide +kernel
theorem dX8_apart_53 : decode cX8_apart 53 = .ok (.iload_n 1, 1) := by decide +kernel
theorem dX8_apart_54 : decode cX8_apart 54 = .ok (.iload_n 2, 1) := by decide +kernel
theorem dX8_apart_55 : decode cX8_apart 55 = .ok (.invokevirtual 194, 3) := by decide +kernel
theorem dX8_apart_58 : decode cX8_apart 58 = .ok (.aload_n 0, 1) := by decide +kernel
theorem dX8_apart_59 : decode cX8_apart 59 = .ok (.getfield 49, 3) := by decide +kernel
theorem dX8_apart_62 : decode cX8_apart 62 = .ok (.invokevirtual 197, 3) := by decide +kernel
theorem dX8_apart_65 : decode cX8_apart 65 = .ok (.ifCond .eq 16, 3) := by decide +kernel
theorem dX8_apart_68 : decode cX8_apart 68 = .ok (.aload_n 0, 1) := by decide +kernel
theorem dX8_apart_69 : decode cX8_apart 69 = .ok (.getfield 49, 3) := by decide +kernel
theorem dX8_apart_72 : decode cX8_apart 72 = .ok (.invokevirtual 200, 3) := by decide +kernel
theorem dX8_apart_75 : decode cX8_apart 75 = .ok (.invokestatic 181, 3) := by decide +kernel
theorem dX8_apart_78 : decode cX8_apart 78 = .ok (.goto 5, 3) := by decide +kernel
theorem dX8_apart_81 : decode cX8_apart 81 = .ok (.ldc 76, 2) := by decide +kernel
theorem dX8_apart_83 : decode cX8_apart 83 = .ok (.ireturn, 1) := by decide +kernel
set_option maxRecDepth 20000 in
theorem ggX8_implied_X7_has : GoodIn wsX8_implied wsX7_has := goodIn_r _ [11, 12, 229, 230, 231, 232, 233] (by decide +kernel) (by decide +kernel)
set_option maxRecDepth 20000 in
theorem gX8_implied_X7_has : GoodIn wsX8_implied (wsV RX8 148 RX7 yX7_has wsX7_has) := goodIn_app (goodIn_of _ (by decide +kernel)) ggX8_implied_X7_has
set_option maxRecDepth 20000 in
theorem ggX8_implied_X8_isSolvable : GoodIn wsX8_implied wsX8_isSolvable := goodIn_r _ [17, 18, 5, 6, 19, 20, 21, 22, 23, 24, 25, 26, 27, 28, 29, 30, 31, 32, 33, 34, 35, 36, 37, 38, 39, 40, 41, 42, 43, 44, 45, 46, 47, 48, 49, 50, 51, 52, 53, 54, 55, 56, 57, 58, 59, 60, 61, 62, 63, 64, 65, 66, 67, 68, 69, 70, 71, 72, 73, 74, 75, 76, 77, 78, 79, 80, 81, 82, 83, 84, 85, 86, 87, 88, 89, 90, 91, 92, 93, 94, 95, 96, 97, 98, 99, 100, 101, 102, 103, 104, 105, 106, 107, 108, 109, 110, 111, 112, 113, 114, 115, 116, 117, 118, 119, 120, 121, 122, 123, 124, 125, 10, 126, 12, 127, 128, 129, 130, 131, 132, 8, 9, 11, 133, 134, 135, 136, 137, 138, 139, 140, 141, 142, 143, 144, 145, 146, 147, 148, 149, 150, 151, 152, 153, 154, 155, 156, 157, 158, 159, 160, 161, 162, 163, 164, 165, 166, 167, 168, 169, 170, 171, 172, 173, 174, 175, 176, 177, 178, 179, 180, 181, 182, 183, 184, 185, 186, 187, 188, 189, 190, 191, 192, 193, 194, 195, 196, 197, 198, 199, 200, 201, 202, 203, 204, 205, 206, 207, 208, 209, 213, 214, 215, 216, 217, 218, 219, 220, 221, 222, 223, 224, 225, 226, 227, 228, 234, 235, 236, 237, 238, 239, 240, 241, 242, 243, 244, 245, 246, 247, 248, 249, 250, 251, 252, 253, 254, 255, 256, 229, 230, 231, 232, 233] (by decide +kernel) (by decide +kernel)
set_option maxRecDepth 20000 in
theorem gX8_implied_X8_isSolvable : GoodIn wsX8_implied (wsV RX8 185 RX8 yX8_isSolvable wsX8_isSolvable) := goodIn_app (goodIn_of _ (by decide +kernel)) ggX8_implied_X8_isSolvable
set_option maxRecDepth 20000 in
theorem ggX8_implied_X3_all : GoodIn wsX8_implied wsX3_all := goodIn_r _ [24, 25, 234, 235, 236, 237, 238] (by decide +kernel) (by decide +kernel)
set_option maxRecDepth 20000 in
theorem gX8_implied_X3_all : GoodIn wsX8_implied (wsV RX8 188 RX3 yX3_all wsX3_all) := goodIn_app (goodIn_of _ (by decide +kernel)) ggX8_implied_X3_all
set_option maxRecDepth 20000 in
theorem ggX8_implied_X6_load : GoodIn wsX8_implied wsX6_load := goodIn_r _ [30, 31, 32, 33, 34, 35, 36, 37, 38, 39, 40, 29, 41, 42, 43, 44, 45, 46, 47, 48, 49, 50, 51, 52, 53, 54, 55, 56, 57, 23, 58, 25, 59, 60, 61, 62, 63, 64, 65, 66, 67, 68, 69, 70, 71, 72, 73, 74, 75, 76, 77, 78, 79, 80, 81, 82, 83, 84, 85, 86, 87, 88, 89, 90, 91, 92, 93, 94, 95, 96, 97, 98, 99, 100, 101, 102, 103, 104, 105, 106, 107, 108, 109, 110, 111, 112, 113, 114, 115, 116, 117, 118, 119, 120, 121, 122, 123, 124, 125, 10, 126, 12, 127, 128, 129, 130, 131, 132, 8, 9, 11, 133, 134, 135, 136, 137, 138, 139, 140, 141, 142, 143, 144, 145, 146, 147, 148, 149, 150, 151, 152, 153, 239, 240, 241, 242, 243, 244, 245, 246, 247, 248, 249, 234, 235, 236, 237, 238, 250, 251, 252, 253, 254, 255, 256, 229, 230, 231, 232, 233] (by decide +kernel) (by decide +kernel)
set_option maxRecDepth 20000 in
theorem gX8_implied_X6_load : GoodIn wsX8_implied (wsV RX8 191 RX6 yX6_load wsX6_load) := goodIn_app (goodIn_of _ (by decide +kernel)) ggX8_implied_X6_load
set_option maxRecDepth 20000 in
theorem ggX8_implied_X6_demandDifferent : GoodIn wsX8_implied wsX6_demandDifferent := goodIn_r _ [98, 31, 37, 99, 100, 101, 102, 103, 104, 105, 106, 107, 108, 109, 110, 111, 112, 239, 240, 241, 242, 243, 244, 245, 246, 247, 248, 250, 251, 252, 253, 254, 255, 256] (by decide +kernel) (by decide +kernel)
set_option maxRecDepth 20000 in
theorem gX8_implied_X6_demandDifferent : GoodIn wsX8_implied (wsV RX8 204 RX6 yX6_demandDifferent wsX6_demandDifferent) := goodIn_app (goodIn_of _ (by decide +kernel)) ggX8_implied_X6_demandDifferent
set_option maxRecDepth 20000 in
theorem ggX8_implied_X6_demandEqual : GoodIn wsX8_implied wsX6_demandEqual := goodIn_r _ [86, 34, 32, 87, 88, 89, 47, 90, 91, 92, 93, 94, 49, 50, 239, 240, 241, 242, 243, 244, 245, 246, 247, 248, 249] (by decide +kernel) (by decide +kernel)
set_option maxRecDepth 20000 in
theorem gX8_implied_X6_demandEqual : GoodIn wsX8_implied (wsV RX8 207 RX6 yX6_demandEqual wsX6_demandEqual) := goodIn_app (goodIn_of _ (by decide +kernel)) ggX8_implied_X6_demandEqual
set_option maxRecDepth 20000 in
theorem ggX8_implied_X6_demandAtMost : GoodIn wsX8_implied wsX6_demandAtMost := goodIn_r _ [121, 34, 32, 122, 92, 93, 47, 94, 49, 50, 239, 240, 241, 242, 243, 244, 245, 246, 247, 248, 249] (by decide +kernel) (by decide +kernel)
set_option maxRecDepth 20000 in
theorem gX8_implied_X6_demandAtMost : GoodIn wsX8_implied (wsV RX8 210 RX6 yX6_demandAtMost wsX6_demandAtMost) := goodIn_app (goodIn_of _ (by decide +kernel)) ggX8_implied_X6_demandAtMost
set_option maxRecDepth 20000 in
theorem ggX8_implied_X6_hasSolution : GoodIn wsX8_implied wsX6_hasSolution := goodIn_r _ [157, 32, 33, 158, 159, 160, 29, 161, 34, 162, 37, 163, 164, 165, 166, 167, 43, 42, 168, 169, 170, 171, 172, 173, 174, 47, 175, 49, 50, 122, 92, 93, 94, 176, 177, 178, 179, 31, 180, 181, 182, 102, 183, 104, 105, 111, 112, 106, 137, 138, 184, 185, 186, 187, 188, 189, 190, 191, 192, 193, 194, 195, 196, 197, 198, 199, 200, 201, 202, 203, 204, 205, 206, 207, 208, 209, 239, 240, 241, 242, 243, 244, 245, 246, 247, 248, 249, 250, 251, 252, 253, 254, 255, 256] (by decide +kernel) (by decide +kernel)
set_option maxRecDepth 20000 in
theorem gX8_implied_X6_hasSolution : GoodIn wsX8_implied (wsV RX8 197 RX6 yX6_hasSolution wsX6_hasSolution) := goodIn_app (goodIn_of _ (by decide +kernel)) ggX8_implied_X6_hasSolution
theorem dX8_implied_0 : decode cX8_implied 0 = .ok (.aload_n 0, 1) := by decide +kernel
theorem dX8_implied_1 : decode cX8_implied 1 = .ok (.getfield 23, 3) := by decide +kernel
theorem dX8_implied_4 : decode cX8_implied 4 = .ok (.iload_n 1, 1) := by decide +kernel
theorem dX8_implied_5 : decode cX8_implied 5 = .ok (.invokevirtual 148, 3) := by decide +kernel
theorem dX8_implied_8 : decode cX8_implied 8 = .ok (.ifCond .eq 14, 3) := by decide +kernel
theorem dX8_implied_11 : decode cX8_implied 11 = .ok (.aload_n 0, 1) := by decide +kernel
theorem dX8_implied_12 : decode cX8_implied 12 = .ok (.getfield 23, 3) := by decide +kernel
theorem dX8_implied_15 : decode cX8_implied 15 = .ok (.iload_n 2, 1) := by decide +kernel
theorem dX8_implied_16 : decode cX8_implied 16 = .ok (.invokevirtual 148, 3) := by decide +kernel
theorem dX8_implied_19 : decode cX8_implied 19 = .ok (.ifCond .ne 6, 3) := by decide +kernel
theorem dX8_implied_22 : decode cX8_implied 22 = .ok (.ldc 116, 2) := by decide +kernel
theorem dX8_implied_24 : decode cX8_implied 24 = .ok (.ireturn, 1) := by decide +kernel
theorem dX8_implied_25 : decode cX8_implied 25 = .ok (.iload_n 3, 1) := by decide +kernel
theorem dX8_implied_26 : decode cX8_implied 26 = .ok (.ifCond .lt 8, 3) := by decide +kernel
theorem dX8_implied_29 : decode cX8_implied 29 = .ok (.iload_n 3, 1) := by decide +kernel
theorem dX8_implied_30 : decode cX8_implied 30 = .ok (.iconst 2, 1) := by decide +kernel
theorem dX8_implied_31 : decode cX8_implied 31 = .ok (.if_icmp .le 6, 3) := by decide +kernel
theorem dX8_implied_34 : decode cX8_implied 34 = .ok (.ldc 62, 2) := by decide +kernel
theorem dX8_implied_36 : decode cX8_implied 36 = .ok (.ireturn, 1) := by decide +kernel
theorem dX8_implied_37 : decode cX8_implied 37 = .ok (.aload_n 0, 1) := by decide +kernel
theorem dX8_implied_38 : decode cX8_implied 38 = .ok (.invokevirtual 185, 3) := by decide +kernel
theorem dX8_implied_41 : decode cX8_implied 41 = .ok (.ifCond .ne 6, 3) := by decide +kernel
theorem dX8_implied_44 : decode cX8_implied 44 = .ok (.ldc 76, 2) := by decide +kernel
theorem dX8_implied_46 : decode cX8_implied 46 = .ok (.ireturn, 1) := by decide +kernel
theorem dX8_implied_47 : decode cX8_implied 47 = .ok (.aload_n 0, 1) := by decide +kernel
theorem dX8_implied_48 : decode cX8_implied 48 = .ok (.getfield 49, 3) := by decide +kernel
theorem dX8_implied_51 : decode cX8_implied 51 = .ok (.aload_n 0, 1) := by decide +kernel
theorem dX8_implied_52 : decode cX8_implied 52 = .ok (.getfield 33, 3) := by decide +kernel
theorem dX8_implied_55 : decode cX8_implied 55 = .ok (.invokevirtual 188, 3) := by decide +kernel
theorem dX8_implied_58 : decode cX8_implied 58 = .ok (.invokevirtual 191, 3) := by decide +kernel
theorem dX8_implied_61 : decode cX8_implied 61 = .ok (.iload_n 3, 1) := by decide +kernel
theorem dX8_implied_62 : decode cX8_implied 62 = .ok (.ifCond .ne 15, 3) := by decide +kernel
theorem dX8_implied_65 : decode cX8_implied 65 = .ok (.aload_n 0, 1) := by decide +kernel
theorem dX8_implied_66 : decode cX8_implied 66 = .ok (.getfield 49, 3) := by decide +kernel
theorem dX8_implied_69 : decode cX8_implied 69 = .ok (.iload_n 1, 1) := by decide +kernel
theorem dX8_implied_70 : decode cX8_implied 70 = .ok (.iload_n 2, 1) := by decide +kernel
theorem dX8_implied_71 : decode cX8_implied 71 = .ok (.invokevirtual 204, 3) := by decide +kernel
theorem dX8_implied_74 : decode cX8_implied 74 = .ok (.goto 30, 3) := by decide +kernel
theorem dX8_implied_77 : decode cX8_implied 77 = .ok (.iload_n 3, 1) := by decide +kernel
theorem dX8_implied_78 : decode cX8_implied 78 = .ok (.iconst 1, 1) := by decide +kernel
theorem dX8_implied_79 : decode cX8_implied 79 = .ok (.if_icmp .ne 15, 3) := by decide +kernel
theorem dX8_implied_82 : decode cX8_implied 82 = .ok (.aload_n 0, 1) := by decide +kernel
theorem dX8_implied_83 : decode cX8_implied 83 = .ok (.getfield 49, 3) := by decide +kernel
theorem dX8_implied_86 : decode cX8_implied 86 = .ok (.iload_n 1, 1) := by decide +kernel
theorem dX8_implied_87 : decode cX8_implied 87 = .ok (.iload_n 2, 1) := by decide +kernel
theorem dX8_implied_88 : decode cX8_implied 88 = .ok (.invokevirtual 207, 3) := by decide +kernel
theorem dX8_implied_91 : decode cX8_implied 91 = .ok (.goto 13, 3) := by decide +kernel
theorem dX8_implied_94 : decode cX8_implied 94 = .ok (.aload_n 0, 1) := by decide +kernel
theorem dX8_implied_95 : decode cX8_implied 95 = .ok (.getfield 49, 3) := by decide +kernel
theorem dX8_implied_98 : decode cX8_implied 98 = .ok (.iload_n 2, 1) := by decide +kernel
theorem dX8_implied_99 : decode cX8_implied 99 = .ok (.iload_n 1, 1) := by decide +kernel
theorem dX8_implied_100 : decode cX8_implied 100 = .ok (.iconst (-1), 1) := by decide +kernel
theorem dX8_implied_101 : decode cX8_implied 101 = .ok (.invokevirtual 210, 3) := by decide +kernel
theorem dX8_implied_104 : decode cX8_implied 104 = .ok (.aload_n 0, 1) := by decide +kernel
theorem dX8_implied_105 : decode cX8_implied 105 = .ok (.getfield 49, 3) := by decide +kernel
theorem dX8_implied_108 : decode cX8_implied 108 = .ok (.invokevirtual 197, 3) := by decide +kernel
theorem dX8_implied_111 : decode cX8_implied 111 = .ok (.ifCond .eq 7, 3) := by decide +kernel
theorem dX8_implied_114 : decode cX8_implied 114 = .ok (.iconst 0, 1) := by decide +kernel
theorem dX8_implied_115 : decode cX8_implied 115 = .ok (.goto 4, 3) := by decide +kernel
theorem dX8_implied_118 : decode cX8_implied 118 = .ok (.iconst 1, 1) := by decide +kernel
theorem dX8_implied_119 : decode cX8_implied 119 = .ok (.ireturn, 1) := by decide +kernel
set_option maxRecDepth 20000 in
theorem ggX8_why_X8_isSolvable : GoodIn wsX8_why wsX8_isSolvable := goodIn_r _ [8, 9, 3, 2, 10, 11, 12, 13, 14, 15, 16, 17, 18, 19, 20, 21, 22, 23, 24, 25, 26, 27, 28, 29, 30, 31, 32, 33, 34, 35, 36, 37, 38, 39, 40, 41, 42, 43, 44, 45, 46, 47, 48, 49, 50, 51, 52, 53, 54, 55, 56, 57, 58, 59, 60, 61, 62, 63, 64, 65, 66, 67, 68, 69, 70, 71, 72, 73, 74, 75, 76, 77, 78, 79, 80, 81, 82, 83, 84, 85, 86, 87, 88, 89, 90, 91, 92, 93, 94, 95, 96, 97, 98, 99, 100, 101, 102, 103, 104, 105, 106, 107, 108, 109, 110, 111, 112, 113, 114, 115, 116, 117, 118, 119, 120, 121, 122, 123, 124, 125, 126, 127, 128, 129, 130, 131, 132, 133, 134, 135, 136, 137, 138, 139, 140, 141, 142, 143, 144, 145, 146, 147, 148, 149, 150, 151, 152, 153, 154, 155, 156, 157, 158, 159, 160, 161, 162, 163, 164, 165, 166, 167, 168, 169, 170, 171, 172, 173, 174, 175, 176, 177, 178, 179, 180, 181, 182, 183, 184, 185, 186, 187, 188, 189, 190, 191, 192, 193, 194, 195, 196, 197, 198, 199, 200, 201, 202, 203, 204, 205, 207, 208, 209, 210, 211, 212, 213, 214, 215, 216, 217, 218, 219, 220, 221, 222, 223, 224, 225, 226, 227, 228, 229, 230, 231, 232, 233, 234, 235, 236, 237, 238, 239, 240, 241, 242, 243, 244, 245, 246, 247, 248, 249, 250] (by decide +kernel) (by decide +kernel)
set_option maxRecDepth 20000 in
theorem gX8_why_X8_isSolvable : GoodIn wsX8_why (wsV RX8 185 RX8 yX8_isSolvable wsX8_isSolvable) := goodIn_app (goodIn_of _ (by decide +kernel)) ggX8_why_X8_isSolvable
set_option maxRecDepth 20000 in
theorem ggX8_why_X3_all : GoodIn wsX8_why wsX3_all := goodIn_r _ [15, 16, 223, 224, 225, 226, 227] (by decide +kernel) (by decide +kernel)
set_option maxRecDepth 20000 in
theorem gX8_why_X3_all : GoodIn wsX8_why (wsV RX8 188 RX3 yX3_all wsX3_all) := goodIn_app (goodIn_of _ (by decide +kernel)) ggX8_why_X3_all
set_option maxRecDepth 20000 in
theorem ggX8_why_X3_size : GoodIn wsX8_why wsX3_size := goodIn_r _ [49, 16, 223, 224, 225, 226, 227] (by decide +kernel) (by decide +kernel)
set_option maxRecDepth 20000 in
theorem gX8_why_X3_size : GoodIn wsX8_why (wsV RX8 77 RX3 yX3_size wsX3_size) := goodIn_app (goodIn_of _ (by decide +kernel)) ggX8_why_X3_size
set_option maxRecDepth 20000 in
theorem ggX8_why_X6_load : GoodIn wsX8_why wsX6_load := goodIn_r _ [21, 22, 23, 24, 25, 26, 27, 28, 29, 30, 31, 20, 32, 33, 34, 35, 36, 37, 38, 39, 40, 41, 42, 43, 44, 45, 46, 47, 48, 14, 49, 16, 50, 51, 52, 53, 54, 55, 56, 57, 58, 59, 60, 61, 62, 63, 64, 65, 66, 67, 68, 69, 70, 71, 72, 73, 74, 75, 76, 77, 78, 79, 80, 81, 82, 83, 84, 85, 86, 87, 88, 89, 90, 91, 92, 93, 94, 95, 96, 97, 98, 99, 100, 101, 102, 103, 104, 105, 106, 107, 108, 109, 110, 111, 112, 113, 114, 115, 116, 117, 118, 119, 120, 121, 122, 123, 124, 125, 126, 127, 128, 129, 130, 131, 132, 133, 134, 135, 136, 137, 138, 139, 140, 141, 142, 143, 144, 145, 146, 147, 148, 149, 228, 229, 230, 231, 232, 233, 234, 235, 236, 237, 238, 223, 224, 225, 226, 227, 239, 240, 241, 242, 243, 244, 245, 246, 247, 248, 249, 250] (by decide +kernel) (by decide +kernel)
set_option maxRecDepth 20000 in
theorem gX8_why_X6_load : GoodIn wsX8_why (wsV RX8 191 RX6 yX6_load wsX6_load) := goodIn_app (goodIn_of _ (by decide +kernel)) ggX8_why_X6_load
set_option maxRecDepth 20000 in
theorem ggX8_why_X6_hasSolution : GoodIn wsX8_why wsX6_hasSolution := goodIn_r _ [153, 23, 24, 154, 155, 156, 20, 157, 25, 158, 28, 159, 160, 161, 162, 163, 34, 33, 164, 165, 166, 167, 168, 169, 170, 38, 171, 40, 41, 113, 83, 84, 85, 172, 173, 174, 175, 22, 176, 177, 178, 93, 179, 95, 96, 102, 103, 97, 133, 134, 180, 181, 182, 183, 184, 185, 186, 187, 188, 189, 190, 191, 192, 193, 194, 195, 196, 197, 198, 199, 200, 201, 202, 203, 204, 205, 228, 229, 230, 231, 232, 233, 234, 235, 236, 237, 238, 239, 240, 241, 242, 243, 244, 245] (by decide +kernel) (by decide +kernel)
set_option maxRecDepth 20000 in
theorem gX8_why_X6_hasSolution : GoodIn wsX8_why (wsV RX8 197 RX6 yX6_hasSolution wsX6_hasSolution) := goodIn_app (goodIn_of _ (by decide +kernel)) ggX8_why_X6_hasSolution
theorem dX8_why_0 : decode cX8_why 0 = .ok (.aload_n 0, 1) := by decide +kernel
theorem dX8_why_1 : decode cX8_why 1 = .ok (.invokevirtual 185, 3) := by decide +kernel
theorem dX8_why_4 : decode cX8_why 4 = .ok (.ifCond .eq 6, 3) := by decide +kernel
theorem dX8_why_7 : decode cX8_why 7 = .ok (.ldc 76, 2) := by decide +kernel
theorem dX8_why_9 : decode cX8_why 9 = .ok (.ireturn, 1) := by decide +kernel
theorem dX8_why_10 : decode cX8_why 10 = .ok (.aload_n 0, 1) := by decide +kernel
theorem dX8_why_11 : decode cX8_why 11 = .ok (.getfield 33, 3) := by decide +kernel
theorem dX8_why_14 : decode cX8_why 14 = .ok (.invokevirtual 188, 3) := by decide +kernel
theorem dX8_why_17 : decode cX8_why 17 = .ok (.istore_n 1, 1) := by decide +kernel
theorem dX8_why_18 : decode cX8_why 18 = .ok (.aload_n 0, 1) := by decide +kernel
theorem dX8_why_19 : decode cX8_why 19 = .ok (.getfield 33, 3) := by decide +kernel
theorem dX8_why_22 : decode cX8_why 22 = .ok (.invokevirtual 77, 3) := by decide +kernel
theorem dX8_why_25 : decode cX8_why 25 = .ok (.iconst 1, 1) := by decide +kernel
theorem dX8_why_26 : decode cX8_why 26 = .ok (.isub, 1) := by decide +kernel
theorem dX8_why_27 : decode cX8_why 27 = .ok (.istore_n 2, 1) := by decide +kernel
theorem dX8_why_28 : decode cX8_why 28 = .ok (.iload_n 2, 1) := by decide +kernel
theorem dX8_why_29 : decode cX8_why 29 = .ok (.ifCond .lt 37, 3) := by decide +kernel
theorem dX8_why_32 : decode cX8_why 32 = .ok (.iload_n 1, 1) := by decide +kernel
theorem dX8_why_33 : decode cX8_why 33 = .ok (.iconst 1, 1) := by decide +kernel
theorem dX8_why_34 : decode cX8_why 34 = .ok (.iload_n 2, 1) := by decide +kernel
theorem dX8_why_35 : decode cX8_why 35 = .ok (.ishl, 1) := by decide +kernel
theorem dX8_why_36 : decode cX8_why 36 = .ok (.iconst (-1), 1) := by decide +kernel
theorem dX8_why_37 : decode cX8_why 37 = .ok (.ixor, 1) := by decide +kernel
theorem dX8_why_38 : decode cX8_why 38 = .ok (.iand, 1) := by decide +kernel
theorem dX8_why_39 : decode cX8_why 39 = .ok (.istore_n 3, 1) := by decide +kernel
theorem dX8_why_40 : decode cX8_why 40 = .ok (.aload_n 0, 1) := by decide +kernel
theorem dX8_why_41 : decode cX8_why 41 = .ok (.getfield 49, 3) := by decide +kernel
theorem dX8_why_44 : decode cX8_why 44 = .ok (.iload_n 3, 1) := by decide +kernel
theorem dX8_why_45 : decode cX8_why 45 = .ok (.invokevirtual 191, 3) := by decide +kernel
theorem dX8_why_48 : decode cX8_why 48 = .ok (.aload_n 0, 1) := by decide +kernel
theorem dX8_why_49 : decode cX8_why 49 = .ok (.getfield 49, 3) := by decide +kernel
theorem dX8_why_52 : decode cX8_why 52 = .ok (.invokevirtual 197, 3) := by decide +kernel
theorem dX8_why_55 : decode cX8_why 55 = .ok (.ifCond .ne 5, 3) := by decide +kernel
theorem dX8_why_58 : decode cX8_why 58 = .ok (.iload_n 3, 1) := by decide +kernel
theorem dX8_why_59 : decode cX8_why 59 = .ok (.istore_n 1, 1) := by decide +kernel
theorem dX8_why_60 : decode cX8_why 60 = .ok (.iinc 2 (-1), 3) := by decide +kernel
theorem dX8_why_63 : decode cX8_why 63 = .ok (.goto (-35), 3) := by decide +kernel
theorem dX8_why_66 : decode cX8_why 66 = .ok (.iload_n 1, 1) := by decide +kernel
theorem dX8_why_67 : decode cX8_why 67 = .ok (.ireturn, 1) := by decide +kernel
set_option maxRecDepth 20000 in
theorem ggX8_either_X8_isSolvable : GoodIn wsX8_either wsX8_isSolvable := goodIn_r _ [11, 12, 13, 6, 14, 15, 16, 17, 18, 19, 20, 21, 22, 23, 24, 25, 26, 27, 28, 29, 30, 31, 32, 33, 34, 35, 36, 37, 38, 39, 40, 41, 42, 43, 44, 45, 46, 47, 48, 49, 50, 51, 52, 53, 54, 55, 56, 57, 58, 59, 60, 61, 62, 63, 64, 65, 66, 67, 68, 69, 70, 71, 72, 73, 74, 75, 76, 77, 78, 79, 80, 81, 82, 83, 84, 85, 86, 87, 88, 89, 90, 91, 92, 93, 94, 95, 96, 97, 98, 99, 100, 101, 102, 103, 104, 105, 106, 107, 108, 109, 110, 111, 112, 113, 114, 115, 116, 117, 118, 119, 120, 121, 122, 123, 124, 125, 126, 127, 128, 129, 130, 131, 132, 133, 134, 135, 136, 137, 138, 139, 140, 141, 142, 143, 144, 145, 146, 147, 148, 149, 150, 151, 152, 153, 154, 155, 156, 157, 158, 159, 160, 161, 162, 163, 164, 165, 166, 167, 168, 169, 170, 171, 172, 173, 174, 175, 176, 177, 178, 179, 180, 181, 182, 183, 184, 185, 186, 187, 188, 189, 190, 191, 192, 193, 194, 195, 196, 197, 198, 199, 200, 201, 202, 203, 204, 205, 206, 207, 208, 209, 259, 260, 261, 262, 263, 264, 265, 266, 267, 268, 269, 270, 271, 272, 273, 274, 275, 276, 277, 278, 279, 280, 281, 282, 283, 284, 285, 286, 287, 288, 289, 290, 291, 292, 293, 294, 295, 296, 297, 298, 299, 300, 301, 302] (by decide +kernel) (by decide +kernel)
set_option maxRecDepth 20000 in
theorem gX8_either_X8_isSolvable : GoodIn wsX8_either (wsV RX8 185 RX8 yX8_isSolvable wsX8_isSolvable) := goodIn_app (goodIn_of _ (by decide +kernel)) ggX8_either_X8_isSolvable
set_option maxRecDepth 20000 in
theorem ggX8_either_X3_all : GoodIn wsX8_either wsX3_all := goodIn_r _ [19, 20, 275, 276, 277, 278, 279] (by decide +kernel) (by decide +kernel)
set_option maxRecDepth 20000 in
theorem gX8_either_X3_all : GoodIn wsX8_either (wsV RX8 188 RX3 yX3_all wsX3_all) := goodIn_app (goodIn_of _ (by decide +kernel)) ggX8_either_X3_all
set_option maxRecDepth 20000 in
theorem ggX8_either_X4_find : GoodIn wsX8_either wsX4_find := goodIn_r _ [214, 215, 216, 217, 218, 219, 220, 221, 213, 222, 223, 224, 22, 23, 24, 25, 26, 27, 28, 29, 30, 31, 32, 33, 34, 35, 36, 37, 38, 39, 40, 41, 42, 43, 44, 45, 46, 47, 48, 49, 50, 51, 52, 18, 53, 20, 54, 55, 56, 57, 58, 59, 60, 61, 62, 63, 64, 65, 66, 67, 68, 69, 70, 71, 72, 73, 74, 75, 76, 77, 78, 79, 80, 81, 82, 83, 84, 85, 86, 87, 88, 89, 90, 91, 92, 93, 94, 95, 96, 97, 98, 99, 100, 101, 102, 103, 104, 105, 106, 107, 108, 109, 110, 111, 112, 113, 114, 115, 116, 117, 118, 119, 120, 121, 122, 123, 124, 125, 126, 127, 128, 129, 130, 131, 132, 133, 134, 135, 136, 137, 138, 139, 140, 141, 142, 143, 144, 145, 146, 147, 148, 149, 150, 151, 152, 153, 225, 226, 227, 228, 229, 230, 155, 156, 157, 158, 159, 160, 161, 162, 163, 164, 165, 166, 167, 168, 169, 170, 171, 172, 173, 174, 175, 176, 177, 178, 179, 180, 181, 182, 183, 184, 185, 186, 187, 188, 189, 190, 191, 192, 193, 194, 195, 196, 197, 198, 199, 200, 201, 202, 203, 204, 205, 206, 207, 208, 209, 231, 232, 233, 234, 235, 236, 237, 238, 239, 240, 241, 242, 243, 244, 245, 246, 247, 248, 249, 250, 303, 304, 305, 306, 280, 281, 282, 283, 284, 285, 286, 287, 288, 289, 290, 275, 276, 277, 278, 279, 291, 292, 293, 294, 295, 296, 297, 298, 299, 300, 301, 302] (by decide +kernel) (by decide +kernel)
set_option maxRecDepth 20000 in
theorem gX8_either_X4_find : GoodIn wsX8_either (wsV RX8 221 RX4 yX4_find wsX4_find) := goodIn_app (goodIn_of _ (by decide +kernel)) ggX8_either_X4_find
set_option maxRecDepth 20000 in
theorem ggX8_either_X4_first : GoodIn wsX8_either wsX4_first := goodIn_r _ [254, 216, 303, 304, 305, 306] (by decide +kernel) (by decide +kernel)
set_option maxRecDepth 20000 in
theorem gX8_either_X4_first : GoodIn wsX8_either (wsV RX8 224 RX4 yX4_first wsX4_first) := goodIn_app (goodIn_of _ (by decide +kernel)) ggX8_either_X4_first
set_option maxRecDepth 20000 in
theorem ggX8_either_X4_second : GoodIn wsX8_either wsX4_second := goodIn_r _ [258, 217, 303, 304, 305, 306] (by decide +kernel) (by decide +kernel)
set_option maxRecDepth 20000 in
theorem gX8_either_X4_second : GoodIn wsX8_either (wsV RX8 227 RX4 yX4_second wsX4_second) := goodIn_app (goodIn_of _ (by decide +kernel)) ggX8_either_X4_second
theorem dX8_either_0 : decode cX8_either 0 = .ok (.iload_n 1, 1) := by decide +kernel
theorem dX8_either_1 : decode cX8_either 1 = .ok (.ifCond .lt 8, 3) := by decide +kernel
theorem dX8_either_4 : decode cX8_either 4 = .ok (.iload_n 1, 1) := by decide +kernel
theorem dX8_either_5 : decode cX8_either 5 = .ok (.iconst 1, 1) := by decide +kernel
theorem dX8_either_6 : decode cX8_either 6 = .ok (.if_icmp .le 6, 3) := by decide +kernel
theorem dX8_either_9 : decode cX8_either 9 = .ok (.ldc 62, 2) := by decide +kernel
theorem dX8_either_11 : decode cX8_either 11 = .ok (.ireturn, 1) := by decide +kernel
theorem dX8_either_12 : decode cX8_either 12 = .ok (.aload_n 0, 1) := by decide +kernel
theorem dX8_either_13 : decode cX8_either 13 = .ok (.getfield 214, 3) := by decide +kernel
theorem dX8_either_16 : decode cX8_either 16 = .ok (.bipush 12, 2) := by decide +kernel
theorem dX8_either_18 : decode cX8_either 18 = .ok (.if_icmp .ge 10, 3) := by decide +kernel
theorem dX8_either_21 : decode cX8_either 21 = .ok (.aload_n 0, 1) := by decide +kernel
theorem dX8_either_22 : decode cX8_either 22 = .ok (.invokevirtual 185, 3) := by decide +kernel
theorem dX8_either_25 : decode cX8_either 25 = .ok (.ifCond .ne 6, 3) := by decide +kernel
theorem dX8_either_28 : decode cX8_either 28 = .ok (.ldc 76, 2) := by decide +kernel
theorem dX8_either_30 : decode cX8_either 30 = .ok (.ireturn, 1) := by decide +kernel
theorem dX8_either_31 : decode cX8_either 31 = .ok (.aload_n 0, 1) := by decide +kernel
theorem dX8_either_32 : decode cX8_either 32 = .ok (.getfield 217, 3) := by decide +kernel
theorem dX8_either_35 : decode cX8_either 35 = .ok (.ifCond .ne 22, 3) := by decide +kernel
theorem dX8_either_38 : decode cX8_either 38 = .ok (.aload_n 0, 1) := by decide +kernel
theorem dX8_either_39 : decode cX8_either 39 = .ok (.getfield 58, 3) := by decide +kernel
theorem dX8_either_42 : decode cX8_either 42 = .ok (.aload_n 0, 1) := by decide +kernel
theorem dX8_either_43 : decode cX8_either 43 = .ok (.getfield 33, 3) := by decide +kernel
theorem dX8_either_46 : decode cX8_either 46 = .ok (.invokevirtual 188, 3) := by decide +kernel
theorem dX8_either_49 : decode cX8_either 49 = .ok (.invokevirtual 221, 3) := by decide +kernel
theorem dX8_either_52 : decode cX8_either 52 = .ok (.aload_n 0, 1) := by decide +kernel
theorem dX8_either_53 : decode cX8_either 53 = .ok (.iconst 1, 1) := by decide +kernel
theorem dX8_either_54 : decode cX8_either 54 = .ok (.putfield 217, 3) := by decide +kernel
theorem dX8_either_57 : decode cX8_either 57 = .ok (.aload_n 0, 1) := by decide +kernel
theorem dX8_either_58 : decode cX8_either 58 = .ok (.dup, 1) := by decide +kernel
theorem dX8_either_59 : decode cX8_either 59 = .ok (.getfield 214, 3) := by decide +kernel
theorem dX8_either_62 : decode cX8_either 62 = .ok (.iconst 1, 1) := by decide +kernel
theorem dX8_either_63 : decode cX8_either 63 = .ok (.iadd, 1) := by decide +kernel
theorem dX8_either_64 : decode cX8_either 64 = .ok (.putfield 214, 3) := by decide +kernel
theorem dX8_either_67 : decode cX8_either 67 = .ok (.iload_n 1, 1) := by decide +kernel
theorem dX8_either_68 : decode cX8_either 68 = .ok (.ifCond .ne 13, 3) := by decide +kernel
theorem dX8_either_71 : decode cX8_either 71 = .ok (.aload_n 0, 1) := by decide +kernel
theorem dX8_either_72 : decode cX8_either 72 = .ok (.getfield 58, 3) := by decide +kernel
theorem dX8_either_75 : decode cX8_either 75 = .ok (.invokevirtual 224, 3) := by decide +kernel
theorem dX8_either_78 : decode cX8_either 78 = .ok (.goto 10, 3) := by decide +kernel
theorem dX8_either_81 : decode cX8_either 81 = .ok (.aload_n 0, 1) := by decide +kernel
theorem dX8_either_82 : decode cX8_either 82 = .ok (.getfield 58, 3) := by decide +kernel
theorem dX8_either_85 : decode cX8_either 85 = .ok (.invokevirtual 227, 3) := by decide +kernel
theorem dX8_either_88 : decode cX8_either 88 = .ok (.ireturn, 1) := by decide +kernel
set_option maxRecDepth 20000 in
theorem ggX8_count_X3_size : GoodIn wsX8_count wsX3_size := goodIn_r _ [12, 13, 36, 37, 38, 39, 40] (by decide +kernel) (by decide +kernel)
set_option maxRecDepth 20000 in
theorem gX8_count_X3_size : GoodIn wsX8_count (wsV RX8 77 RX3 yX3_size wsX3_size) := goodIn_app (goodIn_of _ (by decide +kernel)) ggX8_count_X3_size
set_option maxRecDepth 20000 in
theorem ggX8_count_X7_size : GoodIn wsX8_count wsX7_size := goodIn_r _ [18, 19, 41, 42, 43, 44, 45] (by decide +kernel) (by decide +kernel)
set_option maxRecDepth 20000 in
theorem gX8_count_X7_size : GoodIn wsX8_count (wsV RX8 81 RX7 yX7_size wsX7_size) := goodIn_app (goodIn_of _ (by decide +kernel)) ggX8_count_X7_size
theorem dX8_count_0 : decode cX8_count 0 = .ok (.iload_n 1, 1) := by decide +kernel
theorem dX8_count_1 : decode cX8_count 1 = .ok (.tableswitch 75 0 5 #[39, 47, 55, 60, 65, 70], 39) := by decide +kernel
theorem dX8_count_40 : decode cX8_count 40 = .ok (.aload_n 0, 1) := by decide +kernel
theorem dX8_count_41 : decode cX8_count 41 = .ok (.getfield 33, 3) := by decide +kernel
theorem dX8_count_44 : decode cX8_count 44 = .ok (.invokevirtual 77, 3) := by decide +kernel
theorem dX8_count_47 : decode cX8_count 47 = .ok (.ireturn, 1) := by decide +kernel
theorem dX8_count_48 : decode cX8_count 48 = .ok (.aload_n 0, 1) := by decide +kernel
theorem dX8_count_49 : decode cX8_count 49 = .ok (.getfield 23, 3) := by decide +kernel
theorem dX8_count_52 : decode cX8_count 52 = .ok (.invokevirtual 81, 3) := by decide +kernel
theorem dX8_count_55 : decode cX8_count 55 = .ok (.ireturn, 1) := by decide +kernel
theorem dX8_count_56 : decode cX8_count 56 = .ok (.aload_n 0, 1) := by decide +kernel
theorem dX8_count_57 : decode cX8_count 57 = .ok (.getfield 63, 3) := by decide +kernel
theorem dX8_count_60 : decode cX8_count 60 = .ok (.ireturn, 1) := by decide +kernel
theorem dX8_count_61 : decode cX8_count 61 = .ok (.aload_n 0, 1) := by decide +kernel
theorem dX8_count_62 : decode cX8_count 62 = .ok (.getfield 106, 3) := by decide +kernel
theorem dX8_count_65 : decode cX8_count 65 = .ok (.ireturn, 1) := by decide +kernel
theorem dX8_count_66 : decode cX8_count 66 = .ok (.aload_n 0, 1) := by decide +kernel
theorem dX8_count_67 : decode cX8_count 67 = .ok (.getfield 123, 3) := by decide +kernel
theorem dX8_count_70 : decode cX8_count 70 = .ok (.ireturn, 1) := by decide +kernel
theorem dX8_count_71 : decode cX8_count 71 = .ok (.aload_n 0, 1) := by decide +kernel
theorem dX8_count_72 : decode cX8_count 72 = .ok (.getfield 214, 3) := by decide +kernel
theorem dX8_count_75 : decode cX8_count 75 = .ok (.ireturn, 1) := by decide +kernel
theorem dX8_count_76 : decode cX8_count 76 = .ok (.ldc 62, 2) := by decide +kernel
theorem dX8_count_78 : decode cX8_count 78 = .ok (.ireturn, 1) := by decide +kernel
set_option maxRecDepth 20000 in
theorem ggX8_digest_X3_size : GoodIn wsX8_digest wsX3_size := goodIn_r _ [11, 12, 355, 356, 357, 358, 359] (by decide +kernel) (by decide +kernel)
set_option maxRecDepth 20000 in
theorem gX8_digest_X3_size : GoodIn wsX8_digest (wsV RX8 77 RX3 yX3_size wsX3_size) := goodIn_app (goodIn_of _ (by decide +kernel)) ggX8_digest_X3_size
set_option maxRecDepth 20000 in
theorem ggX8_digest_X8_literal : GoodIn wsX8_digest wsX8_literal := goodIn_r _ [17, 2, 18, 19, 20, 21, 22, 10, 23, 12, 24, 25, 26, 27, 28, 29, 30, 31, 32, 33, 34, 35, 36, 37, 38, 39, 40, 41, 42, 43, 44, 45, 339, 340, 341, 342, 343, 344, 345, 346, 347, 348, 349, 350, 351, 352, 353, 354, 355, 356, 357, 358, 359] (by decide +kernel) (by decide +kernel)
set_option maxRecDepth 20000 in
theorem gX8_digest_X8_literal : GoodIn wsX8_digest (wsV RX8 234 RX8 yX8_literal wsX8_literal) := goodIn_app (goodIn_of _ (by decide +kernel)) ggX8_digest_X8_literal
set_option maxRecDepth 20000 in
theorem ggX8_digest_X7_size : GoodIn wsX8_digest wsX7_size := goodIn_r _ [50, 51, 360, 361, 362, 363, 364] (by decide +kernel) (by decide +kernel)
set_option maxRecDepth 20000 in
theorem gX8_digest_X7_size : GoodIn wsX8_digest (wsV RX8 81 RX7 yX7_size wsX7_size) := goodIn_app (goodIn_of _ (by decide +kernel)) ggX8_digest_X7_size
set_option maxRecDepth 20000 in
theorem ggX8_digest_X8_term : GoodIn wsX8_digest wsX8_term := goodIn_r _ [55, 4, 18, 56, 2, 19, 57, 58, 59, 49, 60, 51, 61, 62, 63, 64, 65, 66, 67, 68, 69, 70, 71, 72, 73, 74, 75, 76, 77, 78, 79, 80, 81, 82, 83, 84, 85, 16, 86, 87, 88, 89, 90, 91, 92, 93, 94, 95, 96, 97, 98, 99, 100, 101, 8, 9, 10, 11, 12, 102, 25, 26, 27, 28, 29, 30, 21, 22, 23, 103, 32, 33, 34, 35, 104, 37, 38, 39, 40, 105, 106, 107, 108, 109, 110, 111, 112, 113, 114, 115, 116, 117, 118, 119, 120, 121, 122, 123, 47, 48, 50, 124, 125, 126, 127, 128, 129, 130, 131, 132, 133, 134, 135, 136, 137, 138, 139, 140, 141, 142, 143, 144, 145, 146, 147, 148, 149, 150, 151, 152, 153, 154, 155, 156, 157, 158, 42, 43, 44, 45, 159, 160, 161, 162, 163, 164, 165, 166, 167, 168, 169, 170, 171, 172, 173, 174, 175, 176, 177, 178, 179, 180, 339, 340, 341, 342, 343, 344, 345, 346, 347, 348, 349, 350, 351, 352, 353, 354, 360, 361, 362, 363, 364, 365, 366, 367, 368, 369, 370, 355, 356, 357, 358, 359, 371] (by decide +kernel) (by decide +kernel)
set_option maxRecDepth 20000 in
theorem gX8_digest_X8_term : GoodIn wsX8_digest (wsV RX8 238 RX8 yX8_term wsX8_term) := goodIn_app (goodIn_of _ (by decide +kernel)) ggX8_digest_X8_term
set_option maxRecDepth 20000 in
theorem ggX8_digest_X8_exchange : GoodIn wsX8_digest wsX8_exchange := goodIn_r _ [184, 19, 56, 83, 84, 85, 16, 86, 87, 88, 89, 90, 91, 92, 93, 94, 95, 96, 97, 98, 99, 100, 101, 8, 9, 10, 11, 12, 102, 25, 26, 27, 28, 29, 30, 21, 22, 23, 103, 32, 33, 34, 35, 104, 37, 38, 39, 40, 105, 106, 107, 108, 109, 110, 111, 112, 113, 114, 115, 116, 117, 118, 119, 120, 121, 122, 123, 47, 48, 49, 50, 51, 124, 125, 126, 127, 128, 129, 130, 131, 65, 66, 58, 59, 60, 132, 68, 69, 70, 71, 72, 133, 74, 75, 76, 77, 134, 135, 136, 137, 138, 139, 140, 141, 142, 143, 144, 145, 146, 147, 148, 149, 150, 151, 152, 153, 154, 155, 156, 157, 158, 42, 43, 44, 45, 159, 160, 161, 162, 163, 164, 165, 166, 167, 168, 169, 170, 171, 172, 173, 174, 175, 185, 186, 187, 188, 189, 190, 191, 192, 193, 194, 195, 196, 339, 340, 341, 342, 343, 344, 345, 346, 347, 348, 349, 350, 351, 352, 353, 354, 365, 366, 367, 368, 369, 370, 355, 356, 357, 358, 359, 360, 361, 362, 363, 364, 371] (by decide +kernel) (by decide +kernel)
set_option maxRecDepth 20000 in
theorem gX8_digest_X8_exchange : GoodIn wsX8_digest (wsV RX8 241 RX8 yX8_exchange wsX8_exchange) := goodIn_app (goodIn_of _ (by decide +kernel)) ggX8_digest_X8_exchange
set_option maxRecDepth 20000 in
theorem ggX8_digest_X8_holds : GoodIn wsX8_digest wsX8_holds := goodIn_r _ [200, 201, 202, 203, 16, 204, 205, 206, 2, 207, 208, 209, 210, 10, 211, 12, 212, 213, 214, 215, 216, 217, 218, 219, 220, 221, 222, 223, 224, 225, 226, 227, 228, 229, 230, 140, 141, 142, 143, 144, 145, 146, 147, 148, 149, 231, 8, 9, 11, 232, 233, 234, 235, 236, 32, 33, 34, 35, 29, 30, 21, 22, 23, 237, 37, 38, 39, 40, 238, 25, 26, 27, 28, 239, 240, 241, 242, 243, 151, 152, 153, 154, 155, 156, 157, 244, 245, 246, 247, 248, 249, 250, 251, 252, 253, 254, 255, 256, 257, 258, 259, 260, 261, 262, 42, 43, 44, 45, 263, 264, 265, 266, 267, 268, 47, 48, 49, 50, 51, 269, 129, 130, 131, 65, 66, 58, 59, 60, 270, 271, 272, 273, 274, 275, 276, 68, 69, 70, 71, 72, 277, 62, 63, 64, 278, 74, 75, 76, 77, 279, 280, 281, 282, 283, 284, 285, 286, 287, 288, 289, 290, 291, 292, 293, 294, 295, 296, 297, 169, 170, 171, 298, 299, 300, 301, 302, 303, 304, 305, 306, 307, 308, 309, 310, 311, 312, 313, 314, 315, 316, 317, 318, 319, 320, 321, 322, 323, 324, 325, 326, 327, 328, 329, 330, 331, 339, 340, 341, 342, 343, 344, 345, 346, 347, 348, 349, 350, 351, 352, 353, 354, 355, 356, 357, 358, 359, 372, 373, 374, 375, 376, 377, 378, 379, 380, 381, 371, 382, 383, 384, 385, 386, 387, 388, 360, 361, 362, 363, 364] (by decide +kernel) (by decide +kernel)
set_option maxRecDepth 20000 in
theorem gX8_digest_X8_holds : GoodIn wsX8_digest (wsV RX8 244 RX8 yX8_holds wsX8_holds) := goodIn_app (goodIn_of _ (by decide +kernel)) ggX8_digest_X8_holds
set_option maxRecDepth 20000 in
theorem ggX8_digest_X8_count : GoodIn wsX8_digest wsX8_count := goodIn_r _ [335, 2, 4, 5, 336, 337, 338, 19, 7, 8, 9, 10, 11, 12, 46, 47, 48, 49, 50, 51, 339, 340, 341, 342, 343, 344, 345, 346, 347, 348, 349, 350, 351, 352, 353, 354, 355, 356, 357, 358, 359, 360, 361, 362, 363, 364] (by decide +kernel) (by decide +kernel)
set_option maxRecDepth 20000 in
theorem gX8_digest_X8_count : GoodIn wsX8_digest (wsV RX8 247 RX8 yX8_count wsX8_count) := goodIn_app (goodIn_of _ (by decide +kernel)) ggX8_digest_X8_count
theorem dX8_digest_0 : decode cX8_digest 0 = .ok (.ldc2_w 230, 3) := by decide +kernel
theorem dX8_digest_3 : decode cX8_digest 3 = .ok (.lstore_n 1, 1) := by decide +kernel
theorem dX8_digest_4 : decode cX8_digest 4 = .ok (.iconst 0, 1) := by decide +kernel
theorem dX8_digest_5 : decode cX8_digest 5 = .ok (.istore_n 3, 1) := by decide +kernel
theorem dX8_digest_6 : decode cX8_digest 6 = .ok (.iload_n 3, 1) := by decide +kernel
theorem dX8_digest_7 : decode cX8_digest 7 = .ok (.aload_n 0, 1) := by decide +kernel
theorem dX8_digest_8 : decode cX8_digest 8 = .ok (.getfield 33, 3) := by decide +kernel
theorem dX8_digest_11 : decode cX8_digest 11 = .ok (.invokevirtual 77, 3) := by decide +kernel
theorem dX8_digest_14 : decode cX8_digest 14 = .ok (.if_icmp .ge 39, 3) := by decide +kernel
theorem dX8_digest_17 : decode cX8_digest 17 = .ok (.iconst 0, 1) := by decide +kernel
theorem dX8_digest_18 : decode cX8_digest 18 = .ok (.istore 4, 2) := by decide +kernel
theorem dX8_digest_20 : decode cX8_digest 20 = .ok (.iload 4, 2) := by decide +kernel
theorem dX8_digest_22 : decode cX8_digest 22 = .ok (.iconst 3, 1) := by decide +kernel
theorem dX8_digest_23 : decode cX8_digest 23 = .ok (.if_icmp .gt 24, 3) := by decide +kernel
theorem dX8_digest_26 : decode cX8_digest 26 = .ok (.ldc2_w 232, 3) := by decide +kernel
theorem dX8_digest_29 : decode cX8_digest 29 = .ok (.lload_n 1, 1) := by decide +kernel
theorem dX8_digest_30 : decode cX8_digest 30 = .ok (.lmul, 1) := by decide +kernel
theorem dX8_digest_31 : decode cX8_digest 31 = .ok (.aload_n 0, 1) := by decide +kernel
theorem dX8_digest_32 : decode cX8_digest 32 = .ok (.iload_n 3, 1) := by decide +kernel
theorem dX8_digest_33 : decode cX8_digest 33 = .ok (.iload 4, 2) := by decide +kernel
theorem dX8_digest_35 : decode cX8_digest 35 = .ok (.invokevirtual 234, 3) := by decide +kernel
theorem dX8_digest_38 : decode cX8_digest 38 = .ok (.i2l, 1) := by decide +kernel
theorem dX8_digest_39 : decode cX8_digest 39 = .ok (.ladd, 1) := by decide +kernel
theorem dX8_digest_40 : decode cX8_digest 40 = .ok (.lstore_n 1, 1) := by decide +kernel
theorem dX8_digest_41 : decode cX8_digest 41 = .ok (.iinc 4 1, 3) := by decide +kernel
theorem dX8_digest_44 : decode cX8_digest 44 = .ok (.goto (-24), 3) := by decide +kernel
theorem dX8_digest_47 : decode cX8_digest 47 = .ok (.iinc 3 1, 3) := by decide +kernel
theorem dX8_digest_50 : decode cX8_digest 50 = .ok (.goto (-44), 3) := by decide +kernel
theorem dX8_digest_53 : decode cX8_digest 53 = .ok (.iconst 0, 1) := by decide +kernel
theorem dX8_digest_54 : decode cX8_digest 54 = .ok (.istore_n 3, 1) := by decide +kernel
theorem dX8_digest_55 : decode cX8_digest 55 = .ok (.iload_n 3, 1) := by decide +kernel
theorem dX8_digest_56 : decode cX8_digest 56 = .ok (.aload_n 0, 1) := by decide +kernel
theorem dX8_digest_57 : decode cX8_digest 57 = .ok (.getfield 23, 3) := by decide +kernel
theorem dX8_digest_60 : decode cX8_digest 60 = .ok (.invokevirtual 81, 3) := by decide +kernel
theorem dX8_digest_63 : decode cX8_digest 63 = .ok (.if_icmp .ge 39, 3) := by decide +kernel
theorem dX8_digest_66 : decode cX8_digest 66 = .ok (.iconst 0, 1) := by decide +kernel
theorem dX8_digest_67 : decode cX8_digest 67 = .ok (.istore 4, 2) := by decide +kernel
theorem dX8_digest_69 : decode cX8_digest 69 = .ok (.iload 4, 2) := by decide +kernel
theorem dX8_digest_71 : decode cX8_digest 71 = .ok (.iconst 5, 1) := by decide +kernel
theorem dX8_digest_72 : decode cX8_digest 72 = .ok (.if_icmp .gt 24, 3) := by decide +kernel
theorem dX8_digest_75 : decode cX8_digest 75 = .ok (.ldc2_w 232, 3) := by decide +kernel
theorem dX8_digest_78 : decode cX8_digest 78 = .ok (.lload_n 1, 1) := by decide +kernel
theorem dX8_digest_79 : decode cX8_digest 79 = .ok (.lmul, 1) := by decide +kernel
theorem dX8_digest_80 : decode cX8_digest 80 = .ok (.aload_n 0, 1) := by decide +kernel
theorem dX8_digest_81 : decode cX8_digest 81 = .ok (.iload_n 3, 1) := by decide +kernel
theorem dX8_digest_82 : decode cX8_digest 82 = .ok (.iload 4, 2) := by decide +kernel
theorem dX8_digest_84 : decode cX8_digest 84 = .ok (.invokevirtual 238, 3) := by decide +kernel
theorem dX8_digest_87 : decode cX8_digest 87 = .ok (.i2l, 1) := by decide +kernel
theorem dX8_digest_88 : decode cX8_digest 88 = .ok (.ladd, 1) := by decide +kernel
theorem dX8_digest_89 : decode cX8_digest 89 = .ok (.lstore_n 1, 1) := by decide +kernel
theorem dX8_digest_90 : decode cX8_digest 90 = .ok (.iinc 4 1, 3) := by decide +kernel
theorem dX8_digest_93 : decode cX8_digest 93 = .ok (.goto (-24), 3) := by decide +kernel
theorem dX8_digest_96 : decode cX8_digest 96 = .ok (.iinc 3 1, 3) := by decide +kernel
theorem dX8_digest_99 : decode cX8_digest 99 = .ok (.goto (-44), 3) := by decide +kernel
theorem dX8_digest_102 : decode cX8_digest 102 = .ok (.iconst 0, 1) := by decide +kernel
theorem dX8_digest_103 : decode cX8_digest 103 = .ok (.istore_n 3, 1) := by decide +kernel
theorem dX8_digest_104 : decode cX8_digest 104 = .ok (.iload_n 3, 1) := by decide +kernel
theorem dX8_digest_105 : decode cX8_digest 105 = .ok (.iconst 2, 1) := by decide +kernel
theorem dX8_digest_106 : decode cX8_digest 106 = .ok (.if_icmp .gt 22, 3) := by decide +kernel
theorem dX8_digest_109 : decode cX8_digest 109 = .ok (.ldc2_w 232, 3) := by decide +kernel
theorem dX8_digest_112 : decode cX8_digest 112 = .ok (.lload_n 1, 1) := by decide +kernel
theorem dX8_digest_113 : decode cX8_digest 113 = .ok (.lmul, 1) := by decide +kernel
theorem dX8_digest_114 : decode cX8_digest 114 = .ok (.aload_n 0, 1) := by decide +kernel
theorem dX8_digest_115 : decode cX8_digest 115 = .ok (.iload_n 3, 1) := by decide +kernel
theorem dX8_digest_116 : decode cX8_digest 116 = .ok (.invokevirtual 241, 3) := by decide +kernel
theorem dX8_digest_119 : decode cX8_digest 119 = .ok (.i2l, 1) := by decide +kernel
theorem dX8_digest_120 : decode cX8_digest 120 = .ok (.ladd, 1) := by decide +kernel
theorem dX8_digest_121 : decode cX8_digest 121 = .ok (.lstore_n 1, 1) := by decide +kernel
theorem dX8_digest_122 : decode cX8_digest 122 = .ok (.iinc 3 1, 3) := by decide +kernel
theorem dX8_digest_125 : decode cX8_digest 125 = .ok (.goto (-21), 3) := by decide +kernel
theorem dX8_digest_128 : decode cX8_digest 128 = .ok (.ldc2_w 232, 3) := by decide +kernel
theorem dX8_digest_131 : decode cX8_digest 131 = .ok (.lload_n 1, 1) := by decide +kernel
theorem dX8_digest_132 : decode cX8_digest 132 = .ok (.lmul, 1) := by decide +kernel
theorem dX8_digest_133 : decode cX8_digest 133 = .ok (.aload_n 0, 1) := by decide +kernel
theorem dX8_digest_134 : decode cX8_digest 134 = .ok (.invokevirtual 244, 3) := by decide +kernel
theorem dX8_digest_137 : decode cX8_digest 137 = .ok (.i2l, 1) := by decide +kernel
theorem dX8_digest_138 : decode cX8_digest 138 = .ok (.ladd, 1) := by decide +kernel
theorem dX8_digest_139 : decode cX8_digest 139 = .ok (.lstore_n 1, 1) := by decide +kernel
theorem dX8_digest_140 : decode cX8_digest 140 = .ok (.iconst 0, 1) := by decide +kernel
theorem dX8_digest_141 : decode cX8_digest 141 = .ok (.istore_n 3, 1) := by decide +kernel
theorem dX8_digest_142 : decode cX8_digest 142 = .ok (.iload_n 3, 1) := by decide +kernel
theorem dX8_digest_143 : decode cX8_digest 143 = .ok (.aload_n 0, 1) := by decide +kernel
theorem dX8_digest_144 : decode cX8_digest 144 = .ok (.getfield 63, 3) := by decide +kernel
theorem dX8_digest_147 : decode cX8_digest 147 = .ok (.if_icmp .ge 29, 3) := by decide +kernel
theorem dX8_digest_150 : decode cX8_digest 150 = .ok (.iload_n 3, 1) := by decide +kernel
theorem dX8_digest_151 : decode cX8_digest 151 = .ok (.bipush 40, 2) := by decide +kernel
theorem dX8_digest_153 : decode cX8_digest 153 = .ok (.if_icmp .ge 23, 3) := by decide +kernel
theorem dX8_digest_156 : decode cX8_digest 156 = .ok (.ldc2_w 232, 3) := by decide +kernel
theorem dX8_digest_159 : decode cX8_digest 159 = .ok (.lload_n 1, 1) := by decide +kernel
theorem dX8_digest_160 : decode cX8_digest 160 = .ok (.lmul, 1) := by decide +kernel
theorem dX8_digest_161 : decode cX8_digest 161 = .ok (.aload_n 0, 1) := by decide +kernel
theorem dX8_digest_162 : decode cX8_digest 162 = .ok (.getfield 9, 3) := by decide +kernel
theorem dX8_digest_165 : decode cX8_digest 165 = .ok (.iload_n 3, 1) := by decide +kernel
theorem dX8_digest_166 : decode cX8_digest 166 = .ok (.iaload, 1) := by decide +kernel
theorem dX8_digest_167 : decode cX8_digest 167 = .ok (.i2l, 1) := by decide +kernel
theorem dX8_digest_168 : decode cX8_digest 168 = .ok (.ladd, 1) := by decide +kernel
theorem dX8_digest_169 : decode cX8_digest 169 = .ok (.lstore_n 1, 1) := by decide +kernel
theorem dX8_digest_170 : decode cX8_digest 170 = .ok (.iinc 3 1, 3) := by decide +kernel
theorem dX8_digest_173 : decode cX8_digest 173 = .ok (.goto (-31), 3) := by decide +kernel
theorem dX8_digest_176 : decode cX8_digest 176 = .ok (.iconst 0, 1) := by decide +kernel
theorem dX8_digest_177 : decode cX8_digest 177 = .ok (.istore_n 3, 1) := by decide +kernel
theorem dX8_digest_178 : decode cX8_digest 178 = .ok (.iload_n 3, 1) := by decide +kernel
theorem dX8_digest_179 : decode cX8_digest 179 = .ok (.iconst 5, 1) := by decide +kernel
theorem dX8_digest_180 : decode cX8_digest 180 = .ok (.if_icmp .gt 22, 3) := by decide +kernel
theorem dX8_digest_183 : decode cX8_digest 183 = .ok (.ldc2_w 232, 3) := by decide +kernel
theorem dX8_digest_186 : decode cX8_digest 186 = .ok (.lload_n 1, 1) := by decide +kernel
theorem dX8_digest_187 : decode cX8_digest 187 = .ok (.lmul, 1) := by decide +kernel
theorem dX8_digest_188 : decode cX8_digest 188 = .ok (.aload_n 0, 1) := by decide +kernel
theorem dX8_digest_189 : decode cX8_digest 189 = .ok (.iload_n 3, 1) := by decide +kernel
theorem dX8_digest_190 : decode cX8_digest 190 = .ok (.invokevirtual 247, 3) := by decide +kernel
theorem dX8_digest_193 : decode cX8_digest 193 = .ok (.i2l, 1) := by decide +kernel
theorem dX8_digest_194 : decode cX8_digest 194 = .ok (.ladd, 1) := by decide +kernel
theorem dX8_digest_195 : decode cX8_digest 195 = .ok (.lstore_n 1, 1) := by decide +kernel
theorem dX8_digest_196 : decode cX8_digest 196 = .ok (.iinc 3 1, 3) := by decide +kernel
theorem dX8_digest_199 : decode cX8_digest 199 = .ok (.goto (-21), 3) := by decide +kernel
theorem dX8_digest_202 : decode cX8_digest 202 = .ok (.lload_n 1, 1) := by decide +kernel
theorem dX8_digest_203 : decode cX8_digest 203 = .ok (.lreturn, 1) := by decide +kernel
theorem dX8_forgetResults_0 : decode cX8_forgetResults 0 = .ok (.aload_n 0, 1) := by decide +kernel
theorem dX8_forgetResults_1 : decode cX8_forgetResults 1 = .ok (.iconst 0, 1) := by decide +kernel
theorem dX8_forgetResults_2 : decode cX8_forgetResults 2 = .ok (.putfield 250, 3) := by decide +kernel
theorem dX8_forgetResults_5 : decode cX8_forgetResults 5 = .ok (.aload_n 0, 1) := by decide +kernel
theorem dX8_forgetResults_6 : decode cX8_forgetResults 6 = .ok (.iconst 0, 1) := by decide +kernel
theorem dX8_forgetResults_7 : decode cX8_forgetResults 7 = .ok (.putfield 253, 3) := by decide +kernel
theorem dX8_forgetResults_10 : decode cX8_forgetResults 10 = .ok (.aload_n 0, 1) := by decide +kernel
theorem dX8_forgetResults_11 : decode cX8_forgetResults 11 = .ok (.iconst 0, 1) := by decide +kernel
theorem dX8_forgetResults_12 : decode cX8_forgetResults 12 = .ok (.putfield 217, 3) := by decide +kernel
theorem dX8_forgetResults_15 : decode cX8_forgetResults 15 = .ok (.return_, 1) := by decide +kernel
set_option maxRecDepth 20000 in
theorem ggX8_ensureExchanged_X2_run : GoodIn wsX8_ensureExchanged wsX2_run := goodIn_r _ [7, 8, 9, 10, 11, 12, 6, 13, 14, 15, 16, 17, 18, 19, 20, 21, 22, 23, 24, 25, 26, 27, 28, 29, 30, 31, 32, 33, 34, 35, 36, 37, 38, 39, 40, 41, 42, 43, 44, 45, 46, 47, 48, 49, 50, 51, 52, 53, 54, 55, 56, 57, 58, 59, 60, 61, 62, 63, 64, 65, 66, 67, 68, 69, 70, 71, 72, 73, 74, 75, 76, 77, 78, 79, 80, 81, 82, 83, 84, 85, 86, 87, 88, 89, 90, 91, 92, 93, 94, 95, 96, 97, 98, 99, 100, 101, 102, 103, 104, 105, 106, 107, 108, 109, 110, 111, 112, 113, 114, 115, 116, 117, 118, 119, 120, 121, 122, 123, 124, 125, 126, 127, 128, 129, 130, 131, 132, 133, 134, 135, 152, 153, 154, 155, 156, 157, 158, 159, 160, 161, 162, 163, 164, 165, 166, 167, 168] (by decide +kernel) (by decide +kernel)
set_option maxRecDepth 20000 in
theorem gX8_ensureExchanged_X2_run : GoodIn wsX8_ensureExchanged (wsV RX8 256 RX2 yX2_run wsX2_run) := goodIn_app (goodIn_of _ (by decide +kernel)) ggX8_ensureExchanged_X2_run
theorem dX8_ensureExchanged_0 : decode cX8_ensureExchanged 0 = .ok (.aload_n 0, 1) := by decide +kernel
theorem dX8_ensureExchanged_1 : decode cX8_ensureExchanged 1 = .ok (.getfield 250, 3) := by decide +kernel
theorem dX8_ensureExchanged_4 : decode cX8_ensureExchanged 4 = .ok (.ifCond .ne 15, 3) := by decide +kernel
theorem dX8_ensureExchanged_7 : decode cX8_ensureExchanged 7 = .ok (.aload_n 0, 1) := by decide +kernel
theorem dX8_ensureExchanged_8 : decode cX8_ensureExchanged 8 = .ok (.getfield 42, 3) := by decide +kernel
theorem dX8_ensureExchanged_11 : decode cX8_ensureExchanged 11 = .ok (.invokevirtual 256, 3) := by decide +kernel
theorem dX8_ensureExchanged_14 : decode cX8_ensureExchanged 14 = .ok (.aload_n 0, 1) := by decide +kernel
theorem dX8_ensureExchanged_15 : decode cX8_ensureExchanged 15 = .ok (.iconst 1, 1) := by decide +kernel
theorem dX8_ensureExchanged_16 : decode cX8_ensureExchanged 16 = .ok (.putfield 250, 3) := by decide +kernel
theorem dX8_ensureExchanged_19 : decode cX8_ensureExchanged 19 = .ok (.return_, 1) := by decide +kernel
set_option maxRecDepth 20000 in
theorem ggX8_isSolvable_X3_all : GoodIn wsX8_isSolvable wsX3_all := goodIn_r _ [9, 10, 216, 217, 218, 219, 220] (by decide +kernel) (by decide +kernel)
set_option maxRecDepth 20000 in
theorem gX8_isSolvable_X3_all : GoodIn wsX8_isSolvable (wsV RX8 188 RX3 yX3_all wsX3_all) := goodIn_app (goodIn_of _ (by decide +kernel)) ggX8_isSolvable_X3_all
set_option maxRecDepth 20000 in
theorem ggX8_isSolvable_X6_load : GoodIn wsX8_isSolvable wsX6_load := goodIn_r _ [15, 16, 17, 18, 19, 20, 21, 22, 23, 24, 25, 14, 26, 27, 28, 29, 30, 31, 32, 33, 34, 35, 36, 37, 38, 39, 40, 41, 42, 8, 43, 10, 44, 45, 46, 47, 48, 49, 50, 51, 52, 53, 54, 55, 56, 57, 58, 59, 60, 61, 62, 63, 64, 65, 66, 67, 68, 69, 70, 71, 72, 73, 74, 75, 76, 77, 78, 79, 80, 81, 82, 83, 84, 85, 86, 87, 88, 89, 90, 91, 92, 93, 94, 95, 96, 97, 98, 99, 100, 101, 102, 103, 104, 105, 106, 107, 108, 109, 110, 111, 112, 113, 114, 115, 116, 117, 118, 119, 120, 121, 122, 123, 124, 125, 126, 127, 128, 129, 130, 131, 132, 133, 134, 135, 136, 137, 138, 139, 140, 141, 142, 143, 221, 222, 223, 224, 225, 226, 227, 228, 229, 230, 231, 216, 217, 218, 219, 220, 232, 233, 234, 235, 236, 237, 238, 239, 240, 241, 242, 243] (by decide +kernel) (by decide +kernel)
set_option maxRecDepth 20000 in
theorem gX8_isSolvable_X6_load : GoodIn wsX8_isSolvable (wsV RX8 191 RX6 yX6_load wsX6_load) := goodIn_app (goodIn_of _ (by decide +kernel)) ggX8_isSolvable_X6_load
set_option maxRecDepth 20000 in
theorem ggX8_isSolvable_X6_hasSolution : GoodIn wsX8_isSolvable wsX6_hasSolution := goodIn_r _ [147, 17, 18, 148, 149, 150, 14, 151, 19, 152, 22, 153, 154, 155, 156, 157, 28, 27, 158, 159, 160, 161, 162, 163, 164, 32, 165, 34, 35, 107, 77, 78, 79, 166, 167, 168, 169, 16, 170, 171, 172, 87, 173, 89, 90, 96, 97, 91, 127, 128, 174, 175, 176, 177, 178, 179, 180, 181, 182, 183, 184, 185, 186, 187, 188, 189, 190, 191, 192, 193, 194, 195, 196, 197, 198, 199, 221, 222, 223, 224, 225, 226, 227, 228, 229, 230, 231, 232, 233, 234, 235, 236, 237, 238] (by decide +kernel) (by decide +kernel)
set_option maxRecDepth 20000 in
theorem gX8_isSolvable_X6_hasSolution : GoodIn wsX8_isSolvable (wsV RX8 197 RX6 yX6_hasSolution wsX6_hasSolution) := goodIn_app (goodIn_of _ (by decide +kernel)) ggX8_isSolvable_X6_hasSolution
theorem dX8_isSolvable_0 : decode cX8_isSolvable 0 = .ok (.aload_n 0, 1) := by decide +kernel
theorem dX8_isSolvable_1 : decode cX8_isSolvable 1 = .ok (.getfield 253, 3) := by decide +kernel
theorem dX8_isSolvable_4 : decode cX8_isSolvable 4 = .ok (.ifCond .ne 33, 3) := by decide +kernel
theorem dX8_isSolvable_7 : decode cX8_isSolvable 7 = .ok (.aload_n 0, 1) := by decide +kernel
theorem dX8_isSolvable_8 : decode cX8_isSolvable 8 = .ok (.getfield 49, 3) := by decide +kernel
theorem dX8_isSolvable_11 : decode cX8_isSolvable 11 = .ok (.aload_n 0, 1) := by decide +kernel
theorem dX8_isSolvable_12 : decode cX8_isSolvable 12 = .ok (.getfield 33, 3) := by decide +kernel
theorem dX8_isSolvable_15 : decode cX8_isSolvable 15 = .ok (.invokevirtual 188, 3) := by decide +kernel
theorem dX8_isSolvable_18 : decode cX8_isSolvable 18 = .ok (.invokevirtual 191, 3) := by decide +kernel
theorem dX8_isSolvable_21 : decode cX8_isSolvable 21 = .ok (.aload_n 0, 1) := by decide +kernel
theorem dX8_isSolvable_22 : decode cX8_isSolvable 22 = .ok (.aload_n 0, 1) := by decide +kernel
theorem dX8_isSolvable_23 : decode cX8_isSolvable 23 = .ok (.getfield 49, 3) := by decide +kernel
theorem dX8_isSolvable_26 : decode cX8_isSolvable 26 = .ok (.invokevirtual 197, 3) := by decide +kernel
theorem dX8_isSolvable_29 : decode cX8_isSolvable 29 = .ok (.putfield 259, 3) := by decide +kernel
theorem dX8_isSolvable_32 : decode cX8_isSolvable 32 = .ok (.aload_n 0, 1) := by decide +kernel
theorem dX8_isSolvable_33 : decode cX8_isSolvable 33 = .ok (.iconst 1, 1) := by decide +kernel
theorem dX8_isSolvable_34 : decode cX8_isSolvable 34 = .ok (.putfield 253, 3) := by decide +kernel
theorem dX8_isSolvable_37 : decode cX8_isSolvable 37 = .ok (.aload_n 0, 1) := by decide +kernel
theorem dX8_isSolvable_38 : decode cX8_isSolvable 38 = .ok (.getfield 259, 3) := by decide +kernel
theorem dX8_isSolvable_41 : decode cX8_isSolvable 41 = .ok (.ireturn, 1) := by decide +kernel
theorem dX8_isGreat_0 : decode cX8_isGreat 0 = .ok (.lload_n 0, 1) := by decide +kernel
theorem dX8_isGreat_1 : decode cX8_isGreat 1 = .ok (.ldc2_w 262, 3) := by decide +kernel
theorem dX8_isGreat_4 : decode cX8_isGreat 4 = .ok (.lcmp, 1) := by decide +kernel
theorem dX8_isGreat_5 : decode cX8_isGreat 5 = .ok (.ifCond .gt 11, 3) := by decide +kernel
theorem dX8_isGreat_8 : decode cX8_isGreat 8 = .ok (.lload_n 0, 1) := by decide +kernel
theorem dX8_isGreat_9 : decode cX8_isGreat 9 = .ok (.ldc2_w 264, 3) := by decide +kernel
theorem dX8_isGreat_12 : decode cX8_isGreat 12 = .ok (.lcmp, 1) := by decide +kernel
theorem dX8_isGreat_13 : decode cX8_isGreat 13 = .ok (.ifCond .ge 7, 3) := by decide +kernel
theorem dX8_isGreat_16 : decode cX8_isGreat 16 = .ok (.iconst 1, 1) := by decide +kernel
theorem dX8_isGreat_17 : decode cX8_isGreat 17 = .ok (.goto 4, 3) := by decide +kernel
theorem dX8_isGreat_20 : decode cX8_isGreat 20 = .ok (.iconst 0, 1) := by decide +kernel
theorem dX8_isGreat_21 : decode cX8_isGreat 21 = .ok (.ireturn, 1) := by decide +kernel
set_option maxRecDepth 20000 in
theorem ggX8_asAnswer_X8_isGreat : GoodIn wsX8_asAnswer wsX8_isGreat := goodIn_r _ [7, 8, 9] (by decide +kernel) (by decide +kernel)
set_option maxRecDepth 20000 in
theorem gX8_asAnswer_X8_isGreat : GoodIn wsX8_asAnswer (va_wsS RX8 130 yX8_isGreat wsX8_isGreat) := goodIn_app (goodIn_of _ (by decide +kernel)) ggX8_asAnswer_X8_isGreat
theorem dX8_asAnswer_0 : decode cX8_asAnswer 0 = .ok (.lload_n 0, 1) := by decide +kernel
theorem dX8_asAnswer_1 : decode cX8_asAnswer 1 = .ok (.ldc2_w 268, 3) := by decide +kernel
theorem dX8_asAnswer_4 : decode cX8_asAnswer 4 = .ok (.lcmp, 1) := by decide +kernel
theorem dX8_asAnswer_5 : decode cX8_asAnswer 5 = .ok (.ifCond .ne 7, 3) := by decide +kernel
theorem dX8_asAnswer_8 : decode cX8_asAnswer 8 = .ok (.ldc_w 270, 3) := by decide +kernel
theorem dX8_asAnswer_11 : decode cX8_asAnswer 11 = .ok (.ireturn, 1) := by decide +kernel
theorem dX8_asAnswer_12 : decode cX8_asAnswer 12 = .ok (.lload_n 0, 1) := by decide +kernel
theorem dX8_asAnswer_13 : decode cX8_asAnswer 13 = .ok (.invokestatic 130, 3) := by decide +kernel
theorem dX8_asAnswer_16 : decode cX8_asAnswer 16 = .ok (.ifCond .eq 8, 3) := by decide +kernel
theorem dX8_asAnswer_19 : decode cX8_asAnswer 19 = .ok (.ldc 134, 2) := by decide +kernel
theorem dX8_asAnswer_21 : decode cX8_asAnswer 21 = .ok (.goto 5, 3) := by decide +kernel
theorem dX8_asAnswer_24 : decode cX8_asAnswer 24 = .ok (.lload_n 0, 1) := by decide +kernel
theorem dX8_asAnswer_25 : decode cX8_asAnswer 25 = .ok (.l2i, 1) := by decide +kernel
theorem dX8_asAnswer_26 : decode cX8_asAnswer 26 = .ok (.ireturn, 1) := by decide +kernel
set_option maxRecDepth 20000 in
theorem ggX8_numberTermsAnew_X7_copyFrom : GoodIn wsX8_numberTermsAnew wsX7_copyFrom := goodIn_r _ [8, 9, 10, 11, 12, 13, 90, 91, 92, 93, 94] (by decide +kernel) (by decide +kernel)
set_option maxRecDepth 20000 in
theorem gX8_numberTermsAnew_X7_copyFrom : GoodIn wsX8_numberTermsAnew (wsV RX8 271 RX7 yX7_copyFrom wsX7_copyFrom) := goodIn_app (goodIn_of _ (by decide +kernel)) ggX8_numberTermsAnew_X7_copyFrom
set_option maxRecDepth 20000 in
theorem ggX8_numberTermsAnew_X7_shrinkTo : GoodIn wsX8_numberTermsAnew wsX7_shrinkTo := goodIn_r _ [17, 13, 90, 91, 92, 93, 94] (by decide +kernel) (by decide +kernel)
set_option maxRecDepth 20000 in
theorem gX8_numberTermsAnew_X7_shrinkTo : GoodIn wsX8_numberTermsAnew (wsV RX8 86 RX7 yX7_shrinkTo wsX7_shrinkTo) := goodIn_app (goodIn_of _ (by decide +kernel)) ggX8_numberTermsAnew_X7_shrinkTo
set_option maxRecDepth 20000 in
theorem ggX8_numberTermsAnew_X3_size : GoodIn wsX8_numberTermsAnew wsX3_size := goodIn_r _ [22, 23, 95, 96, 97, 98, 99] (by decide +kernel) (by decide +kernel)
set_option maxRecDepth 20000 in
theorem gX8_numberTermsAnew_X3_size : GoodIn wsX8_numberTermsAnew (wsV RX8 77 RX3 yX3_size wsX3_size) := goodIn_app (goodIn_of _ (by decide +kernel)) ggX8_numberTermsAnew_X3_size
set_option maxRecDepth 20000 in
theorem ggX8_numberTermsAnew_X3_leftOf : GoodIn wsX8_numberTermsAnew wsX3_leftOf := goodIn_r _ [27, 28, 29, 30, 31, 32, 21, 33, 23, 95, 96, 97, 98, 99] (by decide +kernel) (by decide +kernel)
set_option maxRecDepth 20000 in
theorem gX8_numberTermsAnew_X3_leftOf : GoodIn wsX8_numberTermsAnew (wsV RX8 142 RX3 yX3_leftOf wsX3_leftOf) := goodIn_app (goodIn_of _ (by decide +kernel)) ggX8_numberTermsAnew_X3_leftOf
set_option maxRecDepth 20000 in
theorem ggX8_numberTermsAnew_X8_numberAnew : GoodIn wsX8_numberTermsAnew wsX8_numberAnew := goodIn_r _ [38, 1, 39, 2, 40, 41, 42, 7, 43, 10, 44, 45, 46, 47, 48, 13, 34, 35, 36, 37, 49, 50, 51, 52, 9, 53, 54, 55, 56, 11, 57, 58, 59, 60, 12, 61, 62, 63, 64, 74, 75, 76, 77, 78, 79, 80, 81, 82, 83, 84, 85, 86, 87, 88, 89, 90, 91, 92, 93, 94] (by decide +kernel) (by decide +kernel)
set_option maxRecDepth 20000 in
theorem gX8_numberTermsAnew_X8_numberAnew : GoodIn wsX8_numberTermsAnew (wsV RX8 275 RX8 yX8_numberAnew wsX8_numberAnew) := goodIn_app (goodIn_of _ (by decide +kernel)) ggX8_numberTermsAnew_X8_numberAnew
set_option maxRecDepth 20000 in
theorem ggX8_numberTermsAnew_X3_rightOf : GoodIn wsX8_numberTermsAnew wsX3_rightOf := goodIn_r _ [68, 69, 29, 30, 31, 32, 21, 33, 23, 95, 96, 97, 98, 99] (by decide +kernel) (by decide +kernel)
set_option maxRecDepth 20000 in
theorem gX8_numberTermsAnew_X3_rightOf : GoodIn wsX8_numberTermsAnew (wsV RX8 145 RX3 yX3_rightOf wsX3_rightOf) := goodIn_app (goodIn_of _ (by decide +kernel)) ggX8_numberTermsAnew_X3_rightOf
set_option maxRecDepth 20000 in
theorem ggX8_numberTermsAnew_X3_setTerms : GoodIn wsX8_numberTermsAnew wsX3_setTerms := goodIn_r _ [73, 28, 69, 30, 31, 32, 21, 33, 23, 95, 96, 97, 98, 99] (by decide +kernel) (by decide +kernel)
set_option maxRecDepth 20000 in
theorem gX8_numberTermsAnew_X3_setTerms : GoodIn wsX8_numberTermsAnew (wsV RX8 278 RX3 yX3_setTerms wsX3_setTerms) := goodIn_app (goodIn_of _ (by decide +kernel)) ggX8_numberTermsAnew_X3_setTerms
theorem dX8_numberTermsAnew_0 : decode cX8_numberTermsAnew 0 = .ok (.aload_n 0, 1) := by decide +kernel
theorem dX8_numberTermsAnew_1 : decode cX8_numberTermsAnew 1 = .ok (.getfield 27, 3) := by decide +kernel
theorem dX8_numberTermsAnew_4 : decode cX8_numberTermsAnew 4 = .ok (.aload_n 0, 1) := by decide +kernel
theorem dX8_numberTermsAnew_5 : decode cX8_numberTermsAnew 5 = .ok (.getfield 23, 3) := by decide +kernel
theorem dX8_numberTermsAnew_8 : decode cX8_numberTermsAnew 8 = .ok (.invokevirtual 271, 3) := by decide +kernel
theorem dX8_numberTermsAnew_11 : decode cX8_numberTermsAnew 11 = .ok (.aload_n 0, 1) := by decide +kernel
theorem dX8_numberTermsAnew_12 : decode cX8_numberTermsAnew 12 = .ok (.getfield 23, 3) := by decide +kernel
theorem dX8_numberTermsAnew_15 : decode cX8_numberTermsAnew 15 = .ok (.iconst 5, 1) := by decide +kernel
theorem dX8_numberTermsAnew_16 : decode cX8_numberTermsAnew 16 = .ok (.invokevirtual 86, 3) := by decide +kernel
theorem dX8_numberTermsAnew_19 : decode cX8_numberTermsAnew 19 = .ok (.iconst 0, 1) := by decide +kernel
theorem dX8_numberTermsAnew_20 : decode cX8_numberTermsAnew 20 = .ok (.istore_n 1, 1) := by decide +kernel
theorem dX8_numberTermsAnew_21 : decode cX8_numberTermsAnew 21 = .ok (.iload_n 1, 1) := by decide +kernel
theorem dX8_numberTermsAnew_22 : decode cX8_numberTermsAnew 22 = .ok (.aload_n 0, 1) := by decide +kernel
theorem dX8_numberTermsAnew_23 : decode cX8_numberTermsAnew 23 = .ok (.getfield 33, 3) := by decide +kernel
theorem dX8_numberTermsAnew_26 : decode cX8_numberTermsAnew 26 = .ok (.invokevirtual 77, 3) := by decide +kernel
theorem dX8_numberTermsAnew_29 : decode cX8_numberTermsAnew 29 = .ok (.if_icmp .ge 47, 3) := by decide +kernel
theorem dX8_numberTermsAnew_32 : decode cX8_numberTermsAnew 32 = .ok (.aload_n 0, 1) := by decide +kernel
theorem dX8_numberTermsAnew_33 : decode cX8_numberTermsAnew 33 = .ok (.aload_n 0, 1) := by decide +kernel
theorem dX8_numberTermsAnew_34 : decode cX8_numberTermsAnew 34 = .ok (.getfield 33, 3) := by decide +kernel
theorem dX8_numberTermsAnew_37 : decode cX8_numberTermsAnew 37 = .ok (.iload_n 1, 1) := by decide +kernel
theorem dX8_numberTermsAnew_38 : decode cX8_numberTermsAnew 38 = .ok (.invokevirtual 142, 3) := by decide +kernel
theorem dX8_numberTermsAnew_41 : decode cX8_numberTermsAnew 41 = .ok (.iconst 0, 1) := by decide +kernel
theorem dX8_numberTermsAnew_42 : decode cX8_numberTermsAnew 42 = .ok (.invokevirtual 275, 3) := by decide +kernel
theorem dX8_numberTermsAnew_45 : decode cX8_numberTermsAnew 45 = .ok (.istore_n 2, 1) := by decide +kernel
theorem dX8_numberTermsAnew_46 : decode cX8_numberTermsAnew 46 = .ok (.aload_n 0, 1) := by decide +kernel
theorem dX8_numberTermsAnew_47 : decode cX8_numberTermsAnew 47 = .ok (.aload_n 0, 1) := by decide +kernel
theorem dX8_numberTermsAnew_48 : decode cX8_numberTermsAnew 48 = .ok (.getfield 33, 3) := by decide +kernel
theorem dX8_numberTermsAnew_51 : decode cX8_numberTermsAnew 51 = .ok (.iload_n 1, 1) := by decide +kernel
theorem dX8_numberTermsAnew_52 : decode cX8_numberTermsAnew 52 = .ok (.invokevirtual 145, 3) := by decide +kernel
theorem dX8_numberTermsAnew_55 : decode cX8_numberTermsAnew 55 = .ok (.iconst 0, 1) := by decide +kernel
theorem dX8_numberTermsAnew_56 : decode cX8_numberTermsAnew 56 = .ok (.invokevirtual 275, 3) := by decide +kernel
theorem dX8_numberTermsAnew_59 : decode cX8_numberTermsAnew 59 = .ok (.istore_n 3, 1) := by decide +kernel
theorem dX8_numberTermsAnew_60 : decode cX8_numberTermsAnew 60 = .ok (.aload_n 0, 1) := by decide +kernel
theorem dX8_numberTermsAnew_61 : decode cX8_numberTermsAnew 61 = .ok (.getfield 33, 3) := by decide +kernel
theorem dX8_numberTermsAnew_64 : decode cX8_numberTermsAnew 64 = .ok (.iload_n 1, 1) := by decide +kernel
theorem dX8_numberTermsAnew_65 : decode cX8_numberTermsAnew 65 = .ok (.iload_n 2, 1) := by decide +kernel
theorem dX8_numberTermsAnew_66 : decode cX8_numberTermsAnew 66 = .ok (.iload_n 3, 1) := by decide +kernel
theorem dX8_numberTermsAnew_67 : decode cX8_numberTermsAnew 67 = .ok (.invokevirtual 278, 3) := by decide +kernel
theorem dX8_numberTermsAnew_70 : decode cX8_numberTermsAnew 70 = .ok (.iinc 1 1, 3) := by decide +kernel
theorem dX8_numberTermsAnew_73 : decode cX8_numberTermsAnew 73 = .ok (.goto (-52), 3) := by decide +kernel
theorem dX8_numberTermsAnew_76 : decode cX8_numberTermsAnew 76 = .ok (.return_, 1) := by decide +kernel
set_option maxRecDepth 20000 in
theorem ggX8_numberAnew_X7_firstOf : GoodIn wsX8_numberAnew wsX7_firstOf := goodIn_r _ [8, 9, 10, 11, 12, 13, 7, 14, 15, 55, 56, 57, 58, 59] (by decide +kernel) (by decide +kernel)
set_option maxRecDepth 20000 in
theorem gX8_numberAnew_X7_firstOf : GoodIn wsX8_numberAnew (wsV RX8 150 RX7 yX7_firstOf wsX7_firstOf) := goodIn_app (goodIn_of _ (by decide +kernel)) ggX8_numberAnew_X7_firstOf
set_option maxRecDepth 20000 in
theorem ggX8_numberAnew_X8_numberAnew : GoodIn wsX8_numberAnew wsX8_numberAnew := goodIn_r _ [0, 1, 2, 3, 4, 5, 6, 7, 8, 9, 10, 11, 12, 13, 14, 15, 16, 17, 18, 19, 20, 21, 22, 23, 24, 25, 26, 27, 28, 29, 30, 31, 32, 33, 34, 35, 36, 37, 38, 39, 40, 41, 42, 43, 44, 45, 46, 47, 48, 49, 50, 51, 52, 53, 54, 55, 56, 57, 58, 59] (by decide +kernel) (by decide +kernel)
set_option maxRecDepth 20000 in
theorem gX8_numberAnew_X8_numberAnew : GoodIn wsX8_numberAnew (wsV RX8 275 RX8 yX8_numberAnew wsX8_numberAnew) := goodIn_app (goodIn_of _ (by decide +kernel)) ggX8_numberAnew_X8_numberAnew
set_option maxRecDepth 20000 in
theorem ggX8_numberAnew_X7_kindOf : GoodIn wsX8_numberAnew wsX7_kindOf := goodIn_r _ [23, 24, 11, 12, 13, 7, 14, 15, 55, 56, 57, 58, 59] (by decide +kernel) (by decide +kernel)
set_option maxRecDepth 20000 in
theorem gX8_numberAnew_X7_kindOf : GoodIn wsX8_numberAnew (wsV RX8 149 RX7 yX7_kindOf wsX7_kindOf) := goodIn_app (goodIn_of _ (by decide +kernel)) ggX8_numberAnew_X7_kindOf
set_option maxRecDepth 20000 in
theorem ggX8_numberAnew_X7_secondOf : GoodIn wsX8_numberAnew wsX7_secondOf := goodIn_r _ [28, 29, 10, 11, 12, 13, 7, 14, 15, 55, 56, 57, 58, 59] (by decide +kernel) (by decide +kernel)
set_option maxRecDepth 20000 in
theorem gX8_numberAnew_X7_secondOf : GoodIn wsX8_numberAnew (wsV RX8 153 RX7 yX7_secondOf wsX7_secondOf) := goodIn_app (goodIn_of _ (by decide +kernel)) ggX8_numberAnew_X7_secondOf
set_option maxRecDepth 20000 in
theorem ggX8_numberAnew_X7_numberFor : GoodIn wsX8_numberAnew wsX7_numberFor := goodIn_r _ [33, 15, 24, 9, 29, 10, 34, 35, 36, 37, 7, 38, 11, 12, 13, 14, 55, 56, 57, 58, 59] (by decide +kernel) (by decide +kernel)
set_option maxRecDepth 20000 in
theorem gX8_numberAnew_X7_numberFor : GoodIn wsX8_numberAnew (wsV RX8 281 RX7 yX7_numberFor wsX7_numberFor) := goodIn_app (goodIn_of _ (by decide +kernel)) ggX8_numberAnew_X7_numberFor
theorem dX8_numberAnew_0 : decode cX8_numberAnew 0 = .ok (.iload_n 1, 1) := by decide +kernel
theorem dX8_numberAnew_1 : decode cX8_numberAnew 1 = .ok (.iconst 5, 1) := by decide +kernel
theorem dX8_numberAnew_2 : decode cX8_numberAnew 2 = .ok (.if_icmp .lt 9, 3) := by decide +kernel
theorem dX8_numberAnew_5 : decode cX8_numberAnew 5 = .ok (.iload_n 2, 1) := by decide +kernel
theorem dX8_numberAnew_6 : decode cX8_numberAnew 6 = .ok (.bipush 10, 2) := by decide +kernel
theorem dX8_numberAnew_8 : decode cX8_numberAnew 8 = .ok (.if_icmp .le 5, 3) := by decide +kernel
theorem dX8_numberAnew_11 : decode cX8_numberAnew 11 = .ok (.iload_n 1, 1) := by decide +kernel
theorem dX8_numberAnew_12 : decode cX8_numberAnew 12 = .ok (.ireturn, 1) := by decide +kernel
theorem dX8_numberAnew_13 : decode cX8_numberAnew 13 = .ok (.aload_n 0, 1) := by decide +kernel
theorem dX8_numberAnew_14 : decode cX8_numberAnew 14 = .ok (.aload_n 0, 1) := by decide +kernel
theorem dX8_numberAnew_15 : decode cX8_numberAnew 15 = .ok (.getfield 27, 3) := by decide +kernel
theorem dX8_numberAnew_18 : decode cX8_numberAnew 18 = .ok (.iload_n 1, 1) := by decide +kernel
theorem dX8_numberAnew_19 : decode cX8_numberAnew 19 = .ok (.invokevirtual 150, 3) := by decide +kernel
theorem dX8_numberAnew_22 : decode cX8_numberAnew 22 = .ok (.iload_n 2, 1) := by decide +kernel
theorem dX8_numberAnew_23 : decode cX8_numberAnew 23 = .ok (.iconst 1, 1) := by decide +kernel
theorem dX8_numberAnew_24 : decode cX8_numberAnew 24 = .ok (.iadd, 1) := by decide +kernel
theorem dX8_numberAnew_25 : decode cX8_numberAnew 25 = .ok (.invokevirtual 275, 3) := by decide +kernel
theorem dX8_numberAnew_28 : decode cX8_numberAnew 28 = .ok (.istore_n 3, 1) := by decide +kernel
theorem dX8_numberAnew_29 : decode cX8_numberAnew 29 = .ok (.ldc_w 270, 3) := by decide +kernel
theorem dX8_numberAnew_32 : decode cX8_numberAnew 32 = .ok (.istore 4, 2) := by decide +kernel
theorem dX8_numberAnew_34 : decode cX8_numberAnew 34 = .ok (.aload_n 0, 1) := by decide +kernel
theorem dX8_numberAnew_35 : decode cX8_numberAnew 35 = .ok (.getfield 27, 3) := by decide +kernel
theorem dX8_numberAnew_38 : decode cX8_numberAnew 38 = .ok (.iload_n 1, 1) := by decide +kernel
theorem dX8_numberAnew_39 : decode cX8_numberAnew 39 = .ok (.invokevirtual 149, 3) := by decide +kernel
theorem dX8_numberAnew_42 : decode cX8_numberAnew 42 = .ok (.iconst 2, 1) := by decide +kernel
theorem dX8_numberAnew_43 : decode cX8_numberAnew 43 = .ok (.if_icmp .ne 20, 3) := by decide +kernel
theorem dX8_numberAnew_46 : decode cX8_numberAnew 46 = .ok (.aload_n 0, 1) := by decide +kernel
theorem dX8_numberAnew_47 : decode cX8_numberAnew 47 = .ok (.aload_n 0, 1) := by decide +kernel
theorem dX8_numberAnew_48 : decode cX8_numberAnew 48 = .ok (.getfield 27, 3) := by decide +kernel
theorem dX8_numberAnew_51 : decode cX8_numberAnew 51 = .ok (.iload_n 1, 1) := by decide +kernel
theorem dX8_numberAnew_52 : decode cX8_numberAnew 52 = .ok (.invokevirtual 153, 3) := by decide +kernel
theorem dX8_numberAnew_55 : decode cX8_numberAnew 55 = .ok (.iload_n 2, 1) := by decide +kernel
theorem dX8_numberAnew_56 : decode cX8_numberAnew 56 = .ok (.iconst 1, 1) := by decide +kernel
theorem dX8_numberAnew_57 : decode cX8_numberAnew 57 = .ok (.iadd, 1) := by decide +kernel
theorem dX8_numberAnew_58 : decode cX8_numberAnew 58 = .ok (.invokevirtual 275, 3) := by decide +kernel
theorem dX8_numberAnew_61 : decode cX8_numberAnew 61 = .ok (.istore 4, 2) := by decide +kernel
theorem dX8_numberAnew_63 : decode cX8_numberAnew 63 = .ok (.aload_n 0, 1) := by decide +kernel
