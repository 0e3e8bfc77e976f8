theorem dX7_isRow_7 : decode cX7_isRow 7 = .ok (.iconst 1, 1) := by decide +kernel
theorem dX7_isRow_8 : decode cX7_isRow 8 = .ok (.isub, 1) := by decide +kernel
theorem dX7_isRow_9 : decode cX7_isRow 9 = .ok (.i2l, 1) := by decide +kernel
theorem dX7_isRow_10 : decode cX7_isRow 10 = .ok (.invokestatic 82, 3) := by decide +kernel
theorem dX7_isRow_13 : decode cX7_isRow 13 = .ok (.ireturn, 1) := by decide +kernel
set_option maxRecDepth 20000 in
theorem ggX7_isAim_X7_in : GoodIn wsX7_isAim wsX7_in := goodIn_r _ [5] (by decide +kernel) (by decide +kernel)
set_option maxRecDepth 20000 in
theorem gX7_isAim_X7_in : GoodIn wsX7_isAim (va_wsS RX7 82 yX7_in wsX7_in) := goodIn_app (goodIn_of _ (by decide +kernel)) ggX7_isAim_X7_in
theorem dX7_isAim_0 : decode cX7_isAim 0 = .ok (.iload_n 1, 1) := by decide +kernel
theorem dX7_isAim_1 : decode cX7_isAim 1 = .ok (.i2l, 1) := by decide +kernel
theorem dX7_isAim_2 : decode cX7_isAim 2 = .ok (.lconst 0, 1) := by decide +kernel
theorem dX7_isAim_3 : decode cX7_isAim 3 = .ok (.aload_n 0, 1) := by decide +kernel
theorem dX7_isAim_4 : decode cX7_isAim 4 = .ok (.getfield 89, 3) := by decide +kernel
theorem dX7_isAim_7 : decode cX7_isAim 7 = .ok (.iconst 1, 1) := by decide +kernel
theorem dX7_isAim_8 : decode cX7_isAim 8 = .ok (.isub, 1) := by decide +kernel
theorem dX7_isAim_9 : decode cX7_isAim 9 = .ok (.i2l, 1) := by decide +kernel
theorem dX7_isAim_10 : decode cX7_isAim 10 = .ok (.invokestatic 82, 3) := by decide +kernel
theorem dX7_isAim_13 : decode cX7_isAim 13 = .ok (.ireturn, 1) := by decide +kernel
theorem dX7_anew_0 : decode cX7_anew 0 = .ok (.aload_n 0, 1) := by decide +kernel
theorem dX7_anew_1 : decode cX7_anew 1 = .ok (.iconst 0, 1) := by decide +kernel
theorem dX7_anew_2 : decode cX7_anew 2 = .ok (.putfield 92, 3) := by decide +kernel
theorem dX7_anew_5 : decode cX7_anew 5 = .ok (.aload_n 0, 1) := by decide +kernel
theorem dX7_anew_6 : decode cX7_anew 6 = .ok (.iconst 0, 1) := by decide +kernel
theorem dX7_anew_7 : decode cX7_anew 7 = .ok (.putfield 95, 3) := by decide +kernel
theorem dX7_anew_10 : decode cX7_anew 10 = .ok (.aload_n 0, 1) := by decide +kernel
theorem dX7_anew_11 : decode cX7_anew 11 = .ok (.iconst 0, 1) := by decide +kernel
theorem dX7_anew_12 : decode cX7_anew 12 = .ok (.putfield 98, 3) := by decide +kernel
theorem dX7_anew_15 : decode cX7_anew 15 = .ok (.aload_n 0, 1) := by decide +kernel
theorem dX7_anew_16 : decode cX7_anew 16 = .ok (.iconst 0, 1) := by decide +kernel
theorem dX7_anew_17 : decode cX7_anew 17 = .ok (.putfield 101, 3) := by decide +kernel
theorem dX7_anew_20 : decode cX7_anew 20 = .ok (.aload_n 0, 1) := by decide +kernel
theorem dX7_anew_21 : decode cX7_anew 21 = .ok (.iconst 0, 1) := by decide +kernel
theorem dX7_anew_22 : decode cX7_anew 22 = .ok (.putfield 104, 3) := by decide +kernel
theorem dX7_anew_25 : decode cX7_anew 25 = .ok (.return_, 1) := by decide +kernel
theorem dX7_points_0 : decode cX7_points 0 = .ok (.iconst 1, 1) := by decide +kernel
theorem dX7_points_1 : decode cX7_points 1 = .ok (.istore_n 1, 1) := by decide +kernel
theorem dX7_points_2 : decode cX7_points 2 = .ok (.iconst 0, 1) := by decide +kernel
theorem dX7_points_3 : decode cX7_points 3 = .ok (.istore_n 2, 1) := by decide +kernel
theorem dX7_points_4 : decode cX7_points 4 = .ok (.iload_n 2, 1) := by decide +kernel
theorem dX7_points_5 : decode cX7_points 5 = .ok (.aload_n 0, 1) := by decide +kernel
theorem dX7_points_6 : decode cX7_points 6 = .ok (.getfield 78, 3) := by decide +kernel
theorem dX7_points_9 : decode cX7_points 9 = .ok (.if_icmp .ge 27, 3) := by decide +kernel
theorem dX7_points_12 : decode cX7_points 12 = .ok (.iload_n 1, 1) := by decide +kernel
theorem dX7_points_13 : decode cX7_points 13 = .ok (.aload_n 0, 1) := by decide +kernel
theorem dX7_points_14 : decode cX7_points 14 = .ok (.getfield 13, 3) := by decide +kernel
theorem dX7_points_17 : decode cX7_points 17 = .ok (.iload_n 2, 1) := by decide +kernel
theorem dX7_points_18 : decode cX7_points 18 = .ok (.iaload, 1) := by decide +kernel
theorem dX7_points_19 : decode cX7_points 19 = .ok (.aload_n 0, 1) := by decide +kernel
theorem dX7_points_20 : decode cX7_points 20 = .ok (.getfield 7, 3) := by decide +kernel
theorem dX7_points_23 : decode cX7_points 23 = .ok (.iload_n 2, 1) := by decide +kernel
theorem dX7_points_24 : decode cX7_points 24 = .ok (.iaload, 1) := by decide +kernel
theorem dX7_points_25 : decode cX7_points 25 = .ok (.isub, 1) := by decide +kernel
theorem dX7_points_26 : decode cX7_points 26 = .ok (.iconst 1, 1) := by decide +kernel
theorem dX7_points_27 : decode cX7_points 27 = .ok (.iadd, 1) := by decide +kernel
theorem dX7_points_28 : decode cX7_points 28 = .ok (.imul, 1) := by decide +kernel
theorem dX7_points_29 : decode cX7_points 29 = .ok (.istore_n 1, 1) := by decide +kernel
theorem dX7_points_30 : decode cX7_points 30 = .ok (.iinc 2 1, 3) := by decide +kernel
theorem dX7_points_33 : decode cX7_points 33 = .ok (.goto (-29), 3) := by decide +kernel
theorem dX7_points_36 : decode cX7_points 36 = .ok (.iload_n 1, 1) := by decide +kernel
theorem dX7_points_37 : decode cX7_points 37 = .ok (.ireturn, 1) := by decide +kernel
set_option maxRecDepth 20000 in
theorem ggX7_column_X7_in : GoodIn wsX7_column wsX7_in := goodIn_r _ [13] (by decide +kernel) (by decide +kernel)
set_option maxRecDepth 20000 in
theorem gX7_column_X7_in : GoodIn wsX7_column (va_wsS RX7 82 yX7_in wsX7_in) := goodIn_app (goodIn_of _ (by decide +kernel)) ggX7_column_X7_in
set_option maxRecDepth 20000 in
theorem ggX7_column_X7_points : GoodIn wsX7_column wsX7_points := goodIn_r _ [17, 4, 7, 6, 27, 28, 29, 30, 31, 32, 33, 34, 35, 36, 37, 38, 39, 40, 41, 42, 43, 44, 45, 46, 47, 48, 49, 50, 51, 52, 53, 54, 55, 56] (by decide +kernel) (by decide +kernel)
set_option maxRecDepth 20000 in
theorem gX7_column_X7_points : GoodIn wsX7_column (wsV RX7 113 RX7 yX7_points wsX7_points) := goodIn_app (goodIn_of _ (by decide +kernel)) ggX7_column_X7_points
set_option maxRecDepth 20000 in
theorem ggX7_column_X7_anew : GoodIn wsX7_column wsX7_anew := goodIn_r _ [21, 22, 23, 24, 25, 26, 27, 28, 29, 30, 31, 32, 33, 34, 35, 36, 37, 38, 39, 40, 41, 42, 43, 44, 45, 46, 47, 48, 49, 50, 51, 52, 53, 54, 55, 56] (by decide +kernel) (by decide +kernel)
set_option maxRecDepth 20000 in
theorem gX7_column_X7_anew : GoodIn wsX7_column (wsV RX7 118 RX7 yX7_anew wsX7_anew) := goodIn_app (goodIn_of _ (by decide +kernel)) ggX7_column_X7_anew
theorem dX7_column_0 : decode cX7_column 0 = .ok (.iload_n 1, 1) := by decide +kernel
theorem dX7_column_1 : decode cX7_column 1 = .ok (.i2l, 1) := by decide +kernel
theorem dX7_column_2 : decode cX7_column 2 = .ok (.ldc2_w 108, 3) := by decide +kernel
theorem dX7_column_5 : decode cX7_column 5 = .ok (.ldc2_w 110, 3) := by decide +kernel
theorem dX7_column_8 : decode cX7_column 8 = .ok (.invokestatic 82, 3) := by decide +kernel
theorem dX7_column_11 : decode cX7_column 11 = .ok (.ifCond .eq 16, 3) := by decide +kernel
theorem dX7_column_14 : decode cX7_column 14 = .ok (.iload_n 2, 1) := by decide +kernel
theorem dX7_column_15 : decode cX7_column 15 = .ok (.i2l, 1) := by decide +kernel
theorem dX7_column_16 : decode cX7_column 16 = .ok (.iload_n 1, 1) := by decide +kernel
theorem dX7_column_17 : decode cX7_column 17 = .ok (.i2l, 1) := by decide +kernel
theorem dX7_column_18 : decode cX7_column 18 = .ok (.ldc2_w 110, 3) := by decide +kernel
theorem dX7_column_21 : decode cX7_column 21 = .ok (.invokestatic 82, 3) := by decide +kernel
theorem dX7_column_24 : decode cX7_column 24 = .ok (.ifCond .ne 6, 3) := by decide +kernel
theorem dX7_column_27 : decode cX7_column 27 = .ok (.ldc 112, 2) := by decide +kernel
theorem dX7_column_29 : decode cX7_column 29 = .ok (.ireturn, 1) := by decide +kernel
theorem dX7_column_30 : decode cX7_column 30 = .ok (.aload_n 0, 1) := by decide +kernel
theorem dX7_column_31 : decode cX7_column 31 = .ok (.getfield 78, 3) := by decide +kernel
theorem dX7_column_34 : decode cX7_column 34 = .ok (.bipush 8, 2) := by decide +kernel
theorem dX7_column_36 : decode cX7_column 36 = .ok (.if_icmp .eq 19, 3) := by decide +kernel
theorem dX7_column_39 : decode cX7_column 39 = .ok (.aload_n 0, 1) := by decide +kernel
theorem dX7_column_40 : decode cX7_column 40 = .ok (.invokevirtual 113, 3) := by decide +kernel
theorem dX7_column_43 : decode cX7_column 43 = .ok (.iload_n 2, 1) := by decide +kernel
theorem dX7_column_44 : decode cX7_column 44 = .ok (.iload_n 1, 1) := by decide +kernel
theorem dX7_column_45 : decode cX7_column 45 = .ok (.isub, 1) := by decide +kernel
theorem dX7_column_46 : decode cX7_column 46 = .ok (.iconst 1, 1) := by decide +kernel
theorem dX7_column_47 : decode cX7_column 47 = .ok (.iadd, 1) := by decide +kernel
theorem dX7_column_48 : decode cX7_column 48 = .ok (.imul, 1) := by decide +kernel
theorem dX7_column_49 : decode cX7_column 49 = .ok (.sipush 2000, 3) := by decide +kernel
theorem dX7_column_52 : decode cX7_column 52 = .ok (.if_icmp .le 6, 3) := by decide +kernel
theorem dX7_column_55 : decode cX7_column 55 = .ok (.ldc 117, 2) := by decide +kernel
theorem dX7_column_57 : decode cX7_column 57 = .ok (.ireturn, 1) := by decide +kernel
theorem dX7_column_58 : decode cX7_column 58 = .ok (.aload_n 0, 1) := by decide +kernel
theorem dX7_column_59 : decode cX7_column 59 = .ok (.getfield 7, 3) := by decide +kernel
theorem dX7_column_62 : decode cX7_column 62 = .ok (.aload_n 0, 1) := by decide +kernel
theorem dX7_column_63 : decode cX7_column 63 = .ok (.getfield 78, 3) := by decide +kernel
theorem dX7_column_66 : decode cX7_column 66 = .ok (.iload_n 1, 1) := by decide +kernel
theorem dX7_column_67 : decode cX7_column 67 = .ok (.iastore, 1) := by decide +kernel
theorem dX7_column_68 : decode cX7_column 68 = .ok (.aload_n 0, 1) := by decide +kernel
theorem dX7_column_69 : decode cX7_column 69 = .ok (.getfield 13, 3) := by decide +kernel
theorem dX7_column_72 : decode cX7_column 72 = .ok (.aload_n 0, 1) := by decide +kernel
theorem dX7_column_73 : decode cX7_column 73 = .ok (.getfield 78, 3) := by decide +kernel
theorem dX7_column_76 : decode cX7_column 76 = .ok (.iload_n 2, 1) := by decide +kernel
theorem dX7_column_77 : decode cX7_column 77 = .ok (.iastore, 1) := by decide +kernel
theorem dX7_column_78 : decode cX7_column 78 = .ok (.iconst 0, 1) := by decide +kernel
theorem dX7_column_79 : decode cX7_column 79 = .ok (.istore_n 3, 1) := by decide +kernel
theorem dX7_column_80 : decode cX7_column 80 = .ok (.iload_n 3, 1) := by decide +kernel
theorem dX7_column_81 : decode cX7_column 81 = .ok (.bipush 8, 2) := by decide +kernel
theorem dX7_column_83 : decode cX7_column 83 = .ok (.if_icmp .ge 24, 3) := by decide +kernel
theorem dX7_column_86 : decode cX7_column 86 = .ok (.aload_n 0, 1) := by decide +kernel
theorem dX7_column_87 : decode cX7_column 87 = .ok (.getfield 19, 3) := by decide +kernel
theorem dX7_column_90 : decode cX7_column 90 = .ok (.bipush 8, 2) := by decide +kernel
theorem dX7_column_92 : decode cX7_column 92 = .ok (.iload_n 3, 1) := by decide +kernel
theorem dX7_column_93 : decode cX7_column 93 = .ok (.imul, 1) := by decide +kernel
theorem dX7_column_94 : decode cX7_column 94 = .ok (.aload_n 0, 1) := by decide +kernel
theorem dX7_column_95 : decode cX7_column 95 = .ok (.getfield 78, 3) := by decide +kernel
theorem dX7_column_98 : decode cX7_column 98 = .ok (.iadd, 1) := by decide +kernel
theorem dX7_column_99 : decode cX7_column 99 = .ok (.iconst 0, 1) := by decide +kernel
theorem dX7_column_100 : decode cX7_column 100 = .ok (.iastore, 1) := by decide +kernel
theorem dX7_column_101 : decode cX7_column 101 = .ok (.iinc 3 1, 3) := by decide +kernel
theorem dX7_column_104 : decode cX7_column 104 = .ok (.goto (-24), 3) := by decide +kernel
theorem dX7_column_107 : decode cX7_column 107 = .ok (.iconst 0, 1) := by decide +kernel
theorem dX7_column_108 : decode cX7_column 108 = .ok (.istore_n 3, 1) := by decide +kernel
theorem dX7_column_109 : decode cX7_column 109 = .ok (.iload_n 3, 1) := by decide +kernel
theorem dX7_column_110 : decode cX7_column 110 = .ok (.iconst 4, 1) := by decide +kernel
theorem dX7_column_111 : decode cX7_column 111 = .ok (.if_icmp .ge 24, 3) := by decide +kernel
theorem dX7_column_114 : decode cX7_column 114 = .ok (.aload_n 0, 1) := by decide +kernel
theorem dX7_column_115 : decode cX7_column 115 = .ok (.getfield 22, 3) := by decide +kernel
theorem dX7_column_118 : decode cX7_column 118 = .ok (.bipush 8, 2) := by decide +kernel
theorem dX7_column_120 : decode cX7_column 120 = .ok (.iload_n 3, 1) := by decide +kernel
theorem dX7_column_121 : decode cX7_column 121 = .ok (.imul, 1) := by decide +kernel
theorem dX7_column_122 : decode cX7_column 122 = .ok (.aload_n 0, 1) := by decide +kernel
theorem dX7_column_123 : decode cX7_column 123 = .ok (.getfield 78, 3) := by decide +kernel
theorem dX7_column_126 : decode cX7_column 126 = .ok (.iadd, 1) := by decide +kernel
theorem dX7_column_127 : decode cX7_column 127 = .ok (.iconst 0, 1) := by decide +kernel
theorem dX7_column_128 : decode cX7_column 128 = .ok (.iastore, 1) := by decide +kernel
theorem dX7_column_129 : decode cX7_column 129 = .ok (.iinc 3 1, 3) := by decide +kernel
theorem dX7_column_132 : decode cX7_column 132 = .ok (.goto (-23), 3) := by decide +kernel
theorem dX7_column_135 : decode cX7_column 135 = .ok (.aload_n 0, 1) := by decide +kernel
theorem dX7_column_136 : decode cX7_column 136 = .ok (.dup, 1) := by decide +kernel
theorem dX7_column_137 : decode cX7_column 137 = .ok (.getfield 78, 3) := by decide +kernel
theorem dX7_column_140 : decode cX7_column 140 = .ok (.iconst 1, 1) := by decide +kernel
theorem dX7_column_141 : decode cX7_column 141 = .ok (.iadd, 1) := by decide +kernel
theorem dX7_column_142 : decode cX7_column 142 = .ok (.putfield 78, 3) := by decide +kernel
theorem dX7_column_145 : decode cX7_column 145 = .ok (.aload_n 0, 1) := by decide +kernel
theorem dX7_column_146 : decode cX7_column 146 = .ok (.invokevirtual 118, 3) := by decide +kernel
theorem dX7_column_149 : decode cX7_column 149 = .ok (.aload_n 0, 1) := by decide +kernel
theorem dX7_column_150 : decode cX7_column 150 = .ok (.getfield 78, 3) := by decide +kernel
theorem dX7_column_153 : decode cX7_column 153 = .ok (.iconst 1, 1) := by decide +kernel
theorem dX7_column_154 : decode cX7_column 154 = .ok (.isub, 1) := by decide +kernel
theorem dX7_column_155 : decode cX7_column 155 = .ok (.ireturn, 1) := by decide +kernel
set_option maxRecDepth 20000 in
theorem ggX7_row_X7_in : GoodIn wsX7_row wsX7_in := goodIn_r _ [11] (by decide +kernel) (by decide +kernel)
set_option maxRecDepth 20000 in
theorem gX7_row_X7_in : GoodIn wsX7_row (va_wsS RX7 82 yX7_in wsX7_in) := goodIn_app (goodIn_of _ (by decide +kernel)) ggX7_row_X7_in
set_option maxRecDepth 20000 in
theorem ggX7_row_X7_anew : GoodIn wsX7_row wsX7_anew := goodIn_r _ [15, 16, 17, 18, 19, 20, 21, 22, 23, 24, 25, 26, 27, 28, 29, 30, 31, 32, 33, 34, 35, 36, 37, 38, 39, 40, 41, 42, 43, 44, 45, 46, 47, 48, 49, 50] (by decide +kernel) (by decide +kernel)
set_option maxRecDepth 20000 in
theorem gX7_row_X7_anew : GoodIn wsX7_row (wsV RX7 118 RX7 yX7_anew wsX7_anew) := goodIn_app (goodIn_of _ (by decide +kernel)) ggX7_row_X7_anew
theorem dX7_row_0 : decode cX7_row 0 = .ok (.iload_n 1, 1) := by decide +kernel
theorem dX7_row_1 : decode cX7_row 1 = .ok (.i2l, 1) := by decide +kernel
theorem dX7_row_2 : decode cX7_row 2 = .ok (.ldc2_w 121, 3) := by decide +kernel
theorem dX7_row_5 : decode cX7_row 5 = .ok (.ldc2_w 123, 3) := by decide +kernel
theorem dX7_row_8 : decode cX7_row 8 = .ok (.invokestatic 82, 3) := by decide +kernel
theorem dX7_row_11 : decode cX7_row 11 = .ok (.ifCond .ne 6, 3) := by decide +kernel
theorem dX7_row_14 : decode cX7_row 14 = .ok (.ldc 112, 2) := by decide +kernel
theorem dX7_row_16 : decode cX7_row 16 = .ok (.ireturn, 1) := by decide +kernel
theorem dX7_row_17 : decode cX7_row 17 = .ok (.aload_n 0, 1) := by decide +kernel
theorem dX7_row_18 : decode cX7_row 18 = .ok (.getfield 86, 3) := by decide +kernel
theorem dX7_row_21 : decode cX7_row 21 = .ok (.bipush 8, 2) := by decide +kernel
theorem dX7_row_23 : decode cX7_row 23 = .ok (.if_icmp .ne 6, 3) := by decide +kernel
theorem dX7_row_26 : decode cX7_row 26 = .ok (.ldc 117, 2) := by decide +kernel
theorem dX7_row_28 : decode cX7_row 28 = .ok (.ireturn, 1) := by decide +kernel
theorem dX7_row_29 : decode cX7_row 29 = .ok (.aload_n 0, 1) := by decide +kernel
theorem dX7_row_30 : decode cX7_row 30 = .ok (.getfield 16, 3) := by decide +kernel
theorem dX7_row_33 : decode cX7_row 33 = .ok (.aload_n 0, 1) := by decide +kernel
theorem dX7_row_34 : decode cX7_row 34 = .ok (.getfield 86, 3) := by decide +kernel
theorem dX7_row_37 : decode cX7_row 37 = .ok (.iload_n 1, 1) := by decide +kernel
theorem dX7_row_38 : decode cX7_row 38 = .ok (.iastore, 1) := by decide +kernel
theorem dX7_row_39 : decode cX7_row 39 = .ok (.iconst 0, 1) := by decide +kernel
theorem dX7_row_40 : decode cX7_row 40 = .ok (.istore_n 2, 1) := by decide +kernel
theorem dX7_row_41 : decode cX7_row 41 = .ok (.iload_n 2, 1) := by decide +kernel
theorem dX7_row_42 : decode cX7_row 42 = .ok (.bipush 8, 2) := by decide +kernel
theorem dX7_row_44 : decode cX7_row 44 = .ok (.if_icmp .ge 24, 3) := by decide +kernel
theorem dX7_row_47 : decode cX7_row 47 = .ok (.aload_n 0, 1) := by decide +kernel
theorem dX7_row_48 : decode cX7_row 48 = .ok (.getfield 19, 3) := by decide +kernel
theorem dX7_row_51 : decode cX7_row 51 = .ok (.bipush 8, 2) := by decide +kernel
theorem dX7_row_53 : decode cX7_row 53 = .ok (.aload_n 0, 1) := by decide +kernel
theorem dX7_row_54 : decode cX7_row 54 = .ok (.getfield 86, 3) := by decide +kernel
theorem dX7_row_57 : decode cX7_row 57 = .ok (.imul, 1) := by decide +kernel
theorem dX7_row_58 : decode cX7_row 58 = .ok (.iload_n 2, 1) := by decide +kernel
theorem dX7_row_59 : decode cX7_row 59 = .ok (.iadd, 1) := by decide +kernel
theorem dX7_row_60 : decode cX7_row 60 = .ok (.iconst 0, 1) := by decide +kernel
theorem dX7_row_61 : decode cX7_row 61 = .ok (.iastore, 1) := by decide +kernel
theorem dX7_row_62 : decode cX7_row 62 = .ok (.iinc 2 1, 3) := by decide +kernel
theorem dX7_row_65 : decode cX7_row 65 = .ok (.goto (-24), 3) := by decide +kernel
theorem dX7_row_68 : decode cX7_row 68 = .ok (.aload_n 0, 1) := by decide +kernel
theorem dX7_row_69 : decode cX7_row 69 = .ok (.dup, 1) := by decide +kernel
theorem dX7_row_70 : decode cX7_row 70 = .ok (.getfield 86, 3) := by decide +kernel
theorem dX7_row_73 : decode cX7_row 73 = .ok (.iconst 1, 1) := by decide +kernel
theorem dX7_row_74 : decode cX7_row 74 = .ok (.iadd, 1) := by decide +kernel
theorem dX7_row_75 : decode cX7_row 75 = .ok (.putfield 86, 3) := by decide +kernel
theorem dX7_row_78 : decode cX7_row 78 = .ok (.aload_n 0, 1) := by decide +kernel
theorem dX7_row_79 : decode cX7_row 79 = .ok (.invokevirtual 118, 3) := by decide +kernel
theorem dX7_row_82 : decode cX7_row 82 = .ok (.aload_n 0, 1) := by decide +kernel
theorem dX7_row_83 : decode cX7_row 83 = .ok (.getfield 86, 3) := by decide +kernel
theorem dX7_row_86 : decode cX7_row 86 = .ok (.iconst 1, 1) := by decide +kernel
theorem dX7_row_87 : decode cX7_row 87 = .ok (.isub, 1) := by decide +kernel
theorem dX7_row_88 : decode cX7_row 88 = .ok (.ireturn, 1) := by decide +kernel
set_option maxRecDepth 20000 in
theorem ggX7_term_X7_isRow : GoodIn wsX7_term wsX7_isRow := goodIn_r _ [9, 10, 11, 12, 8, 13, 28, 29, 30, 31, 32, 33, 34, 35, 36, 37, 38, 39, 40, 41, 42, 43, 44, 45, 46, 47, 48, 49, 50, 51, 52, 53, 54, 55, 56, 57] (by decide +kernel) (by decide +kernel)
set_option maxRecDepth 20000 in
theorem gX7_term_X7_isRow : GoodIn wsX7_term (wsV RX7 125 RX7 yX7_isRow wsX7_isRow) := goodIn_app (goodIn_of _ (by decide +kernel)) ggX7_term_X7_isRow
set_option maxRecDepth 20000 in
theorem ggX7_term_X7_isColumn : GoodIn wsX7_term wsX7_isColumn := goodIn_r _ [17, 18, 11, 12, 8, 13, 28, 29, 30, 31, 32, 33, 34, 35, 36, 37, 38, 39, 40, 41, 42, 43, 44, 45, 46, 47, 48, 49, 50, 51, 52, 53, 54, 55, 56, 57] (by decide +kernel) (by decide +kernel)
set_option maxRecDepth 20000 in
theorem gX7_term_X7_isColumn : GoodIn wsX7_term (wsV RX7 129 RX7 yX7_isColumn wsX7_isColumn) := goodIn_app (goodIn_of _ (by decide +kernel)) ggX7_term_X7_isColumn
set_option maxRecDepth 20000 in
theorem ggX7_term_X7_in : GoodIn wsX7_term wsX7_in := goodIn_r _ [13] (by decide +kernel) (by decide +kernel)
set_option maxRecDepth 20000 in
theorem gX7_term_X7_in : GoodIn wsX7_term (va_wsS RX7 82 yX7_in wsX7_in) := goodIn_app (goodIn_of _ (by decide +kernel)) ggX7_term_X7_in
set_option maxRecDepth 20000 in
theorem ggX7_term_X7_anew : GoodIn wsX7_term wsX7_anew := goodIn_r _ [22, 23, 24, 25, 26, 27, 28, 29, 30, 31, 32, 33, 34, 35, 36, 37, 38, 39, 40, 41, 42, 43, 44, 45, 46, 47, 48, 49, 50, 51, 52, 53, 54, 55, 56, 57] (by decide +kernel) (by decide +kernel)
set_option maxRecDepth 20000 in
theorem gX7_term_X7_anew : GoodIn wsX7_term (wsV RX7 118 RX7 yX7_anew wsX7_anew) := goodIn_app (goodIn_of _ (by decide +kernel)) ggX7_term_X7_anew
theorem dX7_term_0 : decode cX7_term 0 = .ok (.aload_n 0, 1) := by decide +kernel
theorem dX7_term_1 : decode cX7_term 1 = .ok (.iload_n 1, 1) := by decide +kernel
theorem dX7_term_2 : decode cX7_term 2 = .ok (.invokevirtual 125, 3) := by decide +kernel
theorem dX7_term_5 : decode cX7_term 5 = .ok (.ifCond .eq 25, 3) := by decide +kernel
theorem dX7_term_8 : decode cX7_term 8 = .ok (.aload_n 0, 1) := by decide +kernel
theorem dX7_term_9 : decode cX7_term 9 = .ok (.iload_n 2, 1) := by decide +kernel
theorem dX7_term_10 : decode cX7_term 10 = .ok (.invokevirtual 129, 3) := by decide +kernel
theorem dX7_term_13 : decode cX7_term 13 = .ok (.ifCond .eq 17, 3) := by decide +kernel
theorem dX7_term_16 : decode cX7_term 16 = .ok (.iload_n 3, 1) := by decide +kernel
theorem dX7_term_17 : decode cX7_term 17 = .ok (.i2l, 1) := by decide +kernel
theorem dX7_term_18 : decode cX7_term 18 = .ok (.ldc2_w 132, 3) := by decide +kernel
theorem dX7_term_21 : decode cX7_term 21 = .ok (.ldc2_w 134, 3) := by decide +kernel
theorem dX7_term_24 : decode cX7_term 24 = .ok (.invokestatic 82, 3) := by decide +kernel
theorem dX7_term_27 : decode cX7_term 27 = .ok (.ifCond .ne 6, 3) := by decide +kernel
theorem dX7_term_30 : decode cX7_term 30 = .ok (.ldc 112, 2) := by decide +kernel
theorem dX7_term_32 : decode cX7_term 32 = .ok (.ireturn, 1) := by decide +kernel
theorem dX7_term_33 : decode cX7_term 33 = .ok (.aload_n 0, 1) := by decide +kernel
theorem dX7_term_34 : decode cX7_term 34 = .ok (.getfield 19, 3) := by decide +kernel
theorem dX7_term_37 : decode cX7_term 37 = .ok (.bipush 8, 2) := by decide +kernel
theorem dX7_term_39 : decode cX7_term 39 = .ok (.iload_n 1, 1) := by decide +kernel
theorem dX7_term_40 : decode cX7_term 40 = .ok (.imul, 1) := by decide +kernel
theorem dX7_term_41 : decode cX7_term 41 = .ok (.iload_n 2, 1) := by decide +kernel
theorem dX7_term_42 : decode cX7_term 42 = .ok (.iadd, 1) := by decide +kernel
theorem dX7_term_43 : decode cX7_term 43 = .ok (.iaload, 1) := by decide +kernel
theorem dX7_term_44 : decode cX7_term 44 = .ok (.istore 4, 2) := by decide +kernel
theorem dX7_term_46 : decode cX7_term 46 = .ok (.aload_n 0, 1) := by decide +kernel
theorem dX7_term_47 : decode cX7_term 47 = .ok (.getfield 19, 3) := by decide +kernel
theorem dX7_term_50 : decode cX7_term 50 = .ok (.bipush 8, 2) := by decide +kernel
theorem dX7_term_52 : decode cX7_term 52 = .ok (.iload_n 1, 1) := by decide +kernel
theorem dX7_term_53 : decode cX7_term 53 = .ok (.imul, 1) := by decide +kernel
theorem dX7_term_54 : decode cX7_term 54 = .ok (.iload_n 2, 1) := by decide +kernel
theorem dX7_term_55 : decode cX7_term 55 = .ok (.iadd, 1) := by decide +kernel
theorem dX7_term_56 : decode cX7_term 56 = .ok (.iload_n 3, 1) := by decide +kernel
theorem dX7_term_57 : decode cX7_term 57 = .ok (.iastore, 1) := by decide +kernel
theorem dX7_term_58 : decode cX7_term 58 = .ok (.aload_n 0, 1) := by decide +kernel
theorem dX7_term_59 : decode cX7_term 59 = .ok (.invokevirtual 118, 3) := by decide +kernel
theorem dX7_term_62 : decode cX7_term 62 = .ok (.iload 4, 2) := by decide +kernel
theorem dX7_term_64 : decode cX7_term 64 = .ok (.ireturn, 1) := by decide +kernel
set_option maxRecDepth 20000 in
theorem ggX7_aim_X7_anew : GoodIn wsX7_aim wsX7_anew := goodIn_r _ [10, 11, 12, 13, 14, 15, 16, 17, 18, 19, 20, 21, 22, 23, 24, 25, 26, 27, 28, 29, 30, 31, 32, 33, 34, 35, 36, 37, 38, 39, 40, 41, 42, 43, 44, 45] (by decide +kernel) (by decide +kernel)
set_option maxRecDepth 20000 in
theorem gX7_aim_X7_anew : GoodIn wsX7_aim (wsV RX7 118 RX7 yX7_anew wsX7_anew) := goodIn_app (goodIn_of _ (by decide +kernel)) ggX7_aim_X7_anew
theorem dX7_aim_0 : decode cX7_aim 0 = .ok (.aload_n 0, 1) := by decide +kernel
theorem dX7_aim_1 : decode cX7_aim 1 = .ok (.getfield 89, 3) := by decide +kernel
theorem dX7_aim_4 : decode cX7_aim 4 = .ok (.iconst 4, 1) := by decide +kernel
theorem dX7_aim_5 : decode cX7_aim 5 = .ok (.if_icmp .ne 6, 3) := by decide +kernel
theorem dX7_aim_8 : decode cX7_aim 8 = .ok (.ldc 117, 2) := by decide +kernel
theorem dX7_aim_10 : decode cX7_aim 10 = .ok (.ireturn, 1) := by decide +kernel
theorem dX7_aim_11 : decode cX7_aim 11 = .ok (.aload_n 0, 1) := by decide +kernel
theorem dX7_aim_12 : decode cX7_aim 12 = .ok (.getfield 25, 3) := by decide +kernel
theorem dX7_aim_15 : decode cX7_aim 15 = .ok (.aload_n 0, 1) := by decide +kernel
theorem dX7_aim_16 : decode cX7_aim 16 = .ok (.getfield 89, 3) := by decide +kernel
theorem dX7_aim_19 : decode cX7_aim 19 = .ok (.sipush (-2000), 3) := by decide +kernel
theorem dX7_aim_22 : decode cX7_aim 22 = .ok (.iastore, 1) := by decide +kernel
theorem dX7_aim_23 : decode cX7_aim 23 = .ok (.aload_n 0, 1) := by decide +kernel
theorem dX7_aim_24 : decode cX7_aim 24 = .ok (.getfield 28, 3) := by decide +kernel
theorem dX7_aim_27 : decode cX7_aim 27 = .ok (.aload_n 0, 1) := by decide +kernel
theorem dX7_aim_28 : decode cX7_aim 28 = .ok (.getfield 89, 3) := by decide +kernel
theorem dX7_aim_31 : decode cX7_aim 31 = .ok (.sipush 2000, 3) := by decide +kernel
theorem dX7_aim_34 : decode cX7_aim 34 = .ok (.iastore, 1) := by decide +kernel
theorem dX7_aim_35 : decode cX7_aim 35 = .ok (.iconst 0, 1) := by decide +kernel
theorem dX7_aim_36 : decode cX7_aim 36 = .ok (.istore_n 1, 1) := by decide +kernel
theorem dX7_aim_37 : decode cX7_aim 37 = .ok (.iload_n 1, 1) := by decide +kernel
theorem dX7_aim_38 : decode cX7_aim 38 = .ok (.bipush 8, 2) := by decide +kernel
theorem dX7_aim_40 : decode cX7_aim 40 = .ok (.if_icmp .ge 24, 3) := by decide +kernel
theorem dX7_aim_43 : decode cX7_aim 43 = .ok (.aload_n 0, 1) := by decide +kernel
theorem dX7_aim_44 : decode cX7_aim 44 = .ok (.getfield 22, 3) := by decide +kernel
theorem dX7_aim_47 : decode cX7_aim 47 = .ok (.bipush 8, 2) := by decide +kernel
theorem dX7_aim_49 : decode cX7_aim 49 = .ok (.aload_n 0, 1) := by decide +kernel
theorem dX7_aim_50 : decode cX7_aim 50 = .ok (.getfield 89, 3) := by decide +kernel
theorem dX7_aim_53 : decode cX7_aim 53 = .ok (.imul, 1) := by decide +kernel
theorem dX7_aim_54 : decode cX7_aim 54 = .ok (.iload_n 1, 1) := by decide +kernel
theorem dX7_aim_55 : decode cX7_aim 55 = .ok (.iadd, 1) := by decide +kernel
theorem dX7_aim_56 : decode cX7_aim 56 = .ok (.iconst 0, 1) := by decide +kernel
theorem dX7_aim_57 : decode cX7_aim 57 = .ok (.iastore, 1) := by decide +kernel
theorem dX7_aim_58 : decode cX7_aim 58 = .ok (.iinc 1 1, 3) := by decide +kernel
theorem dX7_aim_61 : decode cX7_aim 61 = .ok (.goto (-24), 3) := by decide +kernel
theorem dX7_aim_64 : decode cX7_aim 64 = .ok (.aload_n 0, 1) := by decide +kernel
theorem dX7_aim_65 : decode cX7_aim 65 = .ok (.dup, 1) := by decide +kernel
theorem dX7_aim_66 : decode cX7_aim 66 = .ok (.getfield 89, 3) := by decide +kernel
theorem dX7_aim_69 : decode cX7_aim 69 = .ok (.iconst 1, 1) := by decide +kernel
theorem dX7_aim_70 : decode cX7_aim 70 = .ok (.iadd, 1) := by decide +kernel
theorem dX7_aim_71 : decode cX7_aim 71 = .ok (.putfield 89, 3) := by decide +kernel
theorem dX7_aim_74 : decode cX7_aim 74 = .ok (.aload_n 0, 1) := by decide +kernel
theorem dX7_aim_75 : decode cX7_aim 75 = .ok (.invokevirtual 118, 3) := by decide +kernel
theorem dX7_aim_78 : decode cX7_aim 78 = .ok (.aload_n 0, 1) := by decide +kernel
theorem dX7_aim_79 : decode cX7_aim 79 = .ok (.getfield 89, 3) := by decide +kernel
theorem dX7_aim_82 : decode cX7_aim 82 = .ok (.iconst 1, 1) := by decide +kernel
theorem dX7_aim_83 : decode cX7_aim 83 = .ok (.isub, 1) := by decide +kernel
theorem dX7_aim_84 : decode cX7_aim 84 = .ok (.ireturn, 1) := by decide +kernel
set_option maxRecDepth 20000 in
theorem ggX7_cost_X7_isAim : GoodIn wsX7_cost wsX7_isAim := goodIn_r _ [9, 10, 11, 12, 8, 13, 28, 29, 30, 31, 32, 33, 34, 35, 36, 37, 38, 39, 40, 41, 42, 43, 44, 45, 46, 47, 48, 49, 50, 51, 52, 53, 54, 55, 56, 57] (by decide +kernel) (by decide +kernel)
set_option maxRecDepth 20000 in
theorem gX7_cost_X7_isAim : GoodIn wsX7_cost (wsV RX7 136 RX7 yX7_isAim wsX7_isAim) := goodIn_app (goodIn_of _ (by decide +kernel)) ggX7_cost_X7_isAim
set_option maxRecDepth 20000 in
theorem ggX7_cost_X7_isColumn : GoodIn wsX7_cost wsX7_isColumn := goodIn_r _ [17, 18, 11, 12, 8, 13, 28, 29, 30, 31, 32, 33, 34, 35, 36, 37, 38, 39, 40, 41, 42, 43, 44, 45, 46, 47, 48, 49, 50, 51, 52, 53, 54, 55, 56, 57] (by decide +kernel) (by decide +kernel)
set_option maxRecDepth 20000 in
theorem gX7_cost_X7_isColumn : GoodIn wsX7_cost (wsV RX7 129 RX7 yX7_isColumn wsX7_isColumn) := goodIn_app (goodIn_of _ (by decide +kernel)) ggX7_cost_X7_isColumn
set_option maxRecDepth 20000 in
theorem ggX7_cost_X7_in : GoodIn wsX7_cost wsX7_in := goodIn_r _ [13] (by decide +kernel) (by decide +kernel)
set_option maxRecDepth 20000 in
theorem gX7_cost_X7_in : GoodIn wsX7_cost (va_wsS RX7 82 yX7_in wsX7_in) := goodIn_app (goodIn_of _ (by decide +kernel)) ggX7_cost_X7_in
set_option maxRecDepth 20000 in
theorem ggX7_cost_X7_anew : GoodIn wsX7_cost wsX7_anew := goodIn_r _ [22, 23, 24, 25, 26, 27, 28, 29, 30, 31, 32, 33, 34, 35, 36, 37, 38, 39, 40, 41, 42, 43, 44, 45, 46, 47, 48, 49, 50, 51, 52, 53, 54, 55, 56, 57] (by decide +kernel) (by decide +kernel)
set_option maxRecDepth 20000 in
theorem gX7_cost_X7_anew : GoodIn wsX7_cost (wsV RX7 118 RX7 yX7_anew wsX7_anew) := goodIn_app (goodIn_of _ (by decide +kernel)) ggX7_cost_X7_anew
theorem dX7_cost_0 : decode cX7_cost 0 = .ok (.aload_n 0, 1) := by decide +kernel
theorem dX7_cost_1 : decode cX7_cost 1 = .ok (.iload_n 1, 1) := by decide +kernel
theorem dX7_cost_2 : decode cX7_cost 2 = .ok (.invokevirtual 136, 3) := by decide +kernel
theorem dX7_cost_5 : decode cX7_cost 5 = .ok (.ifCond .eq 25, 3) := by decide +kernel
theorem dX7_cost_8 : decode cX7_cost 8 = .ok (.aload_n 0, 1) := by decide +kernel
theorem dX7_cost_9 : decode cX7_cost 9 = .ok (.iload_n 2, 1) := by decide +kernel
theorem dX7_cost_10 : decode cX7_cost 10 = .ok (.invokevirtual 129, 3) := by decide +kernel
theorem dX7_cost_13 : decode cX7_cost 13 = .ok (.ifCond .eq 17, 3) := by decide +kernel
theorem dX7_cost_16 : decode cX7_cost 16 = .ok (.iload_n 3, 1) := by decide +kernel
theorem dX7_cost_17 : decode cX7_cost 17 = .ok (.i2l, 1) := by decide +kernel
theorem dX7_cost_18 : decode cX7_cost 18 = .ok (.ldc2_w 132, 3) := by decide +kernel
theorem dX7_cost_21 : decode cX7_cost 21 = .ok (.ldc2_w 134, 3) := by decide +kernel
theorem dX7_cost_24 : decode cX7_cost 24 = .ok (.invokestatic 82, 3) := by decide +kernel
theorem dX7_cost_27 : decode cX7_cost 27 = .ok (.ifCond .ne 6, 3) := by decide +kernel
theorem dX7_cost_30 : decode cX7_cost 30 = .ok (.ldc 112, 2) := by decide +kernel
theorem dX7_cost_32 : decode cX7_cost 32 = .ok (.ireturn, 1) := by decide +kernel
theorem dX7_cost_33 : decode cX7_cost 33 = .ok (.aload_n 0, 1) := by decide +kernel
theorem dX7_cost_34 : decode cX7_cost 34 = .ok (.getfield 22, 3) := by decide +kernel
theorem dX7_cost_37 : decode cX7_cost 37 = .ok (.bipush 8, 2) := by decide +kernel
theorem dX7_cost_39 : decode cX7_cost 39 = .ok (.iload_n 1, 1) := by decide +kernel
theorem dX7_cost_40 : decode cX7_cost 40 = .ok (.imul, 1) := by decide +kernel
theorem dX7_cost_41 : decode cX7_cost 41 = .ok (.iload_n 2, 1) := by decide +kernel
theorem dX7_cost_42 : decode cX7_cost 42 = .ok (.iadd, 1) := by decide +kernel
theorem dX7_cost_43 : decode cX7_cost 43 = .ok (.iaload, 1) := by decide +kernel
theorem dX7_cost_44 : decode cX7_cost 44 = .ok (.istore 4, 2) := by decide +kernel
theorem dX7_cost_46 : decode cX7_cost 46 = .ok (.aload_n 0, 1) := by decide +kernel
theorem dX7_cost_47 : decode cX7_cost 47 = .ok (.getfield 22, 3) := by decide +kernel
theorem dX7_cost_50 : decode cX7_cost 50 = .ok (.bipush 8, 2) := by decide +kernel
theorem dX7_cost_52 : decode cX7_cost 52 = .ok (.iload_n 1, 1) := by decide +kernel
theorem dX7_cost_53 : decode cX7_cost 53 = .ok (.imul, 1) := by decide +kernel
theorem dX7_cost_54 : decode cX7_cost 54 = .ok (.iload_n 2, 1) := by decide +kernel
theorem dX7_cost_55 : decode cX7_cost 55 = .ok (.iadd, 1) := by decide +kernel
theorem dX7_cost_56 : decode cX7_cost 56 = .ok (.iload_n 3, 1) := by decide +kernel
theorem dX7_cost_57 : decode cX7_cost 57 = .ok (.iastore, 1) := by decide +kernel
theorem dX7_cost_58 : decode cX7_cost 58 = .ok (.aload_n 0, 1) := by decide +kernel
theorem dX7_cost_59 : decode cX7_cost 59 = .ok (.invokevirtual 118, 3) := by decide +kernel
theorem dX7_cost_62 : decode cX7_cost 62 = .ok (.iload 4, 2) := by decide +kernel
theorem dX7_cost_64 : decode cX7_cost 64 = .ok (.ireturn, 1) := by decide +kernel
set_option maxRecDepth 20000 in
theorem ggX7_part_X7_isAim : GoodIn wsX7_part wsX7_isAim := goodIn_r _ [10, 11, 12, 13, 9, 14, 24, 25, 26, 27, 28, 29, 30, 31, 32, 33, 34, 35, 36, 37, 38, 39, 40, 41, 42, 43, 44, 45, 46, 47, 48, 49, 50, 51, 52, 53] (by decide +kernel) (by decide +kernel)
set_option maxRecDepth 20000 in
theorem gX7_part_X7_isAim : GoodIn wsX7_part (wsV RX7 136 RX7 yX7_isAim wsX7_isAim) := goodIn_app (goodIn_of _ (by decide +kernel)) ggX7_part_X7_isAim
set_option maxRecDepth 20000 in
theorem ggX7_part_X7_in : GoodIn wsX7_part wsX7_in := goodIn_r _ [14] (by decide +kernel) (by decide +kernel)
set_option maxRecDepth 20000 in
theorem gX7_part_X7_in : GoodIn wsX7_part (va_wsS RX7 82 yX7_in wsX7_in) := goodIn_app (goodIn_of _ (by decide +kernel)) ggX7_part_X7_in
set_option maxRecDepth 20000 in
theorem ggX7_part_X7_anew : GoodIn wsX7_part wsX7_anew := goodIn_r _ [18, 19, 20, 21, 22, 23, 24, 25, 26, 27, 28, 29, 30, 31, 32, 33, 34, 35, 36, 37, 38, 39, 40, 41, 42, 43, 44, 45, 46, 47, 48, 49, 50, 51, 52, 53] (by decide +kernel) (by decide +kernel)
set_option maxRecDepth 20000 in
theorem gX7_part_X7_anew : GoodIn wsX7_part (wsV RX7 118 RX7 yX7_anew wsX7_anew) := goodIn_app (goodIn_of _ (by decide +kernel)) ggX7_part_X7_anew
theorem dX7_part_0 : decode cX7_part 0 = .ok (.aload_n 0, 1) := by decide +kernel
theorem dX7_part_1 : decode cX7_part 1 = .ok (.iload_n 1, 1) := by decide +kernel
theorem dX7_part_2 : decode cX7_part 2 = .ok (.invokevirtual 136, 3) := by decide +kernel
theorem dX7_part_5 : decode cX7_part 5 = .ok (.ifCond .eq 30, 3) := by decide +kernel
theorem dX7_part_8 : decode cX7_part 8 = .ok (.iload_n 2, 1) := by decide +kernel
theorem dX7_part_9 : decode cX7_part 9 = .ok (.i2l, 1) := by decide +kernel
theorem dX7_part_10 : decode cX7_part 10 = .ok (.ldc2_w 139, 3) := by decide +kernel
theorem dX7_part_13 : decode cX7_part 13 = .ok (.ldc2_w 141, 3) := by decide +kernel
theorem dX7_part_16 : decode cX7_part 16 = .ok (.invokestatic 82, 3) := by decide +kernel
theorem dX7_part_19 : decode cX7_part 19 = .ok (.ifCond .eq 16, 3) := by decide +kernel
theorem dX7_part_22 : decode cX7_part 22 = .ok (.iload_n 3, 1) := by decide +kernel
theorem dX7_part_23 : decode cX7_part 23 = .ok (.i2l, 1) := by decide +kernel
theorem dX7_part_24 : decode cX7_part 24 = .ok (.iload_n 2, 1) := by decide +kernel
theorem dX7_part_25 : decode cX7_part 25 = .ok (.i2l, 1) := by decide +kernel
theorem dX7_part_26 : decode cX7_part 26 = .ok (.ldc2_w 141, 3) := by decide +kernel
theorem dX7_part_29 : decode cX7_part 29 = .ok (.invokestatic 82, 3) := by decide +kernel
theorem dX7_part_32 : decode cX7_part 32 = .ok (.ifCond .ne 6, 3) := by decide +kernel
theorem dX7_part_35 : decode cX7_part 35 = .ok (.ldc 112, 2) := by decide +kernel
theorem dX7_part_37 : decode cX7_part 37 = .ok (.ireturn, 1) := by decide +kernel
theorem dX7_part_38 : decode cX7_part 38 = .ok (.aload_n 0, 1) := by decide +kernel
theorem dX7_part_39 : decode cX7_part 39 = .ok (.getfield 25, 3) := by decide +kernel
theorem dX7_part_42 : decode cX7_part 42 = .ok (.iload_n 1, 1) := by decide +kernel
theorem dX7_part_43 : decode cX7_part 43 = .ok (.iload_n 2, 1) := by decide +kernel
theorem dX7_part_44 : decode cX7_part 44 = .ok (.iastore, 1) := by decide +kernel
theorem dX7_part_45 : decode cX7_part 45 = .ok (.aload_n 0, 1) := by decide +kernel
theorem dX7_part_46 : decode cX7_part 46 = .ok (.getfield 28, 3) := by decide +kernel
theorem dX7_part_49 : decode cX7_part 49 = .ok (.iload_n 1, 1) := by decide +kernel
theorem dX7_part_50 : decode cX7_part 50 = .ok (.iload_n 3, 1) := by decide +kernel
theorem dX7_part_51 : decode cX7_part 51 = .ok (.iastore, 1) := by decide +kernel
theorem dX7_part_52 : decode cX7_part 52 = .ok (.aload_n 0, 1) := by decide +kernel
theorem dX7_part_53 : decode cX7_part 53 = .ok (.invokevirtual 118, 3) := by decide +kernel
theorem dX7_part_56 : decode cX7_part 56 = .ok (.iconst 1, 1) := by decide +kernel
theorem dX7_part_57 : decode cX7_part 57 = .ok (.ireturn, 1) := by decide +kernel
set_option maxRecDepth 20000 in
theorem ggX7_clear_X7_anew : GoodIn wsX7_clear wsX7_anew := goodIn_r _ [8, 9, 10, 11, 12, 13, 14, 15, 16, 17, 18, 19, 20, 21, 22, 23, 24, 25, 26, 27, 28, 29, 30, 31, 32, 33, 34, 35, 36, 37, 38, 39, 40, 41, 42, 43] (by decide +kernel) (by decide +kernel)
set_option maxRecDepth 20000 in
theorem gX7_clear_X7_anew : GoodIn wsX7_clear (wsV RX7 118 RX7 yX7_anew wsX7_anew) := goodIn_app (goodIn_of _ (by decide +kernel)) ggX7_clear_X7_anew
theorem dX7_clear_0 : decode cX7_clear 0 = .ok (.aload_n 0, 1) := by decide +kernel
theorem dX7_clear_1 : decode cX7_clear 1 = .ok (.getfield 78, 3) := by decide +kernel
theorem dX7_clear_4 : decode cX7_clear 4 = .ok (.istore_n 1, 1) := by decide +kernel
theorem dX7_clear_5 : decode cX7_clear 5 = .ok (.aload_n 0, 1) := by decide +kernel
theorem dX7_clear_6 : decode cX7_clear 6 = .ok (.iconst 0, 1) := by decide +kernel
theorem dX7_clear_7 : decode cX7_clear 7 = .ok (.putfield 78, 3) := by decide +kernel
theorem dX7_clear_10 : decode cX7_clear 10 = .ok (.aload_n 0, 1) := by decide +kernel
theorem dX7_clear_11 : decode cX7_clear 11 = .ok (.iconst 0, 1) := by decide +kernel
theorem dX7_clear_12 : decode cX7_clear 12 = .ok (.putfield 86, 3) := by decide +kernel
theorem dX7_clear_15 : decode cX7_clear 15 = .ok (.aload_n 0, 1) := by decide +kernel
theorem dX7_clear_16 : decode cX7_clear 16 = .ok (.iconst 0, 1) := by decide +kernel
theorem dX7_clear_17 : decode cX7_clear 17 = .ok (.putfield 89, 3) := by decide +kernel
theorem dX7_clear_20 : decode cX7_clear 20 = .ok (.aload_n 0, 1) := by decide +kernel
theorem dX7_clear_21 : decode cX7_clear 21 = .ok (.invokevirtual 118, 3) := by decide +kernel
theorem dX7_clear_24 : decode cX7_clear 24 = .ok (.iload_n 1, 1) := by decide +kernel
theorem dX7_clear_25 : decode cX7_clear 25 = .ok (.ireturn, 1) := by decide +kernel
theorem dX7_toPoint_0 : decode cX7_toPoint 0 = .ok (.iload_n 1, 1) := by decide +kernel
theorem dX7_toPoint_1 : decode cX7_toPoint 1 = .ok (.istore_n 2, 1) := by decide +kernel
theorem dX7_toPoint_2 : decode cX7_toPoint 2 = .ok (.aload_n 0, 1) := by decide +kernel
theorem dX7_toPoint_3 : decode cX7_toPoint 3 = .ok (.getfield 78, 3) := by decide +kernel
theorem dX7_toPoint_6 : decode cX7_toPoint 6 = .ok (.iconst 1, 1) := by decide +kernel
theorem dX7_toPoint_7 : decode cX7_toPoint 7 = .ok (.isub, 1) := by decide +kernel
theorem dX7_toPoint_8 : decode cX7_toPoint 8 = .ok (.istore_n 3, 1) := by decide +kernel
theorem dX7_toPoint_9 : decode cX7_toPoint 9 = .ok (.iload_n 3, 1) := by decide +kernel
theorem dX7_toPoint_10 : decode cX7_toPoint 10 = .ok (.ifCond .lt 48, 3) := by decide +kernel
theorem dX7_toPoint_13 : decode cX7_toPoint 13 = .ok (.aload_n 0, 1) := by decide +kernel
theorem dX7_toPoint_14 : decode cX7_toPoint 14 = .ok (.getfield 13, 3) := by decide +kernel
theorem dX7_toPoint_17 : decode cX7_toPoint 17 = .ok (.iload_n 3, 1) := by decide +kernel
theorem dX7_toPoint_18 : decode cX7_toPoint 18 = .ok (.iaload, 1) := by decide +kernel
theorem dX7_toPoint_19 : decode cX7_toPoint 19 = .ok (.aload_n 0, 1) := by decide +kernel
theorem dX7_toPoint_20 : decode cX7_toPoint 20 = .ok (.getfield 7, 3) := by decide +kernel
theorem dX7_toPoint_23 : decode cX7_toPoint 23 = .ok (.iload_n 3, 1) := by decide +kernel
theorem dX7_toPoint_24 : decode cX7_toPoint 24 = .ok (.iaload, 1) := by decide +kernel
theorem dX7_toPoint_25 : decode cX7_toPoint 25 = .ok (.isub, 1) := by decide +kernel
theorem dX7_toPoint_26 : decode cX7_toPoint 26 = .ok (.iconst 1, 1) := by decide +kernel
theorem dX7_toPoint_27 : decode cX7_toPoint 27 = .ok (.iadd, 1) := by decide +kernel
theorem dX7_toPoint_28 : decode cX7_toPoint 28 = .ok (.istore 4, 2) := by decide +kernel
theorem dX7_toPoint_30 : decode cX7_toPoint 30 = .ok (.aload_n 0, 1) := by decide +kernel
theorem dX7_toPoint_31 : decode cX7_toPoint 31 = .ok (.getfield 49, 3) := by decide +kernel
theorem dX7_toPoint_34 : decode cX7_toPoint 34 = .ok (.iload_n 3, 1) := by decide +kernel
theorem dX7_toPoint_35 : decode cX7_toPoint 35 = .ok (.aload_n 0, 1) := by decide +kernel
theorem dX7_toPoint_36 : decode cX7_toPoint 36 = .ok (.getfield 7, 3) := by decide +kernel
theorem dX7_toPoint_39 : decode cX7_toPoint 39 = .ok (.iload_n 3, 1) := by decide +kernel
theorem dX7_toPoint_40 : decode cX7_toPoint 40 = .ok (.iaload, 1) := by decide +kernel
theorem dX7_toPoint_41 : decode cX7_toPoint 41 = .ok (.iload_n 2, 1) := by decide +kernel
theorem dX7_toPoint_42 : decode cX7_toPoint 42 = .ok (.iload 4, 2) := by decide +kernel
theorem dX7_toPoint_44 : decode cX7_toPoint 44 = .ok (.irem, 1) := by decide +kernel
theorem dX7_toPoint_45 : decode cX7_toPoint 45 = .ok (.iadd, 1) := by decide +kernel
theorem dX7_toPoint_46 : decode cX7_toPoint 46 = .ok (.iastore, 1) := by decide +kernel
theorem dX7_toPoint_47 : decode cX7_toPoint 47 = .ok (.iload_n 2, 1) := by decide +kernel
theorem dX7_toPoint_48 : decode cX7_toPoint 48 = .ok (.iload 4, 2) := by decide +kernel
theorem dX7_toPoint_50 : decode cX7_toPoint 50 = .ok (.idiv, 1) := by decide +kernel
theorem dX7_toPoint_51 : decode cX7_toPoint 51 = .ok (.istore_n 2, 1) := by decide +kernel
theorem dX7_toPoint_52 : decode cX7_toPoint 52 = .ok (.iinc 3 (-1), 3) := by decide +kernel
theorem dX7_toPoint_55 : decode cX7_toPoint 55 = .ok (.goto (-46), 3) := by decide +kernel
theorem dX7_toPoint_58 : decode cX7_toPoint 58 = .ok (.return_, 1) := by decide +kernel
set_option maxRecDepth 20000 in
theorem ggX7_isPlan_X7_in : GoodIn wsX7_isPlan wsX7_in := goodIn_r _ [16] (by decide +kernel) (by decide +kernel)
set_option maxRecDepth 20000 in
theorem gX7_isPlan_X7_in : GoodIn wsX7_isPlan (va_wsS RX7 82 yX7_in wsX7_in) := goodIn_app (goodIn_of _ (by decide +kernel)) ggX7_isPlan_X7_in
theorem dX7_isPlan_0 : decode cX7_isPlan 0 = .ok (.iconst 1, 1) := by decide +kernel
theorem dX7_isPlan_1 : decode cX7_isPlan 1 = .ok (.istore_n 1, 1) := by decide +kernel
theorem dX7_isPlan_2 : decode cX7_isPlan 2 = .ok (.iconst 0, 1) := by decide +kernel
theorem dX7_isPlan_3 : decode cX7_isPlan 3 = .ok (.istore_n 2, 1) := by decide +kernel
theorem dX7_isPlan_4 : decode cX7_isPlan 4 = .ok (.iload_n 2, 1) := by decide +kernel
theorem dX7_isPlan_5 : decode cX7_isPlan 5 = .ok (.aload_n 0, 1) := by decide +kernel
theorem dX7_isPlan_6 : decode cX7_isPlan 6 = .ok (.getfield 78, 3) := by decide +kernel
theorem dX7_isPlan_9 : decode cX7_isPlan 9 = .ok (.if_icmp .ge 46, 3) := by decide +kernel
theorem dX7_isPlan_12 : decode cX7_isPlan 12 = .ok (.iload_n 1, 1) := by decide +kernel
theorem dX7_isPlan_13 : decode cX7_isPlan 13 = .ok (.ifCond .eq 34, 3) := by decide +kernel
theorem dX7_isPlan_16 : decode cX7_isPlan 16 = .ok (.aload_n 0, 1) := by decide +kernel
theorem dX7_isPlan_17 : decode cX7_isPlan 17 = .ok (.getfield 49, 3) := by decide +kernel
theorem dX7_isPlan_20 : decode cX7_isPlan 20 = .ok (.iload_n 2, 1) := by decide +kernel
theorem dX7_isPlan_21 : decode cX7_isPlan 21 = .ok (.iaload, 1) := by decide +kernel
theorem dX7_isPlan_22 : decode cX7_isPlan 22 = .ok (.i2l, 1) := by decide +kernel
theorem dX7_isPlan_23 : decode cX7_isPlan 23 = .ok (.aload_n 0, 1) := by decide +kernel
theorem dX7_isPlan_24 : decode cX7_isPlan 24 = .ok (.getfield 7, 3) := by decide +kernel
theorem dX7_isPlan_27 : decode cX7_isPlan 27 = .ok (.iload_n 2, 1) := by decide +kernel
theorem dX7_isPlan_28 : decode cX7_isPlan 28 = .ok (.iaload, 1) := by decide +kernel
theorem dX7_isPlan_29 : decode cX7_isPlan 29 = .ok (.i2l, 1) := by decide +kernel
theorem dX7_isPlan_30 : decode cX7_isPlan 30 = .ok (.aload_n 0, 1) := by decide +kernel
theorem dX7_isPlan_31 : decode cX7_isPlan 31 = .ok (.getfield 13, 3) := by decide +kernel
theorem dX7_isPlan_34 : decode cX7_isPlan 34 = .ok (.iload_n 2, 1) := by decide +kernel
theorem dX7_isPlan_35 : decode cX7_isPlan 35 = .ok (.iaload, 1) := by decide +kernel
theorem dX7_isPlan_36 : decode cX7_isPlan 36 = .ok (.i2l, 1) := by decide +kernel
theorem dX7_isPlan_37 : decode cX7_isPlan 37 = .ok (.invokestatic 82, 3) := by decide +kernel
theorem dX7_isPlan_40 : decode cX7_isPlan 40 = .ok (.ifCond .eq 7, 3) := by decide +kernel
theorem dX7_isPlan_43 : decode cX7_isPlan 43 = .ok (.iconst 1, 1) := by decide +kernel
theorem dX7_isPlan_44 : decode cX7_isPlan 44 = .ok (.goto 4, 3) := by decide +kernel
theorem dX7_isPlan_47 : decode cX7_isPlan 47 = .ok (.iconst 0, 1) := by decide +kernel
theorem dX7_isPlan_48 : decode cX7_isPlan 48 = .ok (.istore_n 1, 1) := by decide +kernel
theorem dX7_isPlan_49 : decode cX7_isPlan 49 = .ok (.iinc 2 1, 3) := by decide +kernel
theorem dX7_isPlan_52 : decode cX7_isPlan 52 = .ok (.goto (-48), 3) := by decide +kernel
theorem dX7_isPlan_55 : decode cX7_isPlan 55 = .ok (.iconst 0, 1) := by decide +kernel
theorem dX7_isPlan_56 : decode cX7_isPlan 56 = .ok (.istore_n 2, 1) := by decide +kernel
theorem dX7_isPlan_57 : decode cX7_isPlan 57 = .ok (.iload_n 2, 1) := by decide +kernel
theorem dX7_isPlan_58 : decode cX7_isPlan 58 = .ok (.aload_n 0, 1) := by decide +kernel
theorem dX7_isPlan_59 : decode cX7_isPlan 59 = .ok (.getfield 86, 3) := by decide +kernel
theorem dX7_isPlan_62 : decode cX7_isPlan 62 = .ok (.if_icmp .ge 72, 3) := by decide +kernel
theorem dX7_isPlan_65 : decode cX7_isPlan 65 = .ok (.iconst 0, 1) := by decide +kernel
theorem dX7_isPlan_66 : decode cX7_isPlan 66 = .ok (.istore_n 3, 1) := by decide +kernel
theorem dX7_isPlan_67 : decode cX7_isPlan 67 = .ok (.iconst 0, 1) := by decide +kernel
theorem dX7_isPlan_68 : decode cX7_isPlan 68 = .ok (.istore 4, 2) := by decide +kernel
theorem dX7_isPlan_70 : decode cX7_isPlan 70 = .ok (.iload 4, 2) := by decide +kernel
theorem dX7_isPlan_72 : decode cX7_isPlan 72 = .ok (.aload_n 0, 1) := by decide +kernel
theorem dX7_isPlan_73 : decode cX7_isPlan 73 = .ok (.getfield 78, 3) := by decide +kernel
theorem dX7_isPlan_76 : decode cX7_isPlan 76 = .ok (.if_icmp .ge 32, 3) := by decide +kernel
theorem dX7_isPlan_79 : decode cX7_isPlan 79 = .ok (.iload_n 3, 1) := by decide +kernel
theorem dX7_isPlan_80 : decode cX7_isPlan 80 = .ok (.aload_n 0, 1) := by decide +kernel
theorem dX7_isPlan_81 : decode cX7_isPlan 81 = .ok (.getfield 19, 3) := by decide +kernel
theorem dX7_isPlan_84 : decode cX7_isPlan 84 = .ok (.bipush 8, 2) := by decide +kernel
theorem dX7_isPlan_86 : decode cX7_isPlan 86 = .ok (.iload_n 2, 1) := by decide +kernel
theorem dX7_isPlan_87 : decode cX7_isPlan 87 = .ok (.imul, 1) := by decide +kernel
theorem dX7_isPlan_88 : decode cX7_isPlan 88 = .ok (.iload 4, 2) := by decide +kernel
theorem dX7_isPlan_90 : decode cX7_isPlan 90 = .ok (.iadd, 1) := by decide +kernel
theorem dX7_isPlan_91 : decode cX7_isPlan 91 = .ok (.iaload, 1) := by decide +kernel
theorem dX7_isPlan_92 : decode cX7_isPlan 92 = .ok (.aload_n 0, 1) := by decide +kernel
theorem dX7_isPlan_93 : decode cX7_isPlan 93 = .ok (.getfield 49, 3) := by decide +kernel
theorem dX7_isPlan_96 : decode cX7_isPlan 96 = .ok (.iload 4, 2) := by decide +kernel
theorem dX7_isPlan_98 : decode cX7_isPlan 98 = .ok (.iaload, 1) := by decide +kernel
theorem dX7_isPlan_99 : decode cX7_isPlan 99 = .ok (.imul, 1) := by decide +kernel
theorem dX7_isPlan_100 : decode cX7_isPlan 100 = .ok (.iadd, 1) := by decide +kernel
theorem dX7_isPlan_101 : decode cX7_isPlan 101 = .ok (.istore_n 3, 1) := by decide +kernel
theorem dX7_isPlan_102 : decode cX7_isPlan 102 = .ok (.iinc 4 1, 3) := by decide +kernel
theorem dX7_isPlan_105 : decode cX7_isPlan 105 = .ok (.goto (-35), 3) := by decide +kernel
theorem dX7_isPlan_108 : decode cX7_isPlan 108 = .ok (.iload_n 1, 1) := by decide +kernel
theorem dX7_isPlan_109 : decode cX7_isPlan 109 = .ok (.ifCond .eq 17, 3) := by decide +kernel
theorem dX7_isPlan_112 : decode cX7_isPlan 112 = .ok (.iload_n 3, 1) := by decide +kernel
theorem dX7_isPlan_113 : decode cX7_isPlan 113 = .ok (.aload_n 0, 1) := by decide +kernel
theorem dX7_isPlan_114 : decode cX7_isPlan 114 = .ok (.getfield 16, 3) := by decide +kernel
theorem dX7_isPlan_117 : decode cX7_isPlan 117 = .ok (.iload_n 2, 1) := by decide +kernel
theorem dX7_isPlan_118 : decode cX7_isPlan 118 = .ok (.iaload, 1) := by decide +kernel
theorem dX7_isPlan_119 : decode cX7_isPlan 119 = .ok (.if_icmp .gt 7, 3) := by decide +kernel
theorem dX7_isPlan_122 : decode cX7_isPlan 122 = .ok (.iconst 1, 1) := by decide +kernel
theorem dX7_isPlan_123 : decode cX7_isPlan 123 = .ok (.goto 4, 3) := by decide +kernel
theorem dX7_isPlan_126 : decode cX7_isPlan 126 = .ok (.iconst 0, 1) := by decide +kernel
theorem dX7_isPlan_127 : decode cX7_isPlan 127 = .ok (.istore_n 1, 1) := by decide +kernel
theorem dX7_isPlan_128 : decode cX7_isPlan 128 = .ok (.iinc 2 1, 3) := by decide +kernel
theorem dX7_isPlan_131 : decode cX7_isPlan 131 = .ok (.goto (-74), 3) := by decide +kernel
theorem dX7_isPlan_134 : decode cX7_isPlan 134 = .ok (.iconst 0, 1) := by decide +kernel
theorem dX7_isPlan_135 : decode cX7_isPlan 135 = .ok (.istore_n 2, 1) := by decide +kernel
theorem dX7_isPlan_136 : decode cX7_isPlan 136 = .ok (.iload_n 2, 1) := by decide +kernel
theorem dX7_isPlan_137 : decode cX7_isPlan 137 = .ok (.aload_n 0, 1) := by decide +kernel
theorem dX7_isPlan_138 : decode cX7_isPlan 138 = .ok (.getfield 89, 3) := by decide +kernel
theorem dX7_isPlan_141 : decode cX7_isPlan 141 = .ok (.if_icmp .ge 96, 3) := by decide +kernel
theorem dX7_isPlan_144 : decode cX7_isPlan 144 = .ok (.aload_n 0, 1) := by decide +kernel
theorem dX7_isPlan_145 : decode cX7_isPlan 145 = .ok (.getfield 52, 3) := by decide +kernel
theorem dX7_isPlan_148 : decode cX7_isPlan 148 = .ok (.iload_n 2, 1) := by decide +kernel
theorem dX7_isPlan_149 : decode cX7_isPlan 149 = .ok (.iconst 0, 1) := by decide +kernel
theorem dX7_isPlan_150 : decode cX7_isPlan 150 = .ok (.iastore, 1) := by decide +kernel
theorem dX7_isPlan_151 : decode cX7_isPlan 151 = .ok (.iconst 0, 1) := by decide +kernel
theorem dX7_isPlan_152 : decode cX7_isPlan 152 = .ok (.istore_n 3, 1) := by decide +kernel
theorem dX7_isPlan_153 : decode cX7_isPlan 153 = .ok (.iload_n 3, 1) := by decide +kernel
theorem dX7_isPlan_154 : decode cX7_isPlan 154 = .ok (.aload_n 0, 1) := by decide +kernel
theorem dX7_isPlan_155 : decode cX7_isPlan 155 = .ok (.getfield 78, 3) := by decide +kernel
theorem dX7_isPlan_158 : decode cX7_isPlan 158 = .ok (.if_icmp .ge 36, 3) := by decide +kernel
theorem dX7_isPlan_161 : decode cX7_isPlan 161 = .ok (.aload_n 0, 1) := by decide +kernel
theorem dX7_isPlan_162 : decode cX7_isPlan 162 = .ok (.getfield 52, 3) := by decide +kernel
theorem dX7_isPlan_165 : decode cX7_isPlan 165 = .ok (.iload_n 2, 1) := by decide +kernel
theorem dX7_isPlan_166 : decode cX7_isPlan 166 = .ok (.dup2, 1) := by decide +kernel
theorem dX7_isPlan_167 : decode cX7_isPlan 167 = .ok (.iaload, 1) := by decide +kernel
theorem dX7_isPlan_168 : decode cX7_isPlan 168 = .ok (.aload_n 0, 1) := by decide +kernel
theorem dX7_isPlan_169 : decode cX7_isPlan 169 = .ok (.getfield 22, 3) := by decide +kernel
theorem dX7_isPlan_172 : decode cX7_isPlan 172 = .ok (.bipush 8, 2) := by decide +kernel
theorem dX7_isPlan_174 : decode cX7_isPlan 174 = .ok (.iload_n 2, 1) := by decide +kernel
theorem dX7_isPlan_175 : decode cX7_isPlan 175 = .ok (.imul, 1) := by decide +kernel
theorem dX7_isPlan_176 : decode cX7_isPlan 176 = .ok (.iload_n 3, 1) := by decide +kernel
theorem dX7_isPlan_177 : decode cX7_isPlan 177 = .ok (.iadd, 1) := by decide +kernel
theorem dX7_isPlan_178 : decode cX7_isPlan 178 = .ok (.iaload, 1) := by decide +kernel
theorem dX7_isPlan_179 : decode cX7_isPlan 179 = .ok (.aload_n 0, 1) := by decide +kernel
theorem dX7_isPlan_180 : decode cX7_isPlan 180 = .ok (.getfield 49, 3) := by decide +kernel
theorem dX7_isPlan_183 : decode cX7_isPlan 183 = .ok (.iload_n 3, 1) := by decide +kernel
theorem dX7_isPlan_184 : decode cX7_isPlan 184 = .ok (.iaload, 1) := by decide +kernel
theorem dX7_isPlan_185 : decode cX7_isPlan 185 = .ok (.imul, 1) := by decide +kernel
theorem dX7_isPlan_186 : decode cX7_isPlan 186 = .ok (.iadd, 1) := by decide +kernel
theorem dX7_isPlan_187 : decode cX7_isPlan 187 = .ok (.iastore, 1) := by decide +kernel
theorem dX7_isPlan_188 : decode cX7_isPlan 188 = .ok (.iinc 3 1, 3) := by decide +kernel
theorem dX7_isPlan_191 : decode cX7_isPlan 191 = .ok (.goto (-38), 3) := by decide +kernel
theorem dX7_isPlan_194 : decode cX7_isPlan 194 = .ok (.iload_n 1, 1) := by decide +kernel
theorem dX7_isPlan_195 : decode cX7_isPlan 195 = .ok (.ifCond .eq 34, 3) := by decide +kernel
theorem dX7_isPlan_198 : decode cX7_isPlan 198 = .ok (.aload_n 0, 1) := by decide +kernel
theorem dX7_isPlan_199 : decode cX7_isPlan 199 = .ok (.getfield 52, 3) := by decide +kernel
theorem dX7_isPlan_202 : decode cX7_isPlan 202 = .ok (.iload_n 2, 1) := by decide +kernel
theorem dX7_isPlan_203 : decode cX7_isPlan 203 = .ok (.iaload, 1) := by decide +kernel
theorem dX7_isPlan_204 : decode cX7_isPlan 204 = .ok (.i2l, 1) := by decide +kernel
theorem dX7_isPlan_205 : decode cX7_isPlan 205 = .ok (.aload_n 0, 1) := by decide +kernel
theorem dX7_isPlan_206 : decode cX7_isPlan 206 = .ok (.getfield 25, 3) := by decide +kernel
theorem dX7_isPlan_209 : decode cX7_isPlan 209 = .ok (.iload_n 2, 1) := by decide +kernel
theorem dX7_isPlan_210 : decode cX7_isPlan 210 = .ok (.iaload, 1) := by decide +kernel
theorem dX7_isPlan_211 : decode cX7_isPlan 211 = .ok (.i2l, 1) := by decide +kernel
theorem dX7_isPlan_212 : decode cX7_isPlan 212 = .ok (.aload_n 0, 1) := by decide +kernel
theorem dX7_isPlan_213 : decode cX7_isPlan 213 = .ok (.getfield 28, 3) := by decide +kernel
theorem dX7_isPlan_216 : decode cX7_isPlan 216 = .ok (.iload_n 2, 1) := by decide +kernel
theorem dX7_isPlan_217 : decode cX7_isPlan 217 = .ok (.iaload, 1) := by decide +kernel
theorem dX7_isPlan_218 : decode cX7_isPlan 218 = .ok (.i2l, 1) := by decide +kernel
theorem dX7_isPlan_219 : decode cX7_isPlan 219 = .ok (.invokestatic 82, 3) := by decide +kernel
theorem dX7_isPlan_222 : decode cX7_isPlan 222 = .ok (.ifCond .eq 7, 3) := by decide +kernel
theorem dX7_isPlan_225 : decode cX7_isPlan 225 = .ok (.iconst 1, 1) := by decide +kernel
theorem dX7_isPlan_226 : decode cX7_isPlan 226 = .ok (.goto 4, 3) := by decide +kernel
theorem dX7_isPlan_229 : decode cX7_isPlan 229 = .ok (.iconst 0, 1) := by decide +kernel
theorem dX7_isPlan_230 : decode cX7_isPlan 230 = .ok (.istore_n 1, 1) := by decide +kernel
theorem dX7_isPlan_231 : decode cX7_isPlan 231 = .ok (.iinc 2 1, 3) := by decide +kernel
theorem dX7_isPlan_234 : decode cX7_isPlan 234 = .ok (.goto (-98), 3) := by decide +kernel
theorem dX7_isPlan_237 : decode cX7_isPlan 237 = .ok (.iload_n 1, 1) := by decide +kernel
theorem dX7_isPlan_238 : decode cX7_isPlan 238 = .ok (.ireturn, 1) := by decide +kernel
theorem dX7_of_0 : decode cX7_of 0 = .ok (.aload_n 0, 1) := by decide +kernel
theorem dX7_of_1 : decode cX7_of 1 = .ok (.getfield 34, 3) := by decide +kernel
theorem dX7_of_4 : decode cX7_of 4 = .ok (.iconst 4, 1) := by decide +kernel
theorem dX7_of_5 : decode cX7_of 5 = .ok (.iload_n 1, 1) := by decide +kernel
theorem dX7_of_6 : decode cX7_of 6 = .ok (.imul, 1) := by decide +kernel
theorem dX7_of_7 : decode cX7_of 7 = .ok (.iload_n 2, 1) := by decide +kernel
theorem dX7_of_8 : decode cX7_of 8 = .ok (.iadd, 1) := by decide +kernel
theorem dX7_of_9 : decode cX7_of 9 = .ok (.iaload, 1) := by decide +kernel
theorem dX7_of_10 : decode cX7_of 10 = .ok (.ireturn, 1) := by decide +kernel
set_option maxRecDepth 20000 in
theorem ggX7_beats_X7_of : GoodIn wsX7_beats wsX7_of := goodIn_r _ [6, 7, 8, 9, 10, 11, 12, 13, 14, 15, 16, 17, 18, 19, 20, 21, 22, 23, 24, 25, 26, 27, 28, 29, 30, 31, 32, 33, 34, 35, 36, 37] (by decide +kernel) (by decide +kernel)
set_option maxRecDepth 20000 in
theorem gX7_beats_X7_of : GoodIn wsX7_beats (wsV RX7 143 RX7 yX7_of wsX7_of) := goodIn_app (goodIn_of _ (by decide +kernel)) ggX7_beats_X7_of
theorem dX7_beats_0 : decode cX7_beats 0 = .ok (.iconst 0, 1) := by decide +kernel
theorem dX7_beats_1 : decode cX7_beats 1 = .ok (.istore_n 3, 1) := by decide +kernel
theorem dX7_beats_2 : decode cX7_beats 2 = .ok (.iconst 0, 1) := by decide +kernel
theorem dX7_beats_3 : decode cX7_beats 3 = .ok (.istore 4, 2) := by decide +kernel
theorem dX7_beats_5 : decode cX7_beats 5 = .ok (.iload 4, 2) := by decide +kernel
theorem dX7_beats_7 : decode cX7_beats 7 = .ok (.aload_n 0, 1) := by decide +kernel
theorem dX7_beats_8 : decode cX7_beats 8 = .ok (.getfield 89, 3) := by decide +kernel
theorem dX7_beats_11 : decode cX7_beats 11 = .ok (.if_icmp .ge 55, 3) := by decide +kernel
theorem dX7_beats_14 : decode cX7_beats 14 = .ok (.aload_n 0, 1) := by decide +kernel
theorem dX7_beats_15 : decode cX7_beats 15 = .ok (.iload_n 1, 1) := by decide +kernel
theorem dX7_beats_16 : decode cX7_beats 16 = .ok (.iload 4, 2) := by decide +kernel
theorem dX7_beats_18 : decode cX7_beats 18 = .ok (.invokevirtual 143, 3) := by decide +kernel
theorem dX7_beats_21 : decode cX7_beats 21 = .ok (.aload_n 0, 1) := by decide +kernel
theorem dX7_beats_22 : decode cX7_beats 22 = .ok (.iload_n 2, 1) := by decide +kernel
theorem dX7_beats_23 : decode cX7_beats 23 = .ok (.iload 4, 2) := by decide +kernel
theorem dX7_beats_25 : decode cX7_beats 25 = .ok (.invokevirtual 143, 3) := by decide +kernel
theorem dX7_beats_28 : decode cX7_beats 28 = .ok (.if_icmp .le 5, 3) := by decide +kernel
theorem dX7_beats_31 : decode cX7_beats 31 = .ok (.iconst 0, 1) := by decide +kernel
theorem dX7_beats_32 : decode cX7_beats 32 = .ok (.ireturn, 1) := by decide +kernel
theorem dX7_beats_33 : decode cX7_beats 33 = .ok (.iload_n 3, 1) := by decide +kernel
theorem dX7_beats_34 : decode cX7_beats 34 = .ok (.ifCond .ne 20, 3) := by decide +kernel
theorem dX7_beats_37 : decode cX7_beats 37 = .ok (.aload_n 0, 1) := by decide +kernel
theorem dX7_beats_38 : decode cX7_beats 38 = .ok (.iload_n 1, 1) := by decide +kernel
theorem dX7_beats_39 : decode cX7_beats 39 = .ok (.iload 4, 2) := by decide +kernel
theorem dX7_beats_41 : decode cX7_beats 41 = .ok (.invokevirtual 143, 3) := by decide +kernel
theorem dX7_beats_44 : decode cX7_beats 44 = .ok (.aload_n 0, 1) := by decide +kernel
theorem dX7_beats_45 : decode cX7_beats 45 = .ok (.iload_n 2, 1) := by decide +kernel
theorem dX7_beats_46 : decode cX7_beats 46 = .ok (.iload 4, 2) := by decide +kernel
theorem dX7_beats_48 : decode cX7_beats 48 = .ok (.invokevirtual 143, 3) := by decide +kernel
theorem dX7_beats_51 : decode cX7_beats 51 = .ok (.if_icmp .ge 7, 3) := by decide +kernel
theorem dX7_beats_54 : decode cX7_beats 54 = .ok (.iconst 1, 1) := by decide +kernel
theorem dX7_beats_55 : decode cX7_beats 55 = .ok (.goto 4, 3) := by decide +kernel
theorem dX7_beats_58 : decode cX7_beats 58 = .ok (.iconst 0, 1) := by decide +kernel
theorem dX7_beats_59 : decode cX7_beats 59 = .ok (.istore_n 3, 1) := by decide +kernel
theorem dX7_beats_60 : decode cX7_beats 60 = .ok (.iinc 4 1, 3) := by decide +kernel
theorem dX7_beats_63 : decode cX7_beats 63 = .ok (.goto (-58), 3) := by decide +kernel
theorem dX7_beats_66 : decode cX7_beats 66 = .ok (.iload_n 3, 1) := by decide +kernel
theorem dX7_beats_67 : decode cX7_beats 67 = .ok (.ireturn, 1) := by decide +kernel
set_option maxRecDepth 20000 in
theorem ggX7_alike_X7_of : GoodIn wsX7_alike wsX7_of := goodIn_r _ [6, 7, 8, 9, 10, 11, 12, 13, 14, 15, 16, 17, 18, 19, 20, 21, 22, 23, 24, 25, 26, 27, 28, 29, 30, 31, 32, 33, 34, 35, 36, 37] (by decide +kernel) (by decide +kernel)
set_option maxRecDepth 20000 in
theorem gX7_alike_X7_of : GoodIn wsX7_alike (wsV RX7 143 RX7 yX7_of wsX7_of) := goodIn_app (goodIn_of _ (by decide +kernel)) ggX7_alike_X7_of
theorem dX7_alike_0 : decode cX7_alike 0 = .ok (.iconst 1, 1) := by decide +kernel
theorem dX7_alike_1 : decode cX7_alike 1 = .ok (.istore_n 3, 1) := by decide +kernel
theorem dX7_alike_2 : decode cX7_alike 2 = .ok (.iconst 0, 1) := by decide +kernel
theorem dX7_alike_3 : decode cX7_alike 3 = .ok (.istore 4, 2) := by decide +kernel
theorem dX7_alike_5 : decode cX7_alike 5 = .ok (.iload 4, 2) := by decide +kernel
theorem dX7_alike_7 : decode cX7_alike 7 = .ok (.aload_n 0, 1) := by decide +kernel
theorem dX7_alike_8 : decode cX7_alike 8 = .ok (.getfield 89, 3) := by decide +kernel
theorem dX7_alike_11 : decode cX7_alike 11 = .ok (.if_icmp .ge 36, 3) := by decide +kernel
theorem dX7_alike_14 : decode cX7_alike 14 = .ok (.iload_n 3, 1) := by decide +kernel
theorem dX7_alike_15 : decode cX7_alike 15 = .ok (.ifCond .eq 24, 3) := by decide +kernel
theorem dX7_alike_18 : decode cX7_alike 18 = .ok (.aload_n 0, 1) := by decide +kernel
theorem dX7_alike_19 : decode cX7_alike 19 = .ok (.iload_n 1, 1) := by decide +kernel
theorem dX7_alike_20 : decode cX7_alike 20 = .ok (.iload 4, 2) := by decide +kernel
theorem dX7_alike_22 : decode cX7_alike 22 = .ok (.invokevirtual 143, 3) := by decide +kernel
theorem dX7_alike_25 : decode cX7_alike 25 = .ok (.aload_n 0, 1) := by decide +kernel
theorem dX7_alike_26 : decode cX7_alike 26 = .ok (.iload_n 2, 1) := by decide +kernel
theorem dX7_alike_27 : decode cX7_alike 27 = .ok (.iload 4, 2) := by decide +kernel
theorem dX7_alike_29 : decode cX7_alike 29 = .ok (.invokevirtual 143, 3) := by decide +kernel
theorem dX7_alike_32 : decode cX7_alike 32 = .ok (.if_icmp .ne 7, 3) := by decide +kernel
theorem dX7_alike_35 : decode cX7_alike 35 = .ok (.iconst 1, 1) := by decide +kernel
theorem dX7_alike_36 : decode cX7_alike 36 = .ok (.goto 4, 3) := by decide +kernel
theorem dX7_alike_39 : decode cX7_alike 39 = .ok (.iconst 0, 1) := by decide +kernel
theorem dX7_alike_40 : decode cX7_alike 40 = .ok (.istore_n 3, 1) := by decide +kernel
theorem dX7_alike_41 : decode cX7_alike 41 = .ok (.iinc 4 1, 3) := by decide +kernel
theorem dX7_alike_44 : decode cX7_alike 44 = .ok (.goto (-39), 3) := by decide +kernel
theorem dX7_alike_47 : decode cX7_alike 47 = .ok (.iload_n 3, 1) := by decide +kernel
theorem dX7_alike_48 : decode cX7_alike 48 = .ok (.ireturn, 1) := by decide +kernel
set_option maxRecDepth 20000 in
theorem ggX7_before_X7_of : GoodIn wsX7_before wsX7_of := goodIn_r _ [6, 7, 8, 9, 10, 11, 12, 13, 14, 15, 16, 17, 18, 19, 20, 21, 22, 23, 24, 25, 26, 27, 28, 29, 30, 31, 32, 33, 34, 35, 36, 37] (by decide +kernel) (by decide +kernel)
set_option maxRecDepth 20000 in
theorem gX7_before_X7_of : GoodIn wsX7_before (wsV RX7 143 RX7 yX7_of wsX7_of) := goodIn_app (goodIn_of _ (by decide +kernel)) ggX7_before_X7_of
theorem dX7_before_0 : decode cX7_before 0 = .ok (.iconst 0, 1) := by decide +kernel
theorem dX7_before_1 : decode cX7_before 1 = .ok (.istore_n 3, 1) := by decide +kernel
theorem dX7_before_2 : decode cX7_before 2 = .ok (.iload_n 3, 1) := by decide +kernel
theorem dX7_before_3 : decode cX7_before 3 = .ok (.aload_n 0, 1) := by decide +kernel
theorem dX7_before_4 : decode cX7_before 4 = .ok (.getfield 89, 3) := by decide +kernel
theorem dX7_before_7 : decode cX7_before 7 = .ok (.if_icmp .ge 45, 3) := by decide +kernel
theorem dX7_before_10 : decode cX7_before 10 = .ok (.aload_n 0, 1) := by decide +kernel
theorem dX7_before_11 : decode cX7_before 11 = .ok (.iload_n 1, 1) := by decide +kernel
theorem dX7_before_12 : decode cX7_before 12 = .ok (.iload_n 3, 1) := by decide +kernel
theorem dX7_before_13 : decode cX7_before 13 = .ok (.invokevirtual 143, 3) := by decide +kernel
theorem dX7_before_16 : decode cX7_before 16 = .ok (.aload_n 0, 1) := by decide +kernel
theorem dX7_before_17 : decode cX7_before 17 = .ok (.iload_n 2, 1) := by decide +kernel
theorem dX7_before_18 : decode cX7_before 18 = .ok (.iload_n 3, 1) := by decide +kernel
theorem dX7_before_19 : decode cX7_before 19 = .ok (.invokevirtual 143, 3) := by decide +kernel
theorem dX7_before_22 : decode cX7_before 22 = .ok (.if_icmp .eq 24, 3) := by decide +kernel
theorem dX7_before_25 : decode cX7_before 25 = .ok (.aload_n 0, 1) := by decide +kernel
theorem dX7_before_26 : decode cX7_before 26 = .ok (.iload_n 1, 1) := by decide +kernel
theorem dX7_before_27 : decode cX7_before 27 = .ok (.iload_n 3, 1) := by decide +kernel
theorem dX7_before_28 : decode cX7_before 28 = .ok (.invokevirtual 143, 3) := by decide +kernel
theorem dX7_before_31 : decode cX7_before 31 = .ok (.aload_n 0, 1) := by decide +kernel
theorem dX7_before_32 : decode cX7_before 32 = .ok (.iload_n 2, 1) := by decide +kernel
theorem dX7_before_33 : decode cX7_before 33 = .ok (.iload_n 3, 1) := by decide +kernel
theorem dX7_before_34 : decode cX7_before 34 = .ok (.invokevirtual 143, 3) := by decide +kernel
theorem dX7_before_37 : decode cX7_before 37 = .ok (.if_icmp .ge 7, 3) := by decide +kernel
theorem dX7_before_40 : decode cX7_before 40 = .ok (.iconst 1, 1) := by decide +kernel
