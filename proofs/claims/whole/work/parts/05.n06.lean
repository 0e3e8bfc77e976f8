theorem dX7_before_41 : decode cX7_before 41 = .ok (.goto 4, 3) := by decide +kernel
theorem dX7_before_44 : decode cX7_before 44 = .ok (.iconst 0, 1) := by decide +kernel
theorem dX7_before_45 : decode cX7_before 45 = .ok (.ireturn, 1) := by decide +kernel
theorem dX7_before_46 : decode cX7_before 46 = .ok (.iinc 3 1, 3) := by decide +kernel
theorem dX7_before_49 : decode cX7_before 49 = .ok (.goto (-47), 3) := by decide +kernel
theorem dX7_before_52 : decode cX7_before 52 = .ok (.iconst 0, 1) := by decide +kernel
theorem dX7_before_53 : decode cX7_before 53 = .ok (.ireturn, 1) := by decide +kernel
set_option maxRecDepth 20000 in
theorem ggX7_findFront_X7_alike : GoodIn wsX7_findFront wsX7_alike := goodIn_r _ [7, 8, 9, 10, 11, 6, 12, 13, 28, 29, 30, 31, 32, 33, 34, 35, 36, 37, 38, 39, 40, 41, 42, 43, 44, 45, 46, 47, 48, 49, 50, 51, 52, 53, 54, 55, 56, 57] (by decide +kernel) (by decide +kernel)
set_option maxRecDepth 20000 in
theorem gX7_findFront_X7_alike : GoodIn wsX7_findFront (wsV RX7 147 RX7 yX7_alike wsX7_alike) := goodIn_app (goodIn_of _ (by decide +kernel)) ggX7_findFront_X7_alike
set_option maxRecDepth 20000 in
theorem ggX7_findFront_X7_beats : GoodIn wsX7_findFront wsX7_beats := goodIn_r _ [17, 8, 9, 10, 11, 6, 12, 13, 28, 29, 30, 31, 32, 33, 34, 35, 36, 37, 38, 39, 40, 41, 42, 43, 44, 45, 46, 47, 48, 49, 50, 51, 52, 53, 54, 55, 56, 57] (by decide +kernel) (by decide +kernel)
set_option maxRecDepth 20000 in
theorem gX7_findFront_X7_beats : GoodIn wsX7_findFront (wsV RX7 151 RX7 yX7_beats wsX7_beats) := goodIn_app (goodIn_of _ (by decide +kernel)) ggX7_findFront_X7_beats
set_option maxRecDepth 20000 in
theorem ggX7_findFront_X7_lay : GoodIn wsX7_findFront wsX7_lay := goodIn_r _ [21, 1, 22, 23, 24, 25, 26, 6, 27, 8, 9, 10, 11, 12, 13, 28, 29, 30, 31, 32, 33, 34, 35, 36, 37, 38, 39, 40, 41, 42, 43, 44, 45, 46, 47, 48, 49, 50, 51, 52, 53, 54, 55, 56, 57] (by decide +kernel) (by decide +kernel)
set_option maxRecDepth 20000 in
theorem gX7_findFront_X7_lay : GoodIn wsX7_findFront (wsV RX7 154 RX7 yX7_lay wsX7_lay) := goodIn_app (goodIn_of _ (by decide +kernel)) ggX7_findFront_X7_lay
theorem dX7_findFront_0 : decode cX7_findFront 0 = .ok (.aload_n 0, 1) := by decide +kernel
theorem dX7_findFront_1 : decode cX7_findFront 1 = .ok (.iconst 0, 1) := by decide +kernel
theorem dX7_findFront_2 : decode cX7_findFront 2 = .ok (.putfield 98, 3) := by decide +kernel
theorem dX7_findFront_5 : decode cX7_findFront 5 = .ok (.iconst 0, 1) := by decide +kernel
theorem dX7_findFront_6 : decode cX7_findFront 6 = .ok (.istore_n 1, 1) := by decide +kernel
theorem dX7_findFront_7 : decode cX7_findFront 7 = .ok (.iload_n 1, 1) := by decide +kernel
theorem dX7_findFront_8 : decode cX7_findFront 8 = .ok (.aload_n 0, 1) := by decide +kernel
theorem dX7_findFront_9 : decode cX7_findFront 9 = .ok (.getfield 95, 3) := by decide +kernel
theorem dX7_findFront_12 : decode cX7_findFront 12 = .ok (.if_icmp .ge 94, 3) := by decide +kernel
theorem dX7_findFront_15 : decode cX7_findFront 15 = .ok (.iconst 1, 1) := by decide +kernel
theorem dX7_findFront_16 : decode cX7_findFront 16 = .ok (.istore_n 2, 1) := by decide +kernel
theorem dX7_findFront_17 : decode cX7_findFront 17 = .ok (.iconst 0, 1) := by decide +kernel
theorem dX7_findFront_18 : decode cX7_findFront 18 = .ok (.istore_n 3, 1) := by decide +kernel
theorem dX7_findFront_19 : decode cX7_findFront 19 = .ok (.iconst 0, 1) := by decide +kernel
theorem dX7_findFront_20 : decode cX7_findFront 20 = .ok (.istore 4, 2) := by decide +kernel
theorem dX7_findFront_22 : decode cX7_findFront 22 = .ok (.iload 4, 2) := by decide +kernel
theorem dX7_findFront_24 : decode cX7_findFront 24 = .ok (.aload_n 0, 1) := by decide +kernel
theorem dX7_findFront_25 : decode cX7_findFront 25 = .ok (.getfield 95, 3) := by decide +kernel
theorem dX7_findFront_28 : decode cX7_findFront 28 = .ok (.if_icmp .ge 62, 3) := by decide +kernel
theorem dX7_findFront_31 : decode cX7_findFront 31 = .ok (.iload_n 2, 1) := by decide +kernel
theorem dX7_findFront_32 : decode cX7_findFront 32 = .ok (.ifCond .eq 58, 3) := by decide +kernel
theorem dX7_findFront_35 : decode cX7_findFront 35 = .ok (.aload_n 0, 1) := by decide +kernel
theorem dX7_findFront_36 : decode cX7_findFront 36 = .ok (.iload 4, 2) := by decide +kernel
theorem dX7_findFront_38 : decode cX7_findFront 38 = .ok (.iload_n 1, 1) := by decide +kernel
theorem dX7_findFront_39 : decode cX7_findFront 39 = .ok (.invokevirtual 147, 3) := by decide +kernel
theorem dX7_findFront_42 : decode cX7_findFront 42 = .ok (.istore 5, 2) := by decide +kernel
theorem dX7_findFront_44 : decode cX7_findFront 44 = .ok (.aload_n 0, 1) := by decide +kernel
theorem dX7_findFront_45 : decode cX7_findFront 45 = .ok (.iload 4, 2) := by decide +kernel
theorem dX7_findFront_47 : decode cX7_findFront 47 = .ok (.iload_n 1, 1) := by decide +kernel
theorem dX7_findFront_48 : decode cX7_findFront 48 = .ok (.invokevirtual 151, 3) := by decide +kernel
theorem dX7_findFront_51 : decode cX7_findFront 51 = .ok (.ifCond .ne 18, 3) := by decide +kernel
theorem dX7_findFront_54 : decode cX7_findFront 54 = .ok (.iload 5, 2) := by decide +kernel
theorem dX7_findFront_56 : decode cX7_findFront 56 = .ok (.ifCond .eq 9, 3) := by decide +kernel
theorem dX7_findFront_59 : decode cX7_findFront 59 = .ok (.iload 4, 2) := by decide +kernel
theorem dX7_findFront_61 : decode cX7_findFront 61 = .ok (.iload_n 1, 1) := by decide +kernel
theorem dX7_findFront_62 : decode cX7_findFront 62 = .ok (.if_icmp .lt 7, 3) := by decide +kernel
theorem dX7_findFront_65 : decode cX7_findFront 65 = .ok (.iconst 1, 1) := by decide +kernel
theorem dX7_findFront_66 : decode cX7_findFront 66 = .ok (.goto 4, 3) := by decide +kernel
theorem dX7_findFront_69 : decode cX7_findFront 69 = .ok (.iconst 0, 1) := by decide +kernel
theorem dX7_findFront_70 : decode cX7_findFront 70 = .ok (.istore_n 2, 1) := by decide +kernel
theorem dX7_findFront_71 : decode cX7_findFront 71 = .ok (.iload_n 3, 1) := by decide +kernel
theorem dX7_findFront_72 : decode cX7_findFront 72 = .ok (.iload 5, 2) := by decide +kernel
theorem dX7_findFront_74 : decode cX7_findFront 74 = .ok (.ifCond .eq 7, 3) := by decide +kernel
theorem dX7_findFront_77 : decode cX7_findFront 77 = .ok (.iconst 1, 1) := by decide +kernel
theorem dX7_findFront_78 : decode cX7_findFront 78 = .ok (.goto 4, 3) := by decide +kernel
theorem dX7_findFront_81 : decode cX7_findFront 81 = .ok (.iconst 0, 1) := by decide +kernel
theorem dX7_findFront_82 : decode cX7_findFront 82 = .ok (.iadd, 1) := by decide +kernel
theorem dX7_findFront_83 : decode cX7_findFront 83 = .ok (.istore_n 3, 1) := by decide +kernel
theorem dX7_findFront_84 : decode cX7_findFront 84 = .ok (.iinc 4 1, 3) := by decide +kernel
theorem dX7_findFront_87 : decode cX7_findFront 87 = .ok (.goto (-65), 3) := by decide +kernel
theorem dX7_findFront_90 : decode cX7_findFront 90 = .ok (.iload_n 2, 1) := by decide +kernel
theorem dX7_findFront_91 : decode cX7_findFront 91 = .ok (.ifCond .eq 9, 3) := by decide +kernel
theorem dX7_findFront_94 : decode cX7_findFront 94 = .ok (.aload_n 0, 1) := by decide +kernel
theorem dX7_findFront_95 : decode cX7_findFront 95 = .ok (.iload_n 1, 1) := by decide +kernel
theorem dX7_findFront_96 : decode cX7_findFront 96 = .ok (.iload_n 3, 1) := by decide +kernel
theorem dX7_findFront_97 : decode cX7_findFront 97 = .ok (.invokevirtual 154, 3) := by decide +kernel
theorem dX7_findFront_100 : decode cX7_findFront 100 = .ok (.iinc 1 1, 3) := by decide +kernel
theorem dX7_findFront_103 : decode cX7_findFront 103 = .ok (.goto (-96), 3) := by decide +kernel
theorem dX7_findFront_106 : decode cX7_findFront 106 = .ok (.return_, 1) := by decide +kernel
set_option maxRecDepth 20000 in
theorem ggX7_lay_X7_before : GoodIn wsX7_lay wsX7_before := goodIn_r _ [8, 9, 10, 11, 12, 7, 13, 14, 15, 16, 17, 18, 19, 20, 21, 22, 23, 24, 25, 26, 27, 28, 29, 30, 31, 32, 33, 34, 35, 36, 37, 38, 39, 40, 41, 42, 43, 44] (by decide +kernel) (by decide +kernel)
set_option maxRecDepth 20000 in
theorem gX7_lay_X7_before : GoodIn wsX7_lay (wsV RX7 158 RX7 yX7_before wsX7_before) := goodIn_app (goodIn_of _ (by decide +kernel)) ggX7_lay_X7_before
theorem dX7_lay_0 : decode cX7_lay 0 = .ok (.aload_n 0, 1) := by decide +kernel
theorem dX7_lay_1 : decode cX7_lay 1 = .ok (.getfield 98, 3) := by decide +kernel
theorem dX7_lay_4 : decode cX7_lay 4 = .ok (.istore_n 3, 1) := by decide +kernel
theorem dX7_lay_5 : decode cX7_lay 5 = .ok (.iload_n 3, 1) := by decide +kernel
theorem dX7_lay_6 : decode cX7_lay 6 = .ok (.ifCond .le 53, 3) := by decide +kernel
theorem dX7_lay_9 : decode cX7_lay 9 = .ok (.aload_n 0, 1) := by decide +kernel
theorem dX7_lay_10 : decode cX7_lay 10 = .ok (.iload_n 1, 1) := by decide +kernel
theorem dX7_lay_11 : decode cX7_lay 11 = .ok (.aload_n 0, 1) := by decide +kernel
theorem dX7_lay_12 : decode cX7_lay 12 = .ok (.getfield 37, 3) := by decide +kernel
theorem dX7_lay_15 : decode cX7_lay 15 = .ok (.iload_n 3, 1) := by decide +kernel
theorem dX7_lay_16 : decode cX7_lay 16 = .ok (.iconst 1, 1) := by decide +kernel
theorem dX7_lay_17 : decode cX7_lay 17 = .ok (.isub, 1) := by decide +kernel
theorem dX7_lay_18 : decode cX7_lay 18 = .ok (.iaload, 1) := by decide +kernel
theorem dX7_lay_19 : decode cX7_lay 19 = .ok (.invokevirtual 158, 3) := by decide +kernel
theorem dX7_lay_22 : decode cX7_lay 22 = .ok (.ifCond .eq 37, 3) := by decide +kernel
theorem dX7_lay_25 : decode cX7_lay 25 = .ok (.aload_n 0, 1) := by decide +kernel
theorem dX7_lay_26 : decode cX7_lay 26 = .ok (.getfield 37, 3) := by decide +kernel
theorem dX7_lay_29 : decode cX7_lay 29 = .ok (.iload_n 3, 1) := by decide +kernel
theorem dX7_lay_30 : decode cX7_lay 30 = .ok (.aload_n 0, 1) := by decide +kernel
theorem dX7_lay_31 : decode cX7_lay 31 = .ok (.getfield 37, 3) := by decide +kernel
theorem dX7_lay_34 : decode cX7_lay 34 = .ok (.iload_n 3, 1) := by decide +kernel
theorem dX7_lay_35 : decode cX7_lay 35 = .ok (.iconst 1, 1) := by decide +kernel
theorem dX7_lay_36 : decode cX7_lay 36 = .ok (.isub, 1) := by decide +kernel
theorem dX7_lay_37 : decode cX7_lay 37 = .ok (.iaload, 1) := by decide +kernel
theorem dX7_lay_38 : decode cX7_lay 38 = .ok (.iastore, 1) := by decide +kernel
theorem dX7_lay_39 : decode cX7_lay 39 = .ok (.aload_n 0, 1) := by decide +kernel
theorem dX7_lay_40 : decode cX7_lay 40 = .ok (.getfield 40, 3) := by decide +kernel
theorem dX7_lay_43 : decode cX7_lay 43 = .ok (.iload_n 3, 1) := by decide +kernel
theorem dX7_lay_44 : decode cX7_lay 44 = .ok (.aload_n 0, 1) := by decide +kernel
theorem dX7_lay_45 : decode cX7_lay 45 = .ok (.getfield 40, 3) := by decide +kernel
theorem dX7_lay_48 : decode cX7_lay 48 = .ok (.iload_n 3, 1) := by decide +kernel
theorem dX7_lay_49 : decode cX7_lay 49 = .ok (.iconst 1, 1) := by decide +kernel
theorem dX7_lay_50 : decode cX7_lay 50 = .ok (.isub, 1) := by decide +kernel
theorem dX7_lay_51 : decode cX7_lay 51 = .ok (.iaload, 1) := by decide +kernel
theorem dX7_lay_52 : decode cX7_lay 52 = .ok (.iastore, 1) := by decide +kernel
theorem dX7_lay_53 : decode cX7_lay 53 = .ok (.iinc 3 (-1), 3) := by decide +kernel
theorem dX7_lay_56 : decode cX7_lay 56 = .ok (.goto (-51), 3) := by decide +kernel
theorem dX7_lay_59 : decode cX7_lay 59 = .ok (.aload_n 0, 1) := by decide +kernel
theorem dX7_lay_60 : decode cX7_lay 60 = .ok (.getfield 37, 3) := by decide +kernel
theorem dX7_lay_63 : decode cX7_lay 63 = .ok (.iload_n 3, 1) := by decide +kernel
theorem dX7_lay_64 : decode cX7_lay 64 = .ok (.iload_n 1, 1) := by decide +kernel
theorem dX7_lay_65 : decode cX7_lay 65 = .ok (.iastore, 1) := by decide +kernel
theorem dX7_lay_66 : decode cX7_lay 66 = .ok (.aload_n 0, 1) := by decide +kernel
theorem dX7_lay_67 : decode cX7_lay 67 = .ok (.getfield 40, 3) := by decide +kernel
theorem dX7_lay_70 : decode cX7_lay 70 = .ok (.iload_n 3, 1) := by decide +kernel
theorem dX7_lay_71 : decode cX7_lay 71 = .ok (.iload_n 2, 1) := by decide +kernel
theorem dX7_lay_72 : decode cX7_lay 72 = .ok (.iastore, 1) := by decide +kernel
theorem dX7_lay_73 : decode cX7_lay 73 = .ok (.aload_n 0, 1) := by decide +kernel
theorem dX7_lay_74 : decode cX7_lay 74 = .ok (.dup, 1) := by decide +kernel
theorem dX7_lay_75 : decode cX7_lay 75 = .ok (.getfield 98, 3) := by decide +kernel
theorem dX7_lay_78 : decode cX7_lay 78 = .ok (.iconst 1, 1) := by decide +kernel
theorem dX7_lay_79 : decode cX7_lay 79 = .ok (.iadd, 1) := by decide +kernel
theorem dX7_lay_80 : decode cX7_lay 80 = .ok (.putfield 98, 3) := by decide +kernel
theorem dX7_lay_83 : decode cX7_lay 83 = .ok (.return_, 1) := by decide +kernel
set_option maxRecDepth 20000 in
theorem ggX7_run_X7_in : GoodIn wsX7_run wsX7_in := goodIn_r _ [15] (by decide +kernel) (by decide +kernel)
set_option maxRecDepth 20000 in
theorem gX7_run_X7_in : GoodIn wsX7_run (va_wsS RX7 82 yX7_in wsX7_in) := goodIn_app (goodIn_of _ (by decide +kernel)) ggX7_run_X7_in
set_option maxRecDepth 20000 in
theorem ggX7_run_X7_points : GoodIn wsX7_run wsX7_points := goodIn_r _ [19, 20, 21, 22, 64, 65, 66, 67, 68, 69, 70, 71, 72, 73, 74, 75, 76, 77, 78, 79, 80, 81, 82, 83, 84, 85, 86, 87, 88, 89, 90, 91, 92, 93] (by decide +kernel) (by decide +kernel)
set_option maxRecDepth 20000 in
theorem gX7_run_X7_points : GoodIn wsX7_run (wsV RX7 113 RX7 yX7_points wsX7_points) := goodIn_app (goodIn_of _ (by decide +kernel)) ggX7_run_X7_points
set_option maxRecDepth 20000 in
theorem ggX7_run_X7_toPoint : GoodIn wsX7_run wsX7_toPoint := goodIn_r _ [26, 20, 21, 22, 27, 64, 65, 66, 67, 68, 69, 70, 71, 72, 73, 74, 75, 76, 77, 78, 79, 80, 81, 82, 83, 84, 85, 86, 87, 88, 89, 90, 91, 92, 93] (by decide +kernel) (by decide +kernel)
set_option maxRecDepth 20000 in
theorem gX7_run_X7_toPoint : GoodIn wsX7_run (wsV RX7 162 RX7 yX7_toPoint wsX7_toPoint) := goodIn_app (goodIn_of _ (by decide +kernel)) ggX7_run_X7_toPoint
set_option maxRecDepth 20000 in
theorem ggX7_run_X7_isPlan : GoodIn wsX7_run wsX7_isPlan := goodIn_r _ [31, 20, 27, 22, 21, 32, 33, 34, 3, 10, 35, 36, 37, 12, 13, 14, 15, 64, 65, 66, 67, 68, 69, 70, 71, 72, 73, 74, 75, 76, 77, 78, 79, 80, 81, 82, 83, 84, 85, 86, 87, 88, 89, 90, 91, 92, 93] (by decide +kernel) (by decide +kernel)
set_option maxRecDepth 20000 in
theorem gX7_run_X7_isPlan : GoodIn wsX7_run (wsV RX7 166 RX7 yX7_isPlan wsX7_isPlan) := goodIn_app (goodIn_of _ (by decide +kernel)) ggX7_run_X7_isPlan
set_option maxRecDepth 20000 in
theorem ggX7_run_X7_findFront : GoodIn wsX7_run wsX7_findFront := goodIn_r _ [41, 11, 8, 42, 43, 44, 14, 45, 3, 46, 47, 48, 49, 9, 50, 51, 52, 53, 54, 55, 56, 57, 58, 59, 60, 61, 62, 63, 64, 65, 66, 67, 68, 69, 70, 71, 72, 73, 74, 75, 76, 77, 78, 79, 80, 81, 82, 83, 84, 85, 86, 87, 88, 89, 90, 91, 92, 93] (by decide +kernel) (by decide +kernel)
set_option maxRecDepth 20000 in
theorem gX7_run_X7_findFront : GoodIn wsX7_run (wsV RX7 170 RX7 yX7_findFront wsX7_findFront) := goodIn_app (goodIn_of _ (by decide +kernel)) ggX7_run_X7_findFront
theorem dX7_run_0 : decode cX7_run 0 = .ok (.iload_n 1, 1) := by decide +kernel
theorem dX7_run_1 : decode cX7_run 1 = .ok (.i2l, 1) := by decide +kernel
theorem dX7_run_2 : decode cX7_run 2 = .ok (.lconst 0, 1) := by decide +kernel
theorem dX7_run_3 : decode cX7_run 3 = .ok (.ldc2_w 141, 3) := by decide +kernel
theorem dX7_run_6 : decode cX7_run 6 = .ok (.invokestatic 82, 3) := by decide +kernel
theorem dX7_run_9 : decode cX7_run 9 = .ok (.ifCond .ne 6, 3) := by decide +kernel
theorem dX7_run_12 : decode cX7_run 12 = .ok (.ldc 112, 2) := by decide +kernel
theorem dX7_run_14 : decode cX7_run 14 = .ok (.ireturn, 1) := by decide +kernel
theorem dX7_run_15 : decode cX7_run 15 = .ok (.aload_n 0, 1) := by decide +kernel
theorem dX7_run_16 : decode cX7_run 16 = .ok (.getfield 89, 3) := by decide +kernel
theorem dX7_run_19 : decode cX7_run 19 = .ok (.ifCond .ne 6, 3) := by decide +kernel
theorem dX7_run_22 : decode cX7_run 22 = .ok (.ldc 161, 2) := by decide +kernel
theorem dX7_run_24 : decode cX7_run 24 = .ok (.ireturn, 1) := by decide +kernel
theorem dX7_run_25 : decode cX7_run 25 = .ok (.aload_n 0, 1) := by decide +kernel
theorem dX7_run_26 : decode cX7_run 26 = .ok (.iconst 0, 1) := by decide +kernel
theorem dX7_run_27 : decode cX7_run 27 = .ok (.putfield 101, 3) := by decide +kernel
theorem dX7_run_30 : decode cX7_run 30 = .ok (.aload_n 0, 1) := by decide +kernel
theorem dX7_run_31 : decode cX7_run 31 = .ok (.invokevirtual 113, 3) := by decide +kernel
theorem dX7_run_34 : decode cX7_run 34 = .ok (.istore_n 2, 1) := by decide +kernel
theorem dX7_run_35 : decode cX7_run 35 = .ok (.iconst 0, 1) := by decide +kernel
theorem dX7_run_36 : decode cX7_run 36 = .ok (.istore_n 3, 1) := by decide +kernel
theorem dX7_run_37 : decode cX7_run 37 = .ok (.iload_n 3, 1) := by decide +kernel
theorem dX7_run_38 : decode cX7_run 38 = .ok (.iload_n 1, 1) := by decide +kernel
theorem dX7_run_39 : decode cX7_run 39 = .ok (.if_icmp .ge 104, 3) := by decide +kernel
theorem dX7_run_42 : decode cX7_run 42 = .ok (.aload_n 0, 1) := by decide +kernel
theorem dX7_run_43 : decode cX7_run 43 = .ok (.getfield 92, 3) := by decide +kernel
theorem dX7_run_46 : decode cX7_run 46 = .ok (.iload_n 2, 1) := by decide +kernel
theorem dX7_run_47 : decode cX7_run 47 = .ok (.if_icmp .ge 96, 3) := by decide +kernel
theorem dX7_run_50 : decode cX7_run 50 = .ok (.aload_n 0, 1) := by decide +kernel
theorem dX7_run_51 : decode cX7_run 51 = .ok (.aload_n 0, 1) := by decide +kernel
theorem dX7_run_52 : decode cX7_run 52 = .ok (.getfield 92, 3) := by decide +kernel
theorem dX7_run_55 : decode cX7_run 55 = .ok (.invokevirtual 162, 3) := by decide +kernel
theorem dX7_run_58 : decode cX7_run 58 = .ok (.aload_n 0, 1) := by decide +kernel
theorem dX7_run_59 : decode cX7_run 59 = .ok (.invokevirtual 166, 3) := by decide +kernel
theorem dX7_run_62 : decode cX7_run 62 = .ok (.ifCond .eq 65, 3) := by decide +kernel
theorem dX7_run_65 : decode cX7_run 65 = .ok (.aload_n 0, 1) := by decide +kernel
theorem dX7_run_66 : decode cX7_run 66 = .ok (.getfield 31, 3) := by decide +kernel
theorem dX7_run_69 : decode cX7_run 69 = .ok (.aload_n 0, 1) := by decide +kernel
theorem dX7_run_70 : decode cX7_run 70 = .ok (.getfield 95, 3) := by decide +kernel
theorem dX7_run_73 : decode cX7_run 73 = .ok (.aload_n 0, 1) := by decide +kernel
theorem dX7_run_74 : decode cX7_run 74 = .ok (.getfield 92, 3) := by decide +kernel
theorem dX7_run_77 : decode cX7_run 77 = .ok (.iastore, 1) := by decide +kernel
theorem dX7_run_78 : decode cX7_run 78 = .ok (.iconst 0, 1) := by decide +kernel
theorem dX7_run_79 : decode cX7_run 79 = .ok (.istore 4, 2) := by decide +kernel
theorem dX7_run_81 : decode cX7_run 81 = .ok (.iload 4, 2) := by decide +kernel
theorem dX7_run_83 : decode cX7_run 83 = .ok (.aload_n 0, 1) := by decide +kernel
theorem dX7_run_84 : decode cX7_run 84 = .ok (.getfield 89, 3) := by decide +kernel
theorem dX7_run_87 : decode cX7_run 87 = .ok (.if_icmp .ge 30, 3) := by decide +kernel
theorem dX7_run_90 : decode cX7_run 90 = .ok (.aload_n 0, 1) := by decide +kernel
theorem dX7_run_91 : decode cX7_run 91 = .ok (.getfield 34, 3) := by decide +kernel
theorem dX7_run_94 : decode cX7_run 94 = .ok (.iconst 4, 1) := by decide +kernel
theorem dX7_run_95 : decode cX7_run 95 = .ok (.aload_n 0, 1) := by decide +kernel
theorem dX7_run_96 : decode cX7_run 96 = .ok (.getfield 95, 3) := by decide +kernel
theorem dX7_run_99 : decode cX7_run 99 = .ok (.imul, 1) := by decide +kernel
theorem dX7_run_100 : decode cX7_run 100 = .ok (.iload 4, 2) := by decide +kernel
theorem dX7_run_102 : decode cX7_run 102 = .ok (.iadd, 1) := by decide +kernel
theorem dX7_run_103 : decode cX7_run 103 = .ok (.aload_n 0, 1) := by decide +kernel
theorem dX7_run_104 : decode cX7_run 104 = .ok (.getfield 52, 3) := by decide +kernel
theorem dX7_run_107 : decode cX7_run 107 = .ok (.iload 4, 2) := by decide +kernel
theorem dX7_run_109 : decode cX7_run 109 = .ok (.iaload, 1) := by decide +kernel
theorem dX7_run_110 : decode cX7_run 110 = .ok (.iastore, 1) := by decide +kernel
theorem dX7_run_111 : decode cX7_run 111 = .ok (.iinc 4 1, 3) := by decide +kernel
theorem dX7_run_114 : decode cX7_run 114 = .ok (.goto (-33), 3) := by decide +kernel
theorem dX7_run_117 : decode cX7_run 117 = .ok (.aload_n 0, 1) := by decide +kernel
theorem dX7_run_118 : decode cX7_run 118 = .ok (.dup, 1) := by decide +kernel
theorem dX7_run_119 : decode cX7_run 119 = .ok (.getfield 95, 3) := by decide +kernel
theorem dX7_run_122 : decode cX7_run 122 = .ok (.iconst 1, 1) := by decide +kernel
theorem dX7_run_123 : decode cX7_run 123 = .ok (.iadd, 1) := by decide +kernel
theorem dX7_run_124 : decode cX7_run 124 = .ok (.putfield 95, 3) := by decide +kernel
theorem dX7_run_127 : decode cX7_run 127 = .ok (.aload_n 0, 1) := by decide +kernel
theorem dX7_run_128 : decode cX7_run 128 = .ok (.dup, 1) := by decide +kernel
theorem dX7_run_129 : decode cX7_run 129 = .ok (.getfield 92, 3) := by decide +kernel
theorem dX7_run_132 : decode cX7_run 132 = .ok (.iconst 1, 1) := by decide +kernel
theorem dX7_run_133 : decode cX7_run 133 = .ok (.iadd, 1) := by decide +kernel
theorem dX7_run_134 : decode cX7_run 134 = .ok (.putfield 92, 3) := by decide +kernel
theorem dX7_run_137 : decode cX7_run 137 = .ok (.iinc 3 1, 3) := by decide +kernel
theorem dX7_run_140 : decode cX7_run 140 = .ok (.goto (-103), 3) := by decide +kernel
theorem dX7_run_143 : decode cX7_run 143 = .ok (.aload_n 0, 1) := by decide +kernel
theorem dX7_run_144 : decode cX7_run 144 = .ok (.invokevirtual 170, 3) := by decide +kernel
theorem dX7_run_147 : decode cX7_run 147 = .ok (.aload_n 0, 1) := by decide +kernel
theorem dX7_run_148 : decode cX7_run 148 = .ok (.getfield 98, 3) := by decide +kernel
theorem dX7_run_151 : decode cX7_run 151 = .ok (.ireturn, 1) := by decide +kernel
set_option maxRecDepth 20000 in
theorem ggX7_left_X7_points : GoodIn wsX7_left wsX7_points := goodIn_r _ [6, 7, 8, 9, 10, 11, 12, 13, 14, 15, 16, 17, 18, 19, 20, 21, 22, 23, 24, 25, 26, 27, 28, 29, 30, 31, 32, 33, 34, 35, 36, 37, 38, 39] (by decide +kernel) (by decide +kernel)
set_option maxRecDepth 20000 in
theorem gX7_left_X7_points : GoodIn wsX7_left (wsV RX7 113 RX7 yX7_points wsX7_points) := goodIn_app (goodIn_of _ (by decide +kernel)) ggX7_left_X7_points
theorem dX7_left_0 : decode cX7_left 0 = .ok (.aload_n 0, 1) := by decide +kernel
theorem dX7_left_1 : decode cX7_left 1 = .ok (.invokevirtual 113, 3) := by decide +kernel
theorem dX7_left_4 : decode cX7_left 4 = .ok (.aload_n 0, 1) := by decide +kernel
theorem dX7_left_5 : decode cX7_left 5 = .ok (.getfield 92, 3) := by decide +kernel
theorem dX7_left_8 : decode cX7_left 8 = .ok (.isub, 1) := by decide +kernel
theorem dX7_left_9 : decode cX7_left 9 = .ok (.ireturn, 1) := by decide +kernel
theorem dX7_plans_0 : decode cX7_plans 0 = .ok (.aload_n 0, 1) := by decide +kernel
theorem dX7_plans_1 : decode cX7_plans 1 = .ok (.getfield 95, 3) := by decide +kernel
theorem dX7_plans_4 : decode cX7_plans 4 = .ok (.ireturn, 1) := by decide +kernel
set_option maxRecDepth 20000 in
theorem ggX7_at_X7_of : GoodIn wsX7_at wsX7_of := goodIn_r _ [6, 7, 8, 9, 10, 11, 12, 13, 14, 15, 16, 17, 18, 19, 20, 21, 22, 23, 24, 25, 26, 27, 28, 29, 30, 31, 32, 33, 34, 35, 36, 37] (by decide +kernel) (by decide +kernel)
set_option maxRecDepth 20000 in
theorem gX7_at_X7_of : GoodIn wsX7_at (wsV RX7 143 RX7 yX7_of wsX7_of) := goodIn_app (goodIn_of _ (by decide +kernel)) ggX7_at_X7_of
theorem dX7_at_0 : decode cX7_at 0 = .ok (.aload_n 0, 1) := by decide +kernel
theorem dX7_at_1 : decode cX7_at 1 = .ok (.aload_n 0, 1) := by decide +kernel
theorem dX7_at_2 : decode cX7_at 2 = .ok (.getfield 37, 3) := by decide +kernel
theorem dX7_at_5 : decode cX7_at 5 = .ok (.iload_n 1, 1) := by decide +kernel
theorem dX7_at_6 : decode cX7_at 6 = .ok (.iaload, 1) := by decide +kernel
theorem dX7_at_7 : decode cX7_at 7 = .ok (.iload_n 2, 1) := by decide +kernel
theorem dX7_at_8 : decode cX7_at 8 = .ok (.invokevirtual 143, 3) := by decide +kernel
theorem dX7_at_11 : decode cX7_at 11 = .ok (.ireturn, 1) := by decide +kernel
set_option maxRecDepth 20000 in
theorem ggX7_isScore_X7_in : GoodIn wsX7_isScore wsX7_in := goodIn_r _ [5] (by decide +kernel) (by decide +kernel)
set_option maxRecDepth 20000 in
theorem gX7_isScore_X7_in : GoodIn wsX7_isScore (va_wsS RX7 82 yX7_in wsX7_in) := goodIn_app (goodIn_of _ (by decide +kernel)) ggX7_isScore_X7_in
theorem dX7_isScore_0 : decode cX7_isScore 0 = .ok (.iload_n 1, 1) := by decide +kernel
theorem dX7_isScore_1 : decode cX7_isScore 1 = .ok (.i2l, 1) := by decide +kernel
theorem dX7_isScore_2 : decode cX7_isScore 2 = .ok (.lconst 0, 1) := by decide +kernel
theorem dX7_isScore_3 : decode cX7_isScore 3 = .ok (.aload_n 0, 1) := by decide +kernel
theorem dX7_isScore_4 : decode cX7_isScore 4 = .ok (.getfield 98, 3) := by decide +kernel
theorem dX7_isScore_7 : decode cX7_isScore 7 = .ok (.iconst 1, 1) := by decide +kernel
theorem dX7_isScore_8 : decode cX7_isScore 8 = .ok (.isub, 1) := by decide +kernel
theorem dX7_isScore_9 : decode cX7_isScore 9 = .ok (.i2l, 1) := by decide +kernel
theorem dX7_isScore_10 : decode cX7_isScore 10 = .ok (.invokestatic 82, 3) := by decide +kernel
theorem dX7_isScore_13 : decode cX7_isScore 13 = .ok (.ireturn, 1) := by decide +kernel
set_option maxRecDepth 20000 in
theorem ggX7_score_X7_isScore : GoodIn wsX7_score wsX7_isScore := goodIn_r _ [6, 7, 8, 9, 5, 10, 26, 27, 28, 29, 30, 31, 32, 33, 34, 35, 36, 37, 38, 39, 40, 41, 42, 43, 44, 45, 46, 47, 48, 49, 50, 51, 52, 53, 54, 55] (by decide +kernel) (by decide +kernel)
set_option maxRecDepth 20000 in
theorem gX7_score_X7_isScore : GoodIn wsX7_score (wsV RX7 173 RX7 yX7_isScore wsX7_isScore) := goodIn_app (goodIn_of _ (by decide +kernel)) ggX7_score_X7_isScore
set_option maxRecDepth 20000 in
theorem ggX7_score_X7_isAim : GoodIn wsX7_score wsX7_isAim := goodIn_r _ [14, 15, 8, 9, 5, 10, 26, 27, 28, 29, 30, 31, 32, 33, 34, 35, 36, 37, 38, 39, 40, 41, 42, 43, 44, 45, 46, 47, 48, 49, 50, 51, 52, 53, 54, 55] (by decide +kernel) (by decide +kernel)
set_option maxRecDepth 20000 in
theorem gX7_score_X7_isAim : GoodIn wsX7_score (wsV RX7 136 RX7 yX7_isAim wsX7_isAim) := goodIn_app (goodIn_of _ (by decide +kernel)) ggX7_score_X7_isAim
set_option maxRecDepth 20000 in
theorem ggX7_score_X7_at : GoodIn wsX7_score wsX7_at := goodIn_r _ [19, 20, 21, 22, 23, 5, 24, 25, 26, 27, 28, 29, 30, 31, 32, 33, 34, 35, 36, 37, 38, 39, 40, 41, 42, 43, 44, 45, 46, 47, 48, 49, 50, 51, 52, 53, 54, 55] (by decide +kernel) (by decide +kernel)
set_option maxRecDepth 20000 in
theorem gX7_score_X7_at : GoodIn wsX7_score (wsV RX7 176 RX7 yX7_at wsX7_at) := goodIn_app (goodIn_of _ (by decide +kernel)) ggX7_score_X7_at
theorem dX7_score_0 : decode cX7_score 0 = .ok (.aload_n 0, 1) := by decide +kernel
theorem dX7_score_1 : decode cX7_score 1 = .ok (.iload_n 1, 1) := by decide +kernel
theorem dX7_score_2 : decode cX7_score 2 = .ok (.invokevirtual 173, 3) := by decide +kernel
theorem dX7_score_5 : decode cX7_score 5 = .ok (.ifCond .eq 20, 3) := by decide +kernel
theorem dX7_score_8 : decode cX7_score 8 = .ok (.aload_n 0, 1) := by decide +kernel
theorem dX7_score_9 : decode cX7_score 9 = .ok (.iload_n 2, 1) := by decide +kernel
theorem dX7_score_10 : decode cX7_score 10 = .ok (.invokevirtual 136, 3) := by decide +kernel
theorem dX7_score_13 : decode cX7_score 13 = .ok (.ifCond .eq 12, 3) := by decide +kernel
theorem dX7_score_16 : decode cX7_score 16 = .ok (.aload_n 0, 1) := by decide +kernel
theorem dX7_score_17 : decode cX7_score 17 = .ok (.iload_n 1, 1) := by decide +kernel
theorem dX7_score_18 : decode cX7_score 18 = .ok (.iload_n 2, 1) := by decide +kernel
theorem dX7_score_19 : decode cX7_score 19 = .ok (.invokevirtual 176, 3) := by decide +kernel
theorem dX7_score_22 : decode cX7_score 22 = .ok (.goto 5, 3) := by decide +kernel
theorem dX7_score_25 : decode cX7_score 25 = .ok (.ldc 112, 2) := by decide +kernel
theorem dX7_score_27 : decode cX7_score 27 = .ok (.ireturn, 1) := by decide +kernel
set_option maxRecDepth 20000 in
theorem ggX7_plan_X7_isScore : GoodIn wsX7_plan wsX7_isScore := goodIn_r _ [9, 10, 11, 12, 8, 13, 25, 26, 27, 28, 29, 30, 31, 32, 33, 34, 35, 36, 37, 38, 39, 40, 41, 42, 43, 44, 45, 46, 47, 48, 49, 50, 51, 52, 53, 54] (by decide +kernel) (by decide +kernel)
set_option maxRecDepth 20000 in
theorem gX7_plan_X7_isScore : GoodIn wsX7_plan (wsV RX7 173 RX7 yX7_isScore wsX7_isScore) := goodIn_app (goodIn_of _ (by decide +kernel)) ggX7_plan_X7_isScore
set_option maxRecDepth 20000 in
theorem ggX7_plan_X7_isColumn : GoodIn wsX7_plan wsX7_isColumn := goodIn_r _ [17, 18, 11, 12, 8, 13, 25, 26, 27, 28, 29, 30, 31, 32, 33, 34, 35, 36, 37, 38, 39, 40, 41, 42, 43, 44, 45, 46, 47, 48, 49, 50, 51, 52, 53, 54] (by decide +kernel) (by decide +kernel)
set_option maxRecDepth 20000 in
theorem gX7_plan_X7_isColumn : GoodIn wsX7_plan (wsV RX7 129 RX7 yX7_isColumn wsX7_isColumn) := goodIn_app (goodIn_of _ (by decide +kernel)) ggX7_plan_X7_isColumn
set_option maxRecDepth 20000 in
theorem ggX7_plan_X7_toPoint : GoodIn wsX7_plan wsX7_toPoint := goodIn_r _ [22, 18, 23, 24, 4, 25, 26, 27, 28, 29, 30, 31, 32, 33, 34, 35, 36, 37, 38, 39, 40, 41, 42, 43, 44, 45, 46, 47, 48, 49, 50, 51, 52, 53, 54] (by decide +kernel) (by decide +kernel)
set_option maxRecDepth 20000 in
theorem gX7_plan_X7_toPoint : GoodIn wsX7_plan (wsV RX7 162 RX7 yX7_toPoint wsX7_toPoint) := goodIn_app (goodIn_of _ (by decide +kernel)) ggX7_plan_X7_toPoint
theorem dX7_plan_0 : decode cX7_plan 0 = .ok (.aload_n 0, 1) := by decide +kernel
theorem dX7_plan_1 : decode cX7_plan 1 = .ok (.iload_n 1, 1) := by decide +kernel
theorem dX7_plan_2 : decode cX7_plan 2 = .ok (.invokevirtual 173, 3) := by decide +kernel
theorem dX7_plan_5 : decode cX7_plan 5 = .ok (.ifCond .eq 11, 3) := by decide +kernel
theorem dX7_plan_8 : decode cX7_plan 8 = .ok (.aload_n 0, 1) := by decide +kernel
theorem dX7_plan_9 : decode cX7_plan 9 = .ok (.iload_n 2, 1) := by decide +kernel
theorem dX7_plan_10 : decode cX7_plan 10 = .ok (.invokevirtual 129, 3) := by decide +kernel
theorem dX7_plan_13 : decode cX7_plan 13 = .ok (.ifCond .ne 6, 3) := by decide +kernel
theorem dX7_plan_16 : decode cX7_plan 16 = .ok (.ldc 112, 2) := by decide +kernel
theorem dX7_plan_18 : decode cX7_plan 18 = .ok (.ireturn, 1) := by decide +kernel
theorem dX7_plan_19 : decode cX7_plan 19 = .ok (.aload_n 0, 1) := by decide +kernel
theorem dX7_plan_20 : decode cX7_plan 20 = .ok (.aload_n 0, 1) := by decide +kernel
theorem dX7_plan_21 : decode cX7_plan 21 = .ok (.getfield 31, 3) := by decide +kernel
theorem dX7_plan_24 : decode cX7_plan 24 = .ok (.aload_n 0, 1) := by decide +kernel
theorem dX7_plan_25 : decode cX7_plan 25 = .ok (.getfield 37, 3) := by decide +kernel
theorem dX7_plan_28 : decode cX7_plan 28 = .ok (.iload_n 1, 1) := by decide +kernel
theorem dX7_plan_29 : decode cX7_plan 29 = .ok (.iaload, 1) := by decide +kernel
theorem dX7_plan_30 : decode cX7_plan 30 = .ok (.iaload, 1) := by decide +kernel
theorem dX7_plan_31 : decode cX7_plan 31 = .ok (.invokevirtual 162, 3) := by decide +kernel
theorem dX7_plan_34 : decode cX7_plan 34 = .ok (.aload_n 0, 1) := by decide +kernel
theorem dX7_plan_35 : decode cX7_plan 35 = .ok (.getfield 49, 3) := by decide +kernel
theorem dX7_plan_38 : decode cX7_plan 38 = .ok (.iload_n 2, 1) := by decide +kernel
theorem dX7_plan_39 : decode cX7_plan 39 = .ok (.iaload, 1) := by decide +kernel
theorem dX7_plan_40 : decode cX7_plan 40 = .ok (.ireturn, 1) := by decide +kernel
set_option maxRecDepth 20000 in
theorem ggX7_ties_X7_isScore : GoodIn wsX7_ties wsX7_isScore := goodIn_r _ [7, 8, 9, 10, 6, 11, 12, 13, 14, 15, 16, 17, 18, 19, 20, 21, 22, 23, 24, 25, 26, 27, 28, 29, 30, 31, 32, 33, 34, 35, 36, 37, 38, 39, 40, 41] (by decide +kernel) (by decide +kernel)
set_option maxRecDepth 20000 in
theorem gX7_ties_X7_isScore : GoodIn wsX7_ties (wsV RX7 173 RX7 yX7_isScore wsX7_isScore) := goodIn_app (goodIn_of _ (by decide +kernel)) ggX7_ties_X7_isScore
theorem dX7_ties_0 : decode cX7_ties 0 = .ok (.aload_n 0, 1) := by decide +kernel
theorem dX7_ties_1 : decode cX7_ties 1 = .ok (.iload_n 1, 1) := by decide +kernel
theorem dX7_ties_2 : decode cX7_ties 2 = .ok (.invokevirtual 173, 3) := by decide +kernel
theorem dX7_ties_5 : decode cX7_ties 5 = .ok (.ifCond .eq 12, 3) := by decide +kernel
theorem dX7_ties_8 : decode cX7_ties 8 = .ok (.aload_n 0, 1) := by decide +kernel
theorem dX7_ties_9 : decode cX7_ties 9 = .ok (.getfield 40, 3) := by decide +kernel
theorem dX7_ties_12 : decode cX7_ties 12 = .ok (.iload_n 1, 1) := by decide +kernel
theorem dX7_ties_13 : decode cX7_ties 13 = .ok (.iaload, 1) := by decide +kernel
theorem dX7_ties_14 : decode cX7_ties 14 = .ok (.goto 5, 3) := by decide +kernel
theorem dX7_ties_17 : decode cX7_ties 17 = .ok (.ldc 112, 2) := by decide +kernel
theorem dX7_ties_19 : decode cX7_ties 19 = .ok (.ireturn, 1) := by decide +kernel
set_option maxRecDepth 20000 in
theorem ggX7_least_X7_at : GoodIn wsX7_least wsX7_at := goodIn_r _ [6, 7, 8, 9, 10, 5, 11, 12, 13, 14, 15, 16, 17, 18, 19, 20, 21, 22, 23, 24, 25, 26, 27, 28, 29, 30, 31, 32, 33, 34, 35, 36, 37, 38, 39, 40, 41, 42] (by decide +kernel) (by decide +kernel)
set_option maxRecDepth 20000 in
theorem gX7_least_X7_at : GoodIn wsX7_least (wsV RX7 176 RX7 yX7_at wsX7_at) := goodIn_app (goodIn_of _ (by decide +kernel)) ggX7_least_X7_at
theorem dX7_least_0 : decode cX7_least 0 = .ok (.aload_n 0, 1) := by decide +kernel
theorem dX7_least_1 : decode cX7_least 1 = .ok (.iconst 0, 1) := by decide +kernel
theorem dX7_least_2 : decode cX7_least 2 = .ok (.iload_n 1, 1) := by decide +kernel
theorem dX7_least_3 : decode cX7_least 3 = .ok (.invokevirtual 176, 3) := by decide +kernel
theorem dX7_least_6 : decode cX7_least 6 = .ok (.istore_n 2, 1) := by decide +kernel
theorem dX7_least_7 : decode cX7_least 7 = .ok (.iconst 1, 1) := by decide +kernel
theorem dX7_least_8 : decode cX7_least 8 = .ok (.istore_n 3, 1) := by decide +kernel
theorem dX7_least_9 : decode cX7_least 9 = .ok (.iload_n 3, 1) := by decide +kernel
theorem dX7_least_10 : decode cX7_least 10 = .ok (.aload_n 0, 1) := by decide +kernel
theorem dX7_least_11 : decode cX7_least 11 = .ok (.getfield 98, 3) := by decide +kernel
theorem dX7_least_14 : decode cX7_least 14 = .ok (.if_icmp .ge 30, 3) := by decide +kernel
theorem dX7_least_17 : decode cX7_least 17 = .ok (.aload_n 0, 1) := by decide +kernel
theorem dX7_least_18 : decode cX7_least 18 = .ok (.iload_n 3, 1) := by decide +kernel
theorem dX7_least_19 : decode cX7_least 19 = .ok (.iload_n 1, 1) := by decide +kernel
theorem dX7_least_20 : decode cX7_least 20 = .ok (.invokevirtual 176, 3) := by decide +kernel
theorem dX7_least_23 : decode cX7_least 23 = .ok (.iload_n 2, 1) := by decide +kernel
theorem dX7_least_24 : decode cX7_least 24 = .ok (.if_icmp .ge 12, 3) := by decide +kernel
theorem dX7_least_27 : decode cX7_least 27 = .ok (.aload_n 0, 1) := by decide +kernel
theorem dX7_least_28 : decode cX7_least 28 = .ok (.iload_n 3, 1) := by decide +kernel
theorem dX7_least_29 : decode cX7_least 29 = .ok (.iload_n 1, 1) := by decide +kernel
theorem dX7_least_30 : decode cX7_least 30 = .ok (.invokevirtual 176, 3) := by decide +kernel
theorem dX7_least_33 : decode cX7_least 33 = .ok (.goto 4, 3) := by decide +kernel
theorem dX7_least_36 : decode cX7_least 36 = .ok (.iload_n 2, 1) := by decide +kernel
theorem dX7_least_37 : decode cX7_least 37 = .ok (.istore_n 2, 1) := by decide +kernel
theorem dX7_least_38 : decode cX7_least 38 = .ok (.iinc 3 1, 3) := by decide +kernel
theorem dX7_least_41 : decode cX7_least 41 = .ok (.goto (-32), 3) := by decide +kernel
theorem dX7_least_44 : decode cX7_least 44 = .ok (.iload_n 2, 1) := by decide +kernel
theorem dX7_least_45 : decode cX7_least 45 = .ok (.ireturn, 1) := by decide +kernel
set_option maxRecDepth 20000 in
theorem ggX7_greatest_X7_at : GoodIn wsX7_greatest wsX7_at := goodIn_r _ [6, 7, 8, 9, 10, 5, 11, 12, 13, 14, 15, 16, 17, 18, 19, 20, 21, 22, 23, 24, 25, 26, 27, 28, 29, 30, 31, 32, 33, 34, 35, 36, 37, 38, 39, 40, 41, 42] (by decide +kernel) (by decide +kernel)
set_option maxRecDepth 20000 in
theorem gX7_greatest_X7_at : GoodIn wsX7_greatest (wsV RX7 176 RX7 yX7_at wsX7_at) := goodIn_app (goodIn_of _ (by decide +kernel)) ggX7_greatest_X7_at
theorem dX7_greatest_0 : decode cX7_greatest 0 = .ok (.aload_n 0, 1) := by decide +kernel
theorem dX7_greatest_1 : decode cX7_greatest 1 = .ok (.iconst 0, 1) := by decide +kernel
theorem dX7_greatest_2 : decode cX7_greatest 2 = .ok (.iload_n 1, 1) := by decide +kernel
theorem dX7_greatest_3 : decode cX7_greatest 3 = .ok (.invokevirtual 176, 3) := by decide +kernel
theorem dX7_greatest_6 : decode cX7_greatest 6 = .ok (.istore_n 2, 1) := by decide +kernel
theorem dX7_greatest_7 : decode cX7_greatest 7 = .ok (.iconst 1, 1) := by decide +kernel
theorem dX7_greatest_8 : decode cX7_greatest 8 = .ok (.istore_n 3, 1) := by decide +kernel
theorem dX7_greatest_9 : decode cX7_greatest 9 = .ok (.iload_n 3, 1) := by decide +kernel
theorem dX7_greatest_10 : decode cX7_greatest 10 = .ok (.aload_n 0, 1) := by decide +kernel
theorem dX7_greatest_11 : decode cX7_greatest 11 = .ok (.getfield 98, 3) := by decide +kernel
theorem dX7_greatest_14 : decode cX7_greatest 14 = .ok (.if_icmp .ge 30, 3) := by decide +kernel
theorem dX7_greatest_17 : decode cX7_greatest 17 = .ok (.aload_n 0, 1) := by decide +kernel
theorem dX7_greatest_18 : decode cX7_greatest 18 = .ok (.iload_n 3, 1) := by decide +kernel
theorem dX7_greatest_19 : decode cX7_greatest 19 = .ok (.iload_n 1, 1) := by decide +kernel
theorem dX7_greatest_20 : decode cX7_greatest 20 = .ok (.invokevirtual 176, 3) := by decide +kernel
theorem dX7_greatest_23 : decode cX7_greatest 23 = .ok (.iload_n 2, 1) := by decide +kernel
theorem dX7_greatest_24 : decode cX7_greatest 24 = .ok (.if_icmp .le 12, 3) := by decide +kernel
theorem dX7_greatest_27 : decode cX7_greatest 27 = .ok (.aload_n 0, 1) := by decide +kernel
theorem dX7_greatest_28 : decode cX7_greatest 28 = .ok (.iload_n 3, 1) := by decide +kernel
theorem dX7_greatest_29 : decode cX7_greatest 29 = .ok (.iload_n 1, 1) := by decide +kernel
theorem dX7_greatest_30 : decode cX7_greatest 30 = .ok (.invokevirtual 176, 3) := by decide +kernel
theorem dX7_greatest_33 : decode cX7_greatest 33 = .ok (.goto 4, 3) := by decide +kernel
theorem dX7_greatest_36 : decode cX7_greatest 36 = .ok (.iload_n 2, 1) := by decide +kernel
theorem dX7_greatest_37 : decode cX7_greatest 37 = .ok (.istore_n 2, 1) := by decide +kernel
theorem dX7_greatest_38 : decode cX7_greatest 38 = .ok (.iinc 3 1, 3) := by decide +kernel
theorem dX7_greatest_41 : decode cX7_greatest 41 = .ok (.goto (-32), 3) := by decide +kernel
theorem dX7_greatest_44 : decode cX7_greatest 44 = .ok (.iload_n 2, 1) := by decide +kernel
theorem dX7_greatest_45 : decode cX7_greatest 45 = .ok (.ireturn, 1) := by decide +kernel
set_option maxRecDepth 20000 in
theorem ggX7_ideal_X7_isAim : GoodIn wsX7_ideal wsX7_isAim := goodIn_r _ [8, 9, 10, 11, 7, 12, 27, 28, 29, 30, 31, 32, 33, 34, 35, 36, 37, 38, 39, 40, 41, 42, 43, 44, 45, 46, 47, 48, 49, 50, 51, 52, 53, 54, 55, 56] (by decide +kernel) (by decide +kernel)
set_option maxRecDepth 20000 in
theorem gX7_ideal_X7_isAim : GoodIn wsX7_ideal (wsV RX7 136 RX7 yX7_isAim wsX7_isAim) := goodIn_app (goodIn_of _ (by decide +kernel)) ggX7_ideal_X7_isAim
set_option maxRecDepth 20000 in
theorem ggX7_ideal_X7_least : GoodIn wsX7_ideal wsX7_least := goodIn_r _ [16, 2, 17, 18, 19, 7, 20, 21, 22, 23, 24, 25, 26, 27, 28, 29, 30, 31, 32, 33, 34, 35, 36, 37, 38, 39, 40, 41, 42, 43, 44, 45, 46, 47, 48, 49, 50, 51, 52, 53, 54, 55, 56] (by decide +kernel) (by decide +kernel)
set_option maxRecDepth 20000 in
theorem gX7_ideal_X7_least : GoodIn wsX7_ideal (wsV RX7 179 RX7 yX7_least wsX7_least) := goodIn_app (goodIn_of _ (by decide +kernel)) ggX7_ideal_X7_least
theorem dX7_ideal_0 : decode cX7_ideal 0 = .ok (.aload_n 0, 1) := by decide +kernel
theorem dX7_ideal_1 : decode cX7_ideal 1 = .ok (.iload_n 1, 1) := by decide +kernel
theorem dX7_ideal_2 : decode cX7_ideal 2 = .ok (.invokevirtual 136, 3) := by decide +kernel
theorem dX7_ideal_5 : decode cX7_ideal 5 = .ok (.ifCond .ne 8, 3) := by decide +kernel
theorem dX7_ideal_8 : decode cX7_ideal 8 = .ok (.ldc 112, 2) := by decide +kernel
theorem dX7_ideal_10 : decode cX7_ideal 10 = .ok (.goto 20, 3) := by decide +kernel
theorem dX7_ideal_13 : decode cX7_ideal 13 = .ok (.aload_n 0, 1) := by decide +kernel
theorem dX7_ideal_14 : decode cX7_ideal 14 = .ok (.getfield 98, 3) := by decide +kernel
theorem dX7_ideal_17 : decode cX7_ideal 17 = .ok (.ifCond .ne 8, 3) := by decide +kernel
theorem dX7_ideal_20 : decode cX7_ideal 20 = .ok (.ldc 161, 2) := by decide +kernel
theorem dX7_ideal_22 : decode cX7_ideal 22 = .ok (.goto 8, 3) := by decide +kernel
theorem dX7_ideal_25 : decode cX7_ideal 25 = .ok (.aload_n 0, 1) := by decide +kernel
theorem dX7_ideal_26 : decode cX7_ideal 26 = .ok (.iload_n 1, 1) := by decide +kernel
theorem dX7_ideal_27 : decode cX7_ideal 27 = .ok (.invokevirtual 179, 3) := by decide +kernel
theorem dX7_ideal_30 : decode cX7_ideal 30 = .ok (.ireturn, 1) := by decide +kernel
set_option maxRecDepth 20000 in
theorem ggX7_nadir_X7_isAim : GoodIn wsX7_nadir wsX7_isAim := goodIn_r _ [8, 9, 10, 11, 7, 12, 27, 28, 29, 30, 31, 32, 33, 34, 35, 36, 37, 38, 39, 40, 41, 42, 43, 44, 45, 46, 47, 48, 49, 50, 51, 52, 53, 54, 55, 56] (by decide +kernel) (by decide +kernel)
set_option maxRecDepth 20000 in
theorem gX7_nadir_X7_isAim : GoodIn wsX7_nadir (wsV RX7 136 RX7 yX7_isAim wsX7_isAim) := goodIn_app (goodIn_of _ (by decide +kernel)) ggX7_nadir_X7_isAim
set_option maxRecDepth 20000 in
theorem ggX7_nadir_X7_greatest : GoodIn wsX7_nadir wsX7_greatest := goodIn_r _ [16, 2, 17, 18, 19, 7, 20, 21, 22, 23, 24, 25, 26, 27, 28, 29, 30, 31, 32, 33, 34, 35, 36, 37, 38, 39, 40, 41, 42, 43, 44, 45, 46, 47, 48, 49, 50, 51, 52, 53, 54, 55, 56] (by decide +kernel) (by decide +kernel)
set_option maxRecDepth 20000 in
theorem gX7_nadir_X7_greatest : GoodIn wsX7_nadir (wsV RX7 183 RX7 yX7_greatest wsX7_greatest) := goodIn_app (goodIn_of _ (by decide +kernel)) ggX7_nadir_X7_greatest
theorem dX7_nadir_0 : decode cX7_nadir 0 = .ok (.aload_n 0, 1) := by decide +kernel
theorem dX7_nadir_1 : decode cX7_nadir 1 = .ok (.iload_n 1, 1) := by decide +kernel
theorem dX7_nadir_2 : decode cX7_nadir 2 = .ok (.invokevirtual 136, 3) := by decide +kernel
theorem dX7_nadir_5 : decode cX7_nadir 5 = .ok (.ifCond .ne 8, 3) := by decide +kernel
theorem dX7_nadir_8 : decode cX7_nadir 8 = .ok (.ldc 112, 2) := by decide +kernel
theorem dX7_nadir_10 : decode cX7_nadir 10 = .ok (.goto 20, 3) := by decide +kernel
theorem dX7_nadir_13 : decode cX7_nadir 13 = .ok (.aload_n 0, 1) := by decide +kernel
theorem dX7_nadir_14 : decode cX7_nadir 14 = .ok (.getfield 98, 3) := by decide +kernel
theorem dX7_nadir_17 : decode cX7_nadir 17 = .ok (.ifCond .ne 8, 3) := by decide +kernel
theorem dX7_nadir_20 : decode cX7_nadir 20 = .ok (.ldc 161, 2) := by decide +kernel
theorem dX7_nadir_22 : decode cX7_nadir 22 = .ok (.goto 8, 3) := by decide +kernel
theorem dX7_nadir_25 : decode cX7_nadir 25 = .ok (.aload_n 0, 1) := by decide +kernel
theorem dX7_nadir_26 : decode cX7_nadir 26 = .ok (.iload_n 1, 1) := by decide +kernel
theorem dX7_nadir_27 : decode cX7_nadir 27 = .ok (.invokevirtual 183, 3) := by decide +kernel
theorem dX7_nadir_30 : decode cX7_nadir 30 = .ok (.ireturn, 1) := by decide +kernel
set_option maxRecDepth 20000 in
theorem ggX7_distance_X7_at : GoodIn wsX7_distance wsX7_at := goodIn_r _ [7, 8, 9, 10, 11, 6, 12, 13, 19, 20, 21, 22, 23, 24, 25, 26, 27, 28, 29, 30, 31, 32, 33, 34, 35, 36, 37, 38, 39, 40, 41, 42, 43, 44, 45, 46, 47, 48] (by decide +kernel) (by decide +kernel)
set_option maxRecDepth 20000 in
theorem gX7_distance_X7_at : GoodIn wsX7_distance (wsV RX7 176 RX7 yX7_at wsX7_at) := goodIn_app (goodIn_of _ (by decide +kernel)) ggX7_distance_X7_at
set_option maxRecDepth 20000 in
theorem ggX7_distance_X7_least : GoodIn wsX7_distance wsX7_least := goodIn_r _ [17, 18, 3, 4, 5, 6, 7, 8, 9, 10, 11, 12, 13, 19, 20, 21, 22, 23, 24, 25, 26, 27, 28, 29, 30, 31, 32, 33, 34, 35, 36, 37, 38, 39, 40, 41, 42, 43, 44, 45, 46, 47, 48] (by decide +kernel) (by decide +kernel)
set_option maxRecDepth 20000 in
theorem gX7_distance_X7_least : GoodIn wsX7_distance (wsV RX7 179 RX7 yX7_least wsX7_least) := goodIn_app (goodIn_of _ (by decide +kernel)) ggX7_distance_X7_least
theorem dX7_distance_0 : decode cX7_distance 0 = .ok (.lconst 0, 1) := by decide +kernel
theorem dX7_distance_1 : decode cX7_distance 1 = .ok (.lstore_n 3, 1) := by decide +kernel
theorem dX7_distance_2 : decode cX7_distance 2 = .ok (.iconst 0, 1) := by decide +kernel
theorem dX7_distance_3 : decode cX7_distance 3 = .ok (.istore 5, 2) := by decide +kernel
theorem dX7_distance_5 : decode cX7_distance 5 = .ok (.iload 5, 2) := by decide +kernel
theorem dX7_distance_7 : decode cX7_distance 7 = .ok (.aload_n 0, 1) := by decide +kernel
theorem dX7_distance_8 : decode cX7_distance 8 = .ok (.getfield 89, 3) := by decide +kernel
theorem dX7_distance_11 : decode cX7_distance 11 = .ok (.if_icmp .ge 93, 3) := by decide +kernel
theorem dX7_distance_14 : decode cX7_distance 14 = .ok (.aload_n 0, 1) := by decide +kernel
theorem dX7_distance_15 : decode cX7_distance 15 = .ok (.iload_n 1, 1) := by decide +kernel
theorem dX7_distance_16 : decode cX7_distance 16 = .ok (.iload 5, 2) := by decide +kernel
theorem dX7_distance_18 : decode cX7_distance 18 = .ok (.invokevirtual 176, 3) := by decide +kernel
theorem dX7_distance_21 : decode cX7_distance 21 = .ok (.aload_n 0, 1) := by decide +kernel
theorem dX7_distance_22 : decode cX7_distance 22 = .ok (.iload 5, 2) := by decide +kernel
theorem dX7_distance_24 : decode cX7_distance 24 = .ok (.invokevirtual 179, 3) := by decide +kernel
theorem dX7_distance_27 : decode cX7_distance 27 = .ok (.isub, 1) := by decide +kernel
theorem dX7_distance_28 : decode cX7_distance 28 = .ok (.i2l, 1) := by decide +kernel
theorem dX7_distance_29 : decode cX7_distance 29 = .ok (.lstore 6, 2) := by decide +kernel
theorem dX7_distance_31 : decode cX7_distance 31 = .ok (.iconst 0, 1) := by decide +kernel
theorem dX7_distance_32 : decode cX7_distance 32 = .ok (.istore 8, 2) := by decide +kernel
theorem dX7_distance_34 : decode cX7_distance 34 = .ok (.iload 8, 2) := by decide +kernel
theorem dX7_distance_36 : decode cX7_distance 36 = .ok (.aload_n 0, 1) := by decide +kernel
theorem dX7_distance_37 : decode cX7_distance 37 = .ok (.getfield 89, 3) := by decide +kernel
theorem dX7_distance_40 : decode cX7_distance 40 = .ok (.if_icmp .ge 33, 3) := by decide +kernel
theorem dX7_distance_43 : decode cX7_distance 43 = .ok (.iload 8, 2) := by decide +kernel
theorem dX7_distance_45 : decode cX7_distance 45 = .ok (.iload 5, 2) := by decide +kernel
theorem dX7_distance_47 : decode cX7_distance 47 = .ok (.if_icmp .ne 8, 3) := by decide +kernel
theorem dX7_distance_50 : decode cX7_distance 50 = .ok (.lload 6, 2) := by decide +kernel
theorem dX7_distance_52 : decode cX7_distance 52 = .ok (.goto 13, 3) := by decide +kernel
theorem dX7_distance_55 : decode cX7_distance 55 = .ok (.lload 6, 2) := by decide +kernel
theorem dX7_distance_57 : decode cX7_distance 57 = .ok (.aload_n 0, 1) := by decide +kernel
theorem dX7_distance_58 : decode cX7_distance 58 = .ok (.getfield 55, 3) := by decide +kernel
theorem dX7_distance_61 : decode cX7_distance 61 = .ok (.iload 8, 2) := by decide +kernel
theorem dX7_distance_63 : decode cX7_distance 63 = .ok (.laload, 1) := by decide +kernel
theorem dX7_distance_64 : decode cX7_distance 64 = .ok (.lmul, 1) := by decide +kernel
theorem dX7_distance_65 : decode cX7_distance 65 = .ok (.lstore 6, 2) := by decide +kernel
theorem dX7_distance_67 : decode cX7_distance 67 = .ok (.iinc 8 1, 3) := by decide +kernel
theorem dX7_distance_70 : decode cX7_distance 70 = .ok (.goto (-36), 3) := by decide +kernel
theorem dX7_distance_73 : decode cX7_distance 73 = .ok (.iload_n 2, 1) := by decide +kernel
theorem dX7_distance_74 : decode cX7_distance 74 = .ok (.ifCond .ne 10, 3) := by decide +kernel
theorem dX7_distance_77 : decode cX7_distance 77 = .ok (.lload_n 3, 1) := by decide +kernel
theorem dX7_distance_78 : decode cX7_distance 78 = .ok (.lload 6, 2) := by decide +kernel
theorem dX7_distance_80 : decode cX7_distance 80 = .ok (.ladd, 1) := by decide +kernel
theorem dX7_distance_81 : decode cX7_distance 81 = .ok (.goto 16, 3) := by decide +kernel
theorem dX7_distance_84 : decode cX7_distance 84 = .ok (.lload 6, 2) := by decide +kernel
theorem dX7_distance_86 : decode cX7_distance 86 = .ok (.lload_n 3, 1) := by decide +kernel
theorem dX7_distance_87 : decode cX7_distance 87 = .ok (.lcmp, 1) := by decide +kernel
theorem dX7_distance_88 : decode cX7_distance 88 = .ok (.ifCond .le 8, 3) := by decide +kernel
theorem dX7_distance_91 : decode cX7_distance 91 = .ok (.lload 6, 2) := by decide +kernel
theorem dX7_distance_93 : decode cX7_distance 93 = .ok (.goto 4, 3) := by decide +kernel
theorem dX7_distance_96 : decode cX7_distance 96 = .ok (.lload_n 3, 1) := by decide +kernel
theorem dX7_distance_97 : decode cX7_distance 97 = .ok (.lstore_n 3, 1) := by decide +kernel
theorem dX7_distance_98 : decode cX7_distance 98 = .ok (.iinc 5 1, 3) := by decide +kernel
theorem dX7_distance_101 : decode cX7_distance 101 = .ok (.goto (-96), 3) := by decide +kernel
theorem dX7_distance_104 : decode cX7_distance 104 = .ok (.lload_n 3, 1) := by decide +kernel
theorem dX7_distance_105 : decode cX7_distance 105 = .ok (.lreturn, 1) := by decide +kernel
set_option maxRecDepth 20000 in
theorem ggX7_knee_X7_in : GoodIn wsX7_knee wsX7_in := goodIn_r _ [9] (by decide +kernel) (by decide +kernel)
set_option maxRecDepth 20000 in
theorem gX7_knee_X7_in : GoodIn wsX7_knee (va_wsS RX7 82 yX7_in wsX7_in) := goodIn_app (goodIn_of _ (by decide +kernel)) ggX7_knee_X7_in
set_option maxRecDepth 20000 in
theorem ggX7_knee_X7_greatest : GoodIn wsX7_knee wsX7_greatest := goodIn_r _ [13, 2, 14, 15, 16, 8, 17, 18, 19, 20, 21, 22, 23, 32, 33, 34, 35, 36, 37, 38, 39, 40, 41, 42, 43, 44, 45, 46, 47, 48, 49, 50, 51, 52, 53, 54, 55, 56, 57, 58, 59, 60, 61] (by decide +kernel) (by decide +kernel)
set_option maxRecDepth 20000 in
theorem gX7_knee_X7_greatest : GoodIn wsX7_knee (wsV RX7 183 RX7 yX7_greatest wsX7_greatest) := goodIn_app (goodIn_of _ (by decide +kernel)) ggX7_knee_X7_greatest
set_option maxRecDepth 20000 in
theorem ggX7_knee_X7_least : GoodIn wsX7_knee wsX7_least := goodIn_r _ [27, 2, 14, 15, 16, 8, 17, 18, 19, 20, 21, 22, 23, 32, 33, 34, 35, 36, 37, 38, 39, 40, 41, 42, 43, 44, 45, 46, 47, 48, 49, 50, 51, 52, 53, 54, 55, 56, 57, 58, 59, 60, 61] (by decide +kernel) (by decide +kernel)
set_option maxRecDepth 20000 in
theorem gX7_knee_X7_least : GoodIn wsX7_knee (wsV RX7 179 RX7 yX7_least wsX7_least) := goodIn_app (goodIn_of _ (by decide +kernel)) ggX7_knee_X7_least
set_option maxRecDepth 20000 in
theorem ggX7_knee_X7_distance : GoodIn wsX7_knee wsX7_distance := goodIn_r _ [31, 4, 5, 14, 15, 16, 8, 17, 18, 19, 20, 21, 22, 23, 24, 25, 26, 27, 2, 32, 33, 34, 35, 36, 37, 38, 39, 40, 41, 42, 43, 44, 45, 46, 47, 48, 49, 50, 51, 52, 53, 54, 55, 56, 57, 58, 59, 60, 61] (by decide +kernel) (by decide +kernel)
set_option maxRecDepth 20000 in
theorem gX7_knee_X7_distance : GoodIn wsX7_knee (wsV RX7 186 RX7 yX7_distance wsX7_distance) := goodIn_app (goodIn_of _ (by decide +kernel)) ggX7_knee_X7_distance
theorem dX7_knee_0 : decode cX7_knee 0 = .ok (.iload_n 1, 1) := by decide +kernel
theorem dX7_knee_1 : decode cX7_knee 1 = .ok (.i2l, 1) := by decide +kernel
theorem dX7_knee_2 : decode cX7_knee 2 = .ok (.lconst 0, 1) := by decide +kernel
theorem dX7_knee_3 : decode cX7_knee 3 = .ok (.lconst 1, 1) := by decide +kernel
theorem dX7_knee_4 : decode cX7_knee 4 = .ok (.invokestatic 82, 3) := by decide +kernel
theorem dX7_knee_7 : decode cX7_knee 7 = .ok (.ifCond .ne 6, 3) := by decide +kernel
theorem dX7_knee_10 : decode cX7_knee 10 = .ok (.ldc 112, 2) := by decide +kernel
theorem dX7_knee_12 : decode cX7_knee 12 = .ok (.ireturn, 1) := by decide +kernel
theorem dX7_knee_13 : decode cX7_knee 13 = .ok (.aload_n 0, 1) := by decide +kernel
theorem dX7_knee_14 : decode cX7_knee 14 = .ok (.getfield 98, 3) := by decide +kernel
theorem dX7_knee_17 : decode cX7_knee 17 = .ok (.ifCond .ne 6, 3) := by decide +kernel
theorem dX7_knee_20 : decode cX7_knee 20 = .ok (.ldc 161, 2) := by decide +kernel
theorem dX7_knee_22 : decode cX7_knee 22 = .ok (.ireturn, 1) := by decide +kernel
theorem dX7_knee_23 : decode cX7_knee 23 = .ok (.iconst 0, 1) := by decide +kernel
theorem dX7_knee_24 : decode cX7_knee 24 = .ok (.istore_n 2, 1) := by decide +kernel
theorem dX7_knee_25 : decode cX7_knee 25 = .ok (.iload_n 2, 1) := by decide +kernel
theorem dX7_knee_26 : decode cX7_knee 26 = .ok (.aload_n 0, 1) := by decide +kernel
theorem dX7_knee_27 : decode cX7_knee 27 = .ok (.getfield 89, 3) := by decide +kernel
theorem dX7_knee_30 : decode cX7_knee 30 = .ok (.if_icmp .ge 39, 3) := by decide +kernel
theorem dX7_knee_33 : decode cX7_knee 33 = .ok (.aload_n 0, 1) := by decide +kernel
theorem dX7_knee_34 : decode cX7_knee 34 = .ok (.iload_n 2, 1) := by decide +kernel
theorem dX7_knee_35 : decode cX7_knee 35 = .ok (.invokevirtual 183, 3) := by decide +kernel
theorem dX7_knee_38 : decode cX7_knee 38 = .ok (.aload_n 0, 1) := by decide +kernel
theorem dX7_knee_39 : decode cX7_knee 39 = .ok (.iload_n 2, 1) := by decide +kernel
theorem dX7_knee_40 : decode cX7_knee 40 = .ok (.invokevirtual 179, 3) := by decide +kernel
theorem dX7_knee_43 : decode cX7_knee 43 = .ok (.isub, 1) := by decide +kernel
theorem dX7_knee_44 : decode cX7_knee 44 = .ok (.i2l, 1) := by decide +kernel
theorem dX7_knee_45 : decode cX7_knee 45 = .ok (.lstore_n 3, 1) := by decide +kernel
theorem dX7_knee_46 : decode cX7_knee 46 = .ok (.aload_n 0, 1) := by decide +kernel
theorem dX7_knee_47 : decode cX7_knee 47 = .ok (.getfield 55, 3) := by decide +kernel
theorem dX7_knee_50 : decode cX7_knee 50 = .ok (.iload_n 2, 1) := by decide +kernel
theorem dX7_knee_51 : decode cX7_knee 51 = .ok (.lload_n 3, 1) := by decide +kernel
theorem dX7_knee_52 : decode cX7_knee 52 = .ok (.lconst 0, 1) := by decide +kernel
theorem dX7_knee_53 : decode cX7_knee 53 = .ok (.lcmp, 1) := by decide +kernel
theorem dX7_knee_54 : decode cX7_knee 54 = .ok (.ifCond .ne 7, 3) := by decide +kernel
theorem dX7_knee_57 : decode cX7_knee 57 = .ok (.lconst 1, 1) := by decide +kernel
theorem dX7_knee_58 : decode cX7_knee 58 = .ok (.goto 4, 3) := by decide +kernel
theorem dX7_knee_61 : decode cX7_knee 61 = .ok (.lload_n 3, 1) := by decide +kernel
theorem dX7_knee_62 : decode cX7_knee 62 = .ok (.lastore, 1) := by decide +kernel
theorem dX7_knee_63 : decode cX7_knee 63 = .ok (.iinc 2 1, 3) := by decide +kernel
theorem dX7_knee_66 : decode cX7_knee 66 = .ok (.goto (-41), 3) := by decide +kernel
theorem dX7_knee_69 : decode cX7_knee 69 = .ok (.iconst 0, 1) := by decide +kernel
theorem dX7_knee_70 : decode cX7_knee 70 = .ok (.istore_n 2, 1) := by decide +kernel
theorem dX7_knee_71 : decode cX7_knee 71 = .ok (.aload_n 0, 1) := by decide +kernel
theorem dX7_knee_72 : decode cX7_knee 72 = .ok (.iconst 0, 1) := by decide +kernel
theorem dX7_knee_73 : decode cX7_knee 73 = .ok (.iload_n 1, 1) := by decide +kernel
theorem dX7_knee_74 : decode cX7_knee 74 = .ok (.invokevirtual 186, 3) := by decide +kernel
theorem dX7_knee_77 : decode cX7_knee 77 = .ok (.lstore_n 3, 1) := by decide +kernel
theorem dX7_knee_78 : decode cX7_knee 78 = .ok (.iconst 1, 1) := by decide +kernel
theorem dX7_knee_79 : decode cX7_knee 79 = .ok (.istore 5, 2) := by decide +kernel
theorem dX7_knee_81 : decode cX7_knee 81 = .ok (.iload 5, 2) := by decide +kernel
theorem dX7_knee_83 : decode cX7_knee 83 = .ok (.aload_n 0, 1) := by decide +kernel
theorem dX7_knee_84 : decode cX7_knee 84 = .ok (.getfield 98, 3) := by decide +kernel
theorem dX7_knee_87 : decode cX7_knee 87 = .ok (.if_icmp .ge 46, 3) := by decide +kernel
theorem dX7_knee_90 : decode cX7_knee 90 = .ok (.aload_n 0, 1) := by decide +kernel
theorem dX7_knee_91 : decode cX7_knee 91 = .ok (.iload 5, 2) := by decide +kernel
theorem dX7_knee_93 : decode cX7_knee 93 = .ok (.iload_n 1, 1) := by decide +kernel
theorem dX7_knee_94 : decode cX7_knee 94 = .ok (.invokevirtual 186, 3) := by decide +kernel
theorem dX7_knee_97 : decode cX7_knee 97 = .ok (.lstore 6, 2) := by decide +kernel
theorem dX7_knee_99 : decode cX7_knee 99 = .ok (.lload 6, 2) := by decide +kernel
theorem dX7_knee_101 : decode cX7_knee 101 = .ok (.lload_n 3, 1) := by decide +kernel
theorem dX7_knee_102 : decode cX7_knee 102 = .ok (.lcmp, 1) := by decide +kernel
theorem dX7_knee_103 : decode cX7_knee 103 = .ok (.ifCond .ge 8, 3) := by decide +kernel
theorem dX7_knee_106 : decode cX7_knee 106 = .ok (.iload 5, 2) := by decide +kernel
theorem dX7_knee_108 : decode cX7_knee 108 = .ok (.goto 4, 3) := by decide +kernel
theorem dX7_knee_111 : decode cX7_knee 111 = .ok (.iload_n 2, 1) := by decide +kernel
theorem dX7_knee_112 : decode cX7_knee 112 = .ok (.istore_n 2, 1) := by decide +kernel
theorem dX7_knee_113 : decode cX7_knee 113 = .ok (.lload 6, 2) := by decide +kernel
theorem dX7_knee_115 : decode cX7_knee 115 = .ok (.lload_n 3, 1) := by decide +kernel
theorem dX7_knee_116 : decode cX7_knee 116 = .ok (.lcmp, 1) := by decide +kernel
theorem dX7_knee_117 : decode cX7_knee 117 = .ok (.ifCond .ge 8, 3) := by decide +kernel
theorem dX7_knee_120 : decode cX7_knee 120 = .ok (.lload 6, 2) := by decide +kernel
theorem dX7_knee_122 : decode cX7_knee 122 = .ok (.goto 4, 3) := by decide +kernel
theorem dX7_knee_125 : decode cX7_knee 125 = .ok (.lload_n 3, 1) := by decide +kernel
theorem dX7_knee_126 : decode cX7_knee 126 = .ok (.lstore_n 3, 1) := by decide +kernel
theorem dX7_knee_127 : decode cX7_knee 127 = .ok (.iinc 5 1, 3) := by decide +kernel
theorem dX7_knee_130 : decode cX7_knee 130 = .ok (.goto (-49), 3) := by decide +kernel
theorem dX7_knee_133 : decode cX7_knee 133 = .ok (.iload_n 2, 1) := by decide +kernel
theorem dX7_knee_134 : decode cX7_knee 134 = .ok (.ireturn, 1) := by decide +kernel
theorem dX7_take_0 : decode cX7_take 0 = .ok (.aload_n 0, 1) := by decide +kernel
theorem dX7_take_1 : decode cX7_take 1 = .ok (.getfield 59, 3) := by decide +kernel
theorem dX7_take_4 : decode cX7_take 4 = .ok (.iconst 0, 1) := by decide +kernel
theorem dX7_take_5 : decode cX7_take 5 = .ok (.iload_n 1, 1) := by decide +kernel
theorem dX7_take_6 : decode cX7_take 6 = .ok (.iastore, 1) := by decide +kernel
theorem dX7_take_7 : decode cX7_take 7 = .ok (.aload_n 0, 1) := by decide +kernel
theorem dX7_take_8 : decode cX7_take 8 = .ok (.getfield 59, 3) := by decide +kernel
theorem dX7_take_11 : decode cX7_take 11 = .ok (.iconst 1, 1) := by decide +kernel
theorem dX7_take_12 : decode cX7_take 12 = .ok (.iload_n 2, 1) := by decide +kernel
theorem dX7_take_13 : decode cX7_take 13 = .ok (.iastore, 1) := by decide +kernel
theorem dX7_take_14 : decode cX7_take 14 = .ok (.aload_n 0, 1) := by decide +kernel
theorem dX7_take_15 : decode cX7_take 15 = .ok (.getfield 59, 3) := by decide +kernel
theorem dX7_take_18 : decode cX7_take 18 = .ok (.iconst 2, 1) := by decide +kernel
theorem dX7_take_19 : decode cX7_take 19 = .ok (.iload_n 3, 1) := by decide +kernel
theorem dX7_take_20 : decode cX7_take 20 = .ok (.iastore, 1) := by decide +kernel
theorem dX7_take_21 : decode cX7_take 21 = .ok (.aload_n 0, 1) := by decide +kernel
theorem dX7_take_22 : decode cX7_take 22 = .ok (.getfield 59, 3) := by decide +kernel
theorem dX7_take_25 : decode cX7_take 25 = .ok (.iconst 3, 1) := by decide +kernel
theorem dX7_take_26 : decode cX7_take 26 = .ok (.iload 4, 2) := by decide +kernel
theorem dX7_take_28 : decode cX7_take 28 = .ok (.iastore, 1) := by decide +kernel
theorem dX7_take_29 : decode cX7_take 29 = .ok (.return_, 1) := by decide +kernel
set_option maxRecDepth 20000 in
theorem ggX7_weigh_X7_at : GoodIn wsX7_weigh wsX7_at := goodIn_r _ [7, 8, 9, 10, 11, 6, 12, 13, 14, 15, 16, 17, 18, 19, 20, 21, 22, 23, 24, 25, 26, 27, 28, 29, 30, 31, 32, 33, 34, 35, 36, 37, 38, 39, 40, 41, 42, 43] (by decide +kernel) (by decide +kernel)
set_option maxRecDepth 20000 in
theorem gX7_weigh_X7_at : GoodIn wsX7_weigh (wsV RX7 176 RX7 yX7_at wsX7_at) := goodIn_app (goodIn_of _ (by decide +kernel)) ggX7_weigh_X7_at
theorem dX7_weigh_0 : decode cX7_weigh 0 = .ok (.lconst 0, 1) := by decide +kernel
theorem dX7_weigh_1 : decode cX7_weigh 1 = .ok (.lstore_n 2, 1) := by decide +kernel
theorem dX7_weigh_2 : decode cX7_weigh 2 = .ok (.iconst 0, 1) := by decide +kernel
theorem dX7_weigh_3 : decode cX7_weigh 3 = .ok (.istore 4, 2) := by decide +kernel
theorem dX7_weigh_5 : decode cX7_weigh 5 = .ok (.iload 4, 2) := by decide +kernel
theorem dX7_weigh_7 : decode cX7_weigh 7 = .ok (.aload_n 0, 1) := by decide +kernel
theorem dX7_weigh_8 : decode cX7_weigh 8 = .ok (.getfield 89, 3) := by decide +kernel
theorem dX7_weigh_11 : decode cX7_weigh 11 = .ok (.if_icmp .ge 29, 3) := by decide +kernel
theorem dX7_weigh_14 : decode cX7_weigh 14 = .ok (.lload_n 2, 1) := by decide +kernel
theorem dX7_weigh_15 : decode cX7_weigh 15 = .ok (.aload_n 0, 1) := by decide +kernel
theorem dX7_weigh_16 : decode cX7_weigh 16 = .ok (.getfield 59, 3) := by decide +kernel
theorem dX7_weigh_19 : decode cX7_weigh 19 = .ok (.iload 4, 2) := by decide +kernel
theorem dX7_weigh_21 : decode cX7_weigh 21 = .ok (.iaload, 1) := by decide +kernel
theorem dX7_weigh_22 : decode cX7_weigh 22 = .ok (.i2l, 1) := by decide +kernel
theorem dX7_weigh_23 : decode cX7_weigh 23 = .ok (.aload_n 0, 1) := by decide +kernel
theorem dX7_weigh_24 : decode cX7_weigh 24 = .ok (.iload_n 1, 1) := by decide +kernel
theorem dX7_weigh_25 : decode cX7_weigh 25 = .ok (.iload 4, 2) := by decide +kernel
theorem dX7_weigh_27 : decode cX7_weigh 27 = .ok (.invokevirtual 176, 3) := by decide +kernel
theorem dX7_weigh_30 : decode cX7_weigh 30 = .ok (.i2l, 1) := by decide +kernel
theorem dX7_weigh_31 : decode cX7_weigh 31 = .ok (.lmul, 1) := by decide +kernel
theorem dX7_weigh_32 : decode cX7_weigh 32 = .ok (.ladd, 1) := by decide +kernel
theorem dX7_weigh_33 : decode cX7_weigh 33 = .ok (.lstore_n 2, 1) := by decide +kernel
theorem dX7_weigh_34 : decode cX7_weigh 34 = .ok (.iinc 4 1, 3) := by decide +kernel
theorem dX7_weigh_37 : decode cX7_weigh 37 = .ok (.goto (-32), 3) := by decide +kernel
theorem dX7_weigh_40 : decode cX7_weigh 40 = .ok (.lload_n 2, 1) := by decide +kernel
theorem dX7_weigh_41 : decode cX7_weigh 41 = .ok (.lreturn, 1) := by decide +kernel
set_option maxRecDepth 20000 in
theorem ggX7_weighted_X7_take : GoodIn wsX7_weighted wsX7_take := goodIn_r _ [11, 2, 29, 30, 31, 32, 33, 34, 35, 36, 37, 38, 39, 40, 41, 42, 43, 44, 45, 46, 47, 48, 49, 50, 51, 52, 53, 54, 55, 56, 57, 58] (by decide +kernel) (by decide +kernel)
set_option maxRecDepth 20000 in
theorem gX7_weighted_X7_take : GoodIn wsX7_weighted (wsV RX7 190 RX7 yX7_take wsX7_take) := goodIn_app (goodIn_of _ (by decide +kernel)) ggX7_weighted_X7_take
set_option maxRecDepth 20000 in
theorem ggX7_weighted_X7_in : GoodIn wsX7_weighted wsX7_in := goodIn_r _ [14] (by decide +kernel) (by decide +kernel)
set_option maxRecDepth 20000 in
theorem gX7_weighted_X7_in : GoodIn wsX7_weighted (va_wsS RX7 82 yX7_in wsX7_in) := goodIn_app (goodIn_of _ (by decide +kernel)) ggX7_weighted_X7_in
set_option maxRecDepth 20000 in
theorem ggX7_weighted_X7_weigh : GoodIn wsX7_weighted wsX7_weigh := goodIn_r _ [18, 1, 2, 19, 20, 21, 10, 22, 23, 24, 25, 26, 27, 28, 29, 30, 31, 32, 33, 34, 35, 36, 37, 38, 39, 40, 41, 42, 43, 44, 45, 46, 47, 48, 49, 50, 51, 52, 53, 54, 55, 56, 57, 58] (by decide +kernel) (by decide +kernel)
set_option maxRecDepth 20000 in
theorem gX7_weighted_X7_weigh : GoodIn wsX7_weighted (wsV RX7 196 RX7 yX7_weigh wsX7_weigh) := goodIn_app (goodIn_of _ (by decide +kernel)) ggX7_weighted_X7_weigh
theorem dX7_weighted_0 : decode cX7_weighted 0 = .ok (.aload_n 0, 1) := by decide +kernel
theorem dX7_weighted_1 : decode cX7_weighted 1 = .ok (.iload_n 1, 1) := by decide +kernel
theorem dX7_weighted_2 : decode cX7_weighted 2 = .ok (.iload_n 2, 1) := by decide +kernel
theorem dX7_weighted_3 : decode cX7_weighted 3 = .ok (.iload_n 3, 1) := by decide +kernel
theorem dX7_weighted_4 : decode cX7_weighted 4 = .ok (.iload 4, 2) := by decide +kernel
theorem dX7_weighted_6 : decode cX7_weighted 6 = .ok (.invokevirtual 190, 3) := by decide +kernel
theorem dX7_weighted_9 : decode cX7_weighted 9 = .ok (.iconst 1, 1) := by decide +kernel
theorem dX7_weighted_10 : decode cX7_weighted 10 = .ok (.istore 5, 2) := by decide +kernel
theorem dX7_weighted_12 : decode cX7_weighted 12 = .ok (.iconst 1, 1) := by decide +kernel
theorem dX7_weighted_13 : decode cX7_weighted 13 = .ok (.istore 6, 2) := by decide +kernel
theorem dX7_weighted_15 : decode cX7_weighted 15 = .ok (.iconst 0, 1) := by decide +kernel
theorem dX7_weighted_16 : decode cX7_weighted 16 = .ok (.istore 7, 2) := by decide +kernel
theorem dX7_weighted_18 : decode cX7_weighted 18 = .ok (.iload 7, 2) := by decide +kernel
theorem dX7_weighted_20 : decode cX7_weighted 20 = .ok (.aload_n 0, 1) := by decide +kernel
theorem dX7_weighted_21 : decode cX7_weighted 21 = .ok (.getfield 89, 3) := by decide +kernel
theorem dX7_weighted_24 : decode cX7_weighted 24 = .ok (.if_icmp .ge 61, 3) := by decide +kernel
theorem dX7_weighted_27 : decode cX7_weighted 27 = .ok (.iload 5, 2) := by decide +kernel
theorem dX7_weighted_29 : decode cX7_weighted 29 = .ok (.ifCond .eq 25, 3) := by decide +kernel
theorem dX7_weighted_32 : decode cX7_weighted 32 = .ok (.aload_n 0, 1) := by decide +kernel
theorem dX7_weighted_33 : decode cX7_weighted 33 = .ok (.getfield 59, 3) := by decide +kernel
theorem dX7_weighted_36 : decode cX7_weighted 36 = .ok (.iload 7, 2) := by decide +kernel
theorem dX7_weighted_38 : decode cX7_weighted 38 = .ok (.iaload, 1) := by decide +kernel
theorem dX7_weighted_39 : decode cX7_weighted 39 = .ok (.i2l, 1) := by decide +kernel
theorem dX7_weighted_40 : decode cX7_weighted 40 = .ok (.lconst 0, 1) := by decide +kernel
theorem dX7_weighted_41 : decode cX7_weighted 41 = .ok (.ldc2_w 194, 3) := by decide +kernel
theorem dX7_weighted_44 : decode cX7_weighted 44 = .ok (.invokestatic 82, 3) := by decide +kernel
theorem dX7_weighted_47 : decode cX7_weighted 47 = .ok (.ifCond .eq 7, 3) := by decide +kernel
theorem dX7_weighted_50 : decode cX7_weighted 50 = .ok (.iconst 1, 1) := by decide +kernel
theorem dX7_weighted_51 : decode cX7_weighted 51 = .ok (.goto 4, 3) := by decide +kernel
theorem dX7_weighted_54 : decode cX7_weighted 54 = .ok (.iconst 0, 1) := by decide +kernel
theorem dX7_weighted_55 : decode cX7_weighted 55 = .ok (.istore 5, 2) := by decide +kernel
theorem dX7_weighted_57 : decode cX7_weighted 57 = .ok (.iload 6, 2) := by decide +kernel
theorem dX7_weighted_59 : decode cX7_weighted 59 = .ok (.ifCond .eq 17, 3) := by decide +kernel
theorem dX7_weighted_62 : decode cX7_weighted 62 = .ok (.aload_n 0, 1) := by decide +kernel
theorem dX7_weighted_63 : decode cX7_weighted 63 = .ok (.getfield 59, 3) := by decide +kernel
theorem dX7_weighted_66 : decode cX7_weighted 66 = .ok (.iload 7, 2) := by decide +kernel
theorem dX7_weighted_68 : decode cX7_weighted 68 = .ok (.iaload, 1) := by decide +kernel
theorem dX7_weighted_69 : decode cX7_weighted 69 = .ok (.ifCond .ne 7, 3) := by decide +kernel
theorem dX7_weighted_72 : decode cX7_weighted 72 = .ok (.iconst 1, 1) := by decide +kernel
theorem dX7_weighted_73 : decode cX7_weighted 73 = .ok (.goto 4, 3) := by decide +kernel
theorem dX7_weighted_76 : decode cX7_weighted 76 = .ok (.iconst 0, 1) := by decide +kernel
theorem dX7_weighted_77 : decode cX7_weighted 77 = .ok (.istore 6, 2) := by decide +kernel
theorem dX7_weighted_79 : decode cX7_weighted 79 = .ok (.iinc 7 1, 3) := by decide +kernel
theorem dX7_weighted_82 : decode cX7_weighted 82 = .ok (.goto (-64), 3) := by decide +kernel
theorem dX7_weighted_85 : decode cX7_weighted 85 = .ok (.iload 5, 2) := by decide +kernel
theorem dX7_weighted_87 : decode cX7_weighted 87 = .ok (.ifCond .ne 6, 3) := by decide +kernel
theorem dX7_weighted_90 : decode cX7_weighted 90 = .ok (.ldc 112, 2) := by decide +kernel
theorem dX7_weighted_92 : decode cX7_weighted 92 = .ok (.ireturn, 1) := by decide +kernel
theorem dX7_weighted_93 : decode cX7_weighted 93 = .ok (.aload_n 0, 1) := by decide +kernel
theorem dX7_weighted_94 : decode cX7_weighted 94 = .ok (.getfield 98, 3) := by decide +kernel
theorem dX7_weighted_97 : decode cX7_weighted 97 = .ok (.ifCond .eq 8, 3) := by decide +kernel
theorem dX7_weighted_100 : decode cX7_weighted 100 = .ok (.iload 6, 2) := by decide +kernel
theorem dX7_weighted_102 : decode cX7_weighted 102 = .ok (.ifCond .eq 6, 3) := by decide +kernel
theorem dX7_weighted_105 : decode cX7_weighted 105 = .ok (.ldc 161, 2) := by decide +kernel
theorem dX7_weighted_107 : decode cX7_weighted 107 = .ok (.ireturn, 1) := by decide +kernel
theorem dX7_weighted_108 : decode cX7_weighted 108 = .ok (.iconst 0, 1) := by decide +kernel
theorem dX7_weighted_109 : decode cX7_weighted 109 = .ok (.istore 7, 2) := by decide +kernel
theorem dX7_weighted_111 : decode cX7_weighted 111 = .ok (.iconst 1, 1) := by decide +kernel
theorem dX7_weighted_112 : decode cX7_weighted 112 = .ok (.istore 8, 2) := by decide +kernel
theorem dX7_weighted_114 : decode cX7_weighted 114 = .ok (.iload 8, 2) := by decide +kernel
theorem dX7_weighted_116 : decode cX7_weighted 116 = .ok (.aload_n 0, 1) := by decide +kernel
theorem dX7_weighted_117 : decode cX7_weighted 117 = .ok (.getfield 98, 3) := by decide +kernel
theorem dX7_weighted_120 : decode cX7_weighted 120 = .ok (.if_icmp .ge 34, 3) := by decide +kernel
theorem dX7_weighted_123 : decode cX7_weighted 123 = .ok (.aload_n 0, 1) := by decide +kernel
theorem dX7_weighted_124 : decode cX7_weighted 124 = .ok (.iload 8, 2) := by decide +kernel
theorem dX7_weighted_126 : decode cX7_weighted 126 = .ok (.invokevirtual 196, 3) := by decide +kernel
theorem dX7_weighted_129 : decode cX7_weighted 129 = .ok (.aload_n 0, 1) := by decide +kernel
theorem dX7_weighted_130 : decode cX7_weighted 130 = .ok (.iload 7, 2) := by decide +kernel
theorem dX7_weighted_132 : decode cX7_weighted 132 = .ok (.invokevirtual 196, 3) := by decide +kernel
theorem dX7_weighted_135 : decode cX7_weighted 135 = .ok (.lcmp, 1) := by decide +kernel
theorem dX7_weighted_136 : decode cX7_weighted 136 = .ok (.ifCond .ge 8, 3) := by decide +kernel
theorem dX7_weighted_139 : decode cX7_weighted 139 = .ok (.iload 8, 2) := by decide +kernel
theorem dX7_weighted_141 : decode cX7_weighted 141 = .ok (.goto 5, 3) := by decide +kernel
theorem dX7_weighted_144 : decode cX7_weighted 144 = .ok (.iload 7, 2) := by decide +kernel
theorem dX7_weighted_146 : decode cX7_weighted 146 = .ok (.istore 7, 2) := by decide +kernel
theorem dX7_weighted_148 : decode cX7_weighted 148 = .ok (.iinc 8 1, 3) := by decide +kernel
theorem dX7_weighted_151 : decode cX7_weighted 151 = .ok (.goto (-37), 3) := by decide +kernel
theorem dX7_weighted_154 : decode cX7_weighted 154 = .ok (.iload 7, 2) := by decide +kernel
theorem dX7_weighted_156 : decode cX7_weighted 156 = .ok (.ireturn, 1) := by decide +kernel
set_option maxRecDepth 20000 in
theorem ggX7_isFirst_X7_at : GoodIn wsX7_isFirst wsX7_at := goodIn_r _ [6, 7, 8, 9, 10, 5, 11, 12, 13, 14, 15, 16, 17, 18, 19, 20, 21, 22, 23, 24, 25, 26, 27, 28, 29, 30, 31, 32, 33, 34, 35, 36, 37, 38, 39, 40, 41, 42] (by decide +kernel) (by decide +kernel)
set_option maxRecDepth 20000 in
theorem gX7_isFirst_X7_at : GoodIn wsX7_isFirst (wsV RX7 176 RX7 yX7_at wsX7_at) := goodIn_app (goodIn_of _ (by decide +kernel)) ggX7_isFirst_X7_at
theorem dX7_isFirst_0 : decode cX7_isFirst 0 = .ok (.iconst 0, 1) := by decide +kernel
theorem dX7_isFirst_1 : decode cX7_isFirst 1 = .ok (.istore 4, 2) := by decide +kernel
