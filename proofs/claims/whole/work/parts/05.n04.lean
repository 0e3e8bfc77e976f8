set_option maxRecDepth 20000 in
theorem ggX6_score_X3_number : GoodIn wsX6_score wsX3_number := goodIn_r _ [14, 15, 16, 17, 18, 19, 20, 21, 22, 23, 33, 34, 35, 36, 37, 38] (by decide +kernel) (by decide +kernel)
set_option maxRecDepth 20000 in
theorem gX6_score_X3_number : GoodIn wsX6_score (wsV RX6 127 RX3 yX3_number wsX3_number) := goodIn_app (goodIn_of _ (by decide +kernel)) ggX6_score_X3_number
theorem dX6_score_0 : decode cX6_score 0 = .ok (.iload_n 1, 1) := by decide +kernel
theorem dX6_score_1 : decode cX6_score 1 = .ok (.aload_n 0, 1) := by decide +kernel
theorem dX6_score_2 : decode cX6_score 2 = .ok (.getfield 19, 3) := by decide +kernel
theorem dX6_score_5 : decode cX6_score 5 = .ok (.getfield 121, 3) := by decide +kernel
theorem dX6_score_8 : decode cX6_score 8 = .ok (.invokestatic 78, 3) := by decide +kernel
theorem dX6_score_11 : decode cX6_score 11 = .ok (.ifCond .eq 17, 3) := by decide +kernel
theorem dX6_score_14 : decode cX6_score 14 = .ok (.iload_n 2, 1) := by decide +kernel
theorem dX6_score_15 : decode cX6_score 15 = .ok (.aload_n 0, 1) := by decide +kernel
theorem dX6_score_16 : decode cX6_score 16 = .ok (.getfield 10, 3) := by decide +kernel
theorem dX6_score_19 : decode cX6_score 19 = .ok (.getfield 85, 3) := by decide +kernel
theorem dX6_score_22 : decode cX6_score 22 = .ok (.invokestatic 78, 3) := by decide +kernel
theorem dX6_score_25 : decode cX6_score 25 = .ok (.ifCond .ne 6, 3) := by decide +kernel
theorem dX6_score_28 : decode cX6_score 28 = .ok (.ldc 55, 2) := by decide +kernel
theorem dX6_score_30 : decode cX6_score 30 = .ok (.ireturn, 1) := by decide +kernel
theorem dX6_score_31 : decode cX6_score 31 = .ok (.aload_n 0, 1) := by decide +kernel
theorem dX6_score_32 : decode cX6_score 32 = .ok (.getfield 19, 3) := by decide +kernel
theorem dX6_score_35 : decode cX6_score 35 = .ok (.iload_n 1, 1) := by decide +kernel
theorem dX6_score_36 : decode cX6_score 36 = .ok (.iload_n 2, 1) := by decide +kernel
theorem dX6_score_37 : decode cX6_score 37 = .ok (.invokevirtual 127, 3) := by decide +kernel
theorem dX6_score_40 : decode cX6_score 40 = .ok (.ireturn, 1) := by decide +kernel
set_option maxRecDepth 20000 in
theorem ggX6_plan_X6_among : GoodIn wsX6_plan wsX6_among := goodIn_r _ [11] (by decide +kernel) (by decide +kernel)
set_option maxRecDepth 20000 in
theorem gX6_plan_X6_among : GoodIn wsX6_plan (va_wsS RX6 78 yX6_among wsX6_among) := goodIn_app (goodIn_of _ (by decide +kernel)) ggX6_plan_X6_among
set_option maxRecDepth 20000 in
theorem ggX6_plan_X5_fill : GoodIn wsX6_plan wsX5_fill := goodIn_r _ [16, 17, 18, 19, 20, 21, 22, 23, 39, 40, 41, 42, 43, 44, 45, 46, 47, 48, 49] (by decide +kernel) (by decide +kernel)
set_option maxRecDepth 20000 in
theorem gX6_plan_X5_fill : GoodIn wsX6_plan (wsV RX6 132 RX5 yX5_fill wsX5_fill) := goodIn_app (goodIn_of _ (by decide +kernel)) ggX6_plan_X5_fill
theorem dX6_plan_0 : decode cX6_plan 0 = .ok (.iload_n 1, 1) := by decide +kernel
theorem dX6_plan_1 : decode cX6_plan 1 = .ok (.aload_n 0, 1) := by decide +kernel
theorem dX6_plan_2 : decode cX6_plan 2 = .ok (.getfield 19, 3) := by decide +kernel
theorem dX6_plan_5 : decode cX6_plan 5 = .ok (.getfield 121, 3) := by decide +kernel
theorem dX6_plan_8 : decode cX6_plan 8 = .ok (.invokestatic 78, 3) := by decide +kernel
theorem dX6_plan_11 : decode cX6_plan 11 = .ok (.ifCond .eq 17, 3) := by decide +kernel
theorem dX6_plan_14 : decode cX6_plan 14 = .ok (.iload_n 2, 1) := by decide +kernel
theorem dX6_plan_15 : decode cX6_plan 15 = .ok (.aload_n 0, 1) := by decide +kernel
theorem dX6_plan_16 : decode cX6_plan 16 = .ok (.getfield 10, 3) := by decide +kernel
theorem dX6_plan_19 : decode cX6_plan 19 = .ok (.getfield 56, 3) := by decide +kernel
theorem dX6_plan_22 : decode cX6_plan 22 = .ok (.invokestatic 78, 3) := by decide +kernel
theorem dX6_plan_25 : decode cX6_plan 25 = .ok (.ifCond .ne 6, 3) := by decide +kernel
theorem dX6_plan_28 : decode cX6_plan 28 = .ok (.ldc 55, 2) := by decide +kernel
theorem dX6_plan_30 : decode cX6_plan 30 = .ok (.ireturn, 1) := by decide +kernel
theorem dX6_plan_31 : decode cX6_plan 31 = .ok (.aload_n 0, 1) := by decide +kernel
theorem dX6_plan_32 : decode cX6_plan 32 = .ok (.getfield 10, 3) := by decide +kernel
theorem dX6_plan_35 : decode cX6_plan 35 = .ok (.aload_n 0, 1) := by decide +kernel
theorem dX6_plan_36 : decode cX6_plan 36 = .ok (.getfield 19, 3) := by decide +kernel
theorem dX6_plan_39 : decode cX6_plan 39 = .ok (.getfield 130, 3) := by decide +kernel
theorem dX6_plan_42 : decode cX6_plan 42 = .ok (.iload_n 1, 1) := by decide +kernel
theorem dX6_plan_43 : decode cX6_plan 43 = .ok (.iaload, 1) := by decide +kernel
theorem dX6_plan_44 : decode cX6_plan 44 = .ok (.aload_n 0, 1) := by decide +kernel
theorem dX6_plan_45 : decode cX6_plan 45 = .ok (.getfield 44, 3) := by decide +kernel
theorem dX6_plan_48 : decode cX6_plan 48 = .ok (.invokevirtual 132, 3) := by decide +kernel
theorem dX6_plan_51 : decode cX6_plan 51 = .ok (.aload_n 0, 1) := by decide +kernel
theorem dX6_plan_52 : decode cX6_plan 52 = .ok (.getfield 44, 3) := by decide +kernel
theorem dX6_plan_55 : decode cX6_plan 55 = .ok (.iload_n 2, 1) := by decide +kernel
theorem dX6_plan_56 : decode cX6_plan 56 = .ok (.iaload, 1) := by decide +kernel
theorem dX6_plan_57 : decode cX6_plan 57 = .ok (.ireturn, 1) := by decide +kernel
set_option maxRecDepth 20000 in
theorem ggX6_ties_X6_among : GoodIn wsX6_ties wsX6_among := goodIn_r _ [8] (by decide +kernel) (by decide +kernel)
set_option maxRecDepth 20000 in
theorem gX6_ties_X6_among : GoodIn wsX6_ties (va_wsS RX6 78 yX6_among wsX6_among) := goodIn_app (goodIn_of _ (by decide +kernel)) ggX6_ties_X6_among
theorem dX6_ties_0 : decode cX6_ties 0 = .ok (.iload_n 1, 1) := by decide +kernel
theorem dX6_ties_1 : decode cX6_ties 1 = .ok (.aload_n 0, 1) := by decide +kernel
theorem dX6_ties_2 : decode cX6_ties 2 = .ok (.getfield 19, 3) := by decide +kernel
theorem dX6_ties_5 : decode cX6_ties 5 = .ok (.getfield 121, 3) := by decide +kernel
theorem dX6_ties_8 : decode cX6_ties 8 = .ok (.invokestatic 78, 3) := by decide +kernel
theorem dX6_ties_11 : decode cX6_ties 11 = .ok (.ifCond .eq 15, 3) := by decide +kernel
theorem dX6_ties_14 : decode cX6_ties 14 = .ok (.aload_n 0, 1) := by decide +kernel
theorem dX6_ties_15 : decode cX6_ties 15 = .ok (.getfield 19, 3) := by decide +kernel
theorem dX6_ties_18 : decode cX6_ties 18 = .ok (.getfield 136, 3) := by decide +kernel
theorem dX6_ties_21 : decode cX6_ties 21 = .ok (.iload_n 1, 1) := by decide +kernel
theorem dX6_ties_22 : decode cX6_ties 22 = .ok (.iaload, 1) := by decide +kernel
theorem dX6_ties_23 : decode cX6_ties 23 = .ok (.goto 5, 3) := by decide +kernel
theorem dX6_ties_26 : decode cX6_ties 26 = .ok (.ldc 55, 2) := by decide +kernel
theorem dX6_ties_28 : decode cX6_ties 28 = .ok (.ireturn, 1) := by decide +kernel
set_option maxRecDepth 20000 in
theorem ggX6_ideal_X6_among : GoodIn wsX6_ideal wsX6_among := goodIn_r _ [10] (by decide +kernel) (by decide +kernel)
set_option maxRecDepth 20000 in
theorem gX6_ideal_X6_among : GoodIn wsX6_ideal (va_wsS RX6 78 yX6_among wsX6_among) := goodIn_app (goodIn_of _ (by decide +kernel)) ggX6_ideal_X6_among
set_option maxRecDepth 20000 in
theorem ggX6_ideal_X3_least : GoodIn wsX6_ideal wsX3_least := goodIn_r _ [15, 16, 17, 18, 19, 20, 21, 22, 23, 14, 24, 25, 26, 27, 28, 29, 30, 31, 32, 33, 54, 55, 56, 57, 58, 59] (by decide +kernel) (by decide +kernel)
set_option maxRecDepth 20000 in
theorem gX6_ideal_X3_least : GoodIn wsX6_ideal (wsV RX6 139 RX3 yX3_least wsX3_least) := goodIn_app (goodIn_of _ (by decide +kernel)) ggX6_ideal_X3_least
theorem dX6_ideal_0 : decode cX6_ideal 0 = .ok (.iload_n 1, 1) := by decide +kernel
theorem dX6_ideal_1 : decode cX6_ideal 1 = .ok (.aload_n 0, 1) := by decide +kernel
theorem dX6_ideal_2 : decode cX6_ideal 2 = .ok (.getfield 10, 3) := by decide +kernel
theorem dX6_ideal_5 : decode cX6_ideal 5 = .ok (.getfield 85, 3) := by decide +kernel
theorem dX6_ideal_8 : decode cX6_ideal 8 = .ok (.invokestatic 78, 3) := by decide +kernel
theorem dX6_ideal_11 : decode cX6_ideal 11 = .ok (.ifCond .ne 6, 3) := by decide +kernel
theorem dX6_ideal_14 : decode cX6_ideal 14 = .ok (.ldc 55, 2) := by decide +kernel
theorem dX6_ideal_16 : decode cX6_ideal 16 = .ok (.ireturn, 1) := by decide +kernel
theorem dX6_ideal_17 : decode cX6_ideal 17 = .ok (.aload_n 0, 1) := by decide +kernel
theorem dX6_ideal_18 : decode cX6_ideal 18 = .ok (.getfield 19, 3) := by decide +kernel
theorem dX6_ideal_21 : decode cX6_ideal 21 = .ok (.getfield 121, 3) := by decide +kernel
theorem dX6_ideal_24 : decode cX6_ideal 24 = .ok (.ifCond .ne 8, 3) := by decide +kernel
theorem dX6_ideal_27 : decode cX6_ideal 27 = .ok (.ldc 104, 2) := by decide +kernel
theorem dX6_ideal_29 : decode cX6_ideal 29 = .ok (.goto 11, 3) := by decide +kernel
theorem dX6_ideal_32 : decode cX6_ideal 32 = .ok (.aload_n 0, 1) := by decide +kernel
theorem dX6_ideal_33 : decode cX6_ideal 33 = .ok (.getfield 19, 3) := by decide +kernel
theorem dX6_ideal_36 : decode cX6_ideal 36 = .ok (.iload_n 1, 1) := by decide +kernel
theorem dX6_ideal_37 : decode cX6_ideal 37 = .ok (.invokevirtual 139, 3) := by decide +kernel
theorem dX6_ideal_40 : decode cX6_ideal 40 = .ok (.ireturn, 1) := by decide +kernel
set_option maxRecDepth 20000 in
theorem ggX6_nadir_X6_among : GoodIn wsX6_nadir wsX6_among := goodIn_r _ [10] (by decide +kernel) (by decide +kernel)
set_option maxRecDepth 20000 in
theorem gX6_nadir_X6_among : GoodIn wsX6_nadir (va_wsS RX6 78 yX6_among wsX6_among) := goodIn_app (goodIn_of _ (by decide +kernel)) ggX6_nadir_X6_among
set_option maxRecDepth 20000 in
theorem ggX6_nadir_X3_greatest : GoodIn wsX6_nadir wsX3_greatest := goodIn_r _ [15, 16, 17, 18, 19, 20, 21, 22, 23, 14, 24, 25, 26, 27, 28, 29, 30, 31, 32, 33, 54, 55, 56, 57, 58, 59] (by decide +kernel) (by decide +kernel)
set_option maxRecDepth 20000 in
theorem gX6_nadir_X3_greatest : GoodIn wsX6_nadir (wsV RX6 142 RX3 yX3_greatest wsX3_greatest) := goodIn_app (goodIn_of _ (by decide +kernel)) ggX6_nadir_X3_greatest
theorem dX6_nadir_0 : decode cX6_nadir 0 = .ok (.iload_n 1, 1) := by decide +kernel
theorem dX6_nadir_1 : decode cX6_nadir 1 = .ok (.aload_n 0, 1) := by decide +kernel
theorem dX6_nadir_2 : decode cX6_nadir 2 = .ok (.getfield 10, 3) := by decide +kernel
theorem dX6_nadir_5 : decode cX6_nadir 5 = .ok (.getfield 85, 3) := by decide +kernel
theorem dX6_nadir_8 : decode cX6_nadir 8 = .ok (.invokestatic 78, 3) := by decide +kernel
theorem dX6_nadir_11 : decode cX6_nadir 11 = .ok (.ifCond .ne 6, 3) := by decide +kernel
theorem dX6_nadir_14 : decode cX6_nadir 14 = .ok (.ldc 55, 2) := by decide +kernel
theorem dX6_nadir_16 : decode cX6_nadir 16 = .ok (.ireturn, 1) := by decide +kernel
theorem dX6_nadir_17 : decode cX6_nadir 17 = .ok (.aload_n 0, 1) := by decide +kernel
theorem dX6_nadir_18 : decode cX6_nadir 18 = .ok (.getfield 19, 3) := by decide +kernel
theorem dX6_nadir_21 : decode cX6_nadir 21 = .ok (.getfield 121, 3) := by decide +kernel
theorem dX6_nadir_24 : decode cX6_nadir 24 = .ok (.ifCond .ne 8, 3) := by decide +kernel
theorem dX6_nadir_27 : decode cX6_nadir 27 = .ok (.ldc 104, 2) := by decide +kernel
theorem dX6_nadir_29 : decode cX6_nadir 29 = .ok (.goto 11, 3) := by decide +kernel
theorem dX6_nadir_32 : decode cX6_nadir 32 = .ok (.aload_n 0, 1) := by decide +kernel
theorem dX6_nadir_33 : decode cX6_nadir 33 = .ok (.getfield 19, 3) := by decide +kernel
theorem dX6_nadir_36 : decode cX6_nadir 36 = .ok (.iload_n 1, 1) := by decide +kernel
theorem dX6_nadir_37 : decode cX6_nadir 37 = .ok (.invokevirtual 142, 3) := by decide +kernel
theorem dX6_nadir_40 : decode cX6_nadir 40 = .ok (.ireturn, 1) := by decide +kernel
set_option maxRecDepth 20000 in
theorem ggX6_knee_X6_among : GoodIn wsX6_knee wsX6_among := goodIn_r _ [10] (by decide +kernel) (by decide +kernel)
set_option maxRecDepth 20000 in
theorem gX6_knee_X6_among : GoodIn wsX6_knee (va_wsS RX6 78 yX6_among wsX6_among) := goodIn_app (goodIn_of _ (by decide +kernel)) ggX6_knee_X6_among
set_option maxRecDepth 20000 in
theorem ggX6_knee_X3_kneeBy : GoodIn wsX6_knee wsX3_kneeBy := goodIn_r _ [15, 16, 17, 18, 19, 20, 21, 22, 23, 24, 25, 26, 14, 27, 28, 29, 30, 31, 32, 33, 34, 35, 36, 37, 38, 39, 40, 41, 42, 43, 44, 45, 46, 47, 48, 49, 50, 51, 52, 53, 54, 64, 65, 66, 67, 68, 69] (by decide +kernel) (by decide +kernel)
set_option maxRecDepth 20000 in
theorem gX6_knee_X3_kneeBy : GoodIn wsX6_knee (wsV RX6 145 RX3 yX3_kneeBy wsX3_kneeBy) := goodIn_app (goodIn_of _ (by decide +kernel)) ggX6_knee_X3_kneeBy
theorem dX6_knee_0 : decode cX6_knee 0 = .ok (.iload_n 1, 1) := by decide +kernel
theorem dX6_knee_1 : decode cX6_knee 1 = .ok (.iconst 2, 1) := by decide +kernel
theorem dX6_knee_2 : decode cX6_knee 2 = .ok (.invokestatic 78, 3) := by decide +kernel
theorem dX6_knee_5 : decode cX6_knee 5 = .ok (.ifCond .ne 6, 3) := by decide +kernel
theorem dX6_knee_8 : decode cX6_knee 8 = .ok (.ldc 55, 2) := by decide +kernel
theorem dX6_knee_10 : decode cX6_knee 10 = .ok (.ireturn, 1) := by decide +kernel
theorem dX6_knee_11 : decode cX6_knee 11 = .ok (.aload_n 0, 1) := by decide +kernel
theorem dX6_knee_12 : decode cX6_knee 12 = .ok (.getfield 19, 3) := by decide +kernel
theorem dX6_knee_15 : decode cX6_knee 15 = .ok (.getfield 121, 3) := by decide +kernel
theorem dX6_knee_18 : decode cX6_knee 18 = .ok (.ifCond .ne 8, 3) := by decide +kernel
theorem dX6_knee_21 : decode cX6_knee 21 = .ok (.ldc 104, 2) := by decide +kernel
theorem dX6_knee_23 : decode cX6_knee 23 = .ok (.goto 18, 3) := by decide +kernel
theorem dX6_knee_26 : decode cX6_knee 26 = .ok (.aload_n 0, 1) := by decide +kernel
theorem dX6_knee_27 : decode cX6_knee 27 = .ok (.getfield 19, 3) := by decide +kernel
theorem dX6_knee_30 : decode cX6_knee 30 = .ok (.iload_n 1, 1) := by decide +kernel
theorem dX6_knee_31 : decode cX6_knee 31 = .ok (.aload_n 0, 1) := by decide +kernel
theorem dX6_knee_32 : decode cX6_knee 32 = .ok (.getfield 10, 3) := by decide +kernel
theorem dX6_knee_35 : decode cX6_knee 35 = .ok (.getfield 85, 3) := by decide +kernel
theorem dX6_knee_38 : decode cX6_knee 38 = .ok (.invokevirtual 145, 3) := by decide +kernel
theorem dX6_knee_41 : decode cX6_knee 41 = .ok (.ireturn, 1) := by decide +kernel
set_option maxRecDepth 20000 in
theorem ggX6_weighted_X6_ask : GoodIn wsX6_weighted wsX6_ask := goodIn_r _ [12, 3, 33, 34, 35, 36, 37, 38, 39, 40, 41] (by decide +kernel) (by decide +kernel)
set_option maxRecDepth 20000 in
theorem gX6_weighted_X6_ask : GoodIn wsX6_weighted (wsV RX6 148 RX6 yX6_ask wsX6_ask) := goodIn_app (goodIn_of _ (by decide +kernel)) ggX6_weighted_X6_ask
set_option maxRecDepth 20000 in
theorem ggX6_weighted_X3_lightest : GoodIn wsX6_weighted wsX3_lightest := goodIn_r _ [17, 18, 19, 20, 21, 22, 16, 23, 24, 25, 26, 27, 28, 29, 30, 31, 32, 53, 54, 55, 56, 57, 58] (by decide +kernel) (by decide +kernel)
set_option maxRecDepth 20000 in
theorem gX6_weighted_X3_lightest : GoodIn wsX6_weighted (wsV RX6 152 RX3 yX3_lightest wsX3_lightest) := goodIn_app (goodIn_of _ (by decide +kernel)) ggX6_weighted_X3_lightest
theorem dX6_weighted_0 : decode cX6_weighted 0 = .ok (.aload_n 0, 1) := by decide +kernel
theorem dX6_weighted_1 : decode cX6_weighted 1 = .ok (.iload_n 1, 1) := by decide +kernel
theorem dX6_weighted_2 : decode cX6_weighted 2 = .ok (.iload_n 2, 1) := by decide +kernel
theorem dX6_weighted_3 : decode cX6_weighted 3 = .ok (.iload_n 3, 1) := by decide +kernel
theorem dX6_weighted_4 : decode cX6_weighted 4 = .ok (.iload 4, 2) := by decide +kernel
theorem dX6_weighted_6 : decode cX6_weighted 6 = .ok (.invokevirtual 148, 3) := by decide +kernel
theorem dX6_weighted_9 : decode cX6_weighted 9 = .ok (.iconst 1, 1) := by decide +kernel
theorem dX6_weighted_10 : decode cX6_weighted 10 = .ok (.istore 5, 2) := by decide +kernel
theorem dX6_weighted_12 : decode cX6_weighted 12 = .ok (.iconst 0, 1) := by decide +kernel
theorem dX6_weighted_13 : decode cX6_weighted 13 = .ok (.istore 6, 2) := by decide +kernel
theorem dX6_weighted_15 : decode cX6_weighted 15 = .ok (.iload 6, 2) := by decide +kernel
theorem dX6_weighted_17 : decode cX6_weighted 17 = .ok (.aload_n 0, 1) := by decide +kernel
theorem dX6_weighted_18 : decode cX6_weighted 18 = .ok (.getfield 10, 3) := by decide +kernel
theorem dX6_weighted_21 : decode cX6_weighted 21 = .ok (.getfield 85, 3) := by decide +kernel
theorem dX6_weighted_24 : decode cX6_weighted 24 = .ok (.if_icmp .ge 56, 3) := by decide +kernel
theorem dX6_weighted_27 : decode cX6_weighted 27 = .ok (.aload_n 0, 1) := by decide +kernel
theorem dX6_weighted_28 : decode cX6_weighted 28 = .ok (.getfield 48, 3) := by decide +kernel
theorem dX6_weighted_31 : decode cX6_weighted 31 = .ok (.iload 6, 2) := by decide +kernel
theorem dX6_weighted_33 : decode cX6_weighted 33 = .ok (.iaload, 1) := by decide +kernel
theorem dX6_weighted_34 : decode cX6_weighted 34 = .ok (.ifCond .lt 15, 3) := by decide +kernel
theorem dX6_weighted_37 : decode cX6_weighted 37 = .ok (.aload_n 0, 1) := by decide +kernel
theorem dX6_weighted_38 : decode cX6_weighted 38 = .ok (.getfield 48, 3) := by decide +kernel
theorem dX6_weighted_41 : decode cX6_weighted 41 = .ok (.iload 6, 2) := by decide +kernel
theorem dX6_weighted_43 : decode cX6_weighted 43 = .ok (.iaload, 1) := by decide +kernel
theorem dX6_weighted_44 : decode cX6_weighted 44 = .ok (.bipush 100, 2) := by decide +kernel
theorem dX6_weighted_46 : decode cX6_weighted 46 = .ok (.if_icmp .le 6, 3) := by decide +kernel
theorem dX6_weighted_49 : decode cX6_weighted 49 = .ok (.ldc 55, 2) := by decide +kernel
theorem dX6_weighted_51 : decode cX6_weighted 51 = .ok (.ireturn, 1) := by decide +kernel
theorem dX6_weighted_52 : decode cX6_weighted 52 = .ok (.iload 5, 2) := by decide +kernel
theorem dX6_weighted_54 : decode cX6_weighted 54 = .ok (.ifCond .eq 17, 3) := by decide +kernel
theorem dX6_weighted_57 : decode cX6_weighted 57 = .ok (.aload_n 0, 1) := by decide +kernel
theorem dX6_weighted_58 : decode cX6_weighted 58 = .ok (.getfield 48, 3) := by decide +kernel
theorem dX6_weighted_61 : decode cX6_weighted 61 = .ok (.iload 6, 2) := by decide +kernel
theorem dX6_weighted_63 : decode cX6_weighted 63 = .ok (.iaload, 1) := by decide +kernel
theorem dX6_weighted_64 : decode cX6_weighted 64 = .ok (.ifCond .ne 7, 3) := by decide +kernel
theorem dX6_weighted_67 : decode cX6_weighted 67 = .ok (.iconst 1, 1) := by decide +kernel
theorem dX6_weighted_68 : decode cX6_weighted 68 = .ok (.goto 4, 3) := by decide +kernel
theorem dX6_weighted_71 : decode cX6_weighted 71 = .ok (.iconst 0, 1) := by decide +kernel
theorem dX6_weighted_72 : decode cX6_weighted 72 = .ok (.istore 5, 2) := by decide +kernel
theorem dX6_weighted_74 : decode cX6_weighted 74 = .ok (.iinc 6 1, 3) := by decide +kernel
theorem dX6_weighted_77 : decode cX6_weighted 77 = .ok (.goto (-62), 3) := by decide +kernel
theorem dX6_weighted_80 : decode cX6_weighted 80 = .ok (.aload_n 0, 1) := by decide +kernel
theorem dX6_weighted_81 : decode cX6_weighted 81 = .ok (.getfield 19, 3) := by decide +kernel
theorem dX6_weighted_84 : decode cX6_weighted 84 = .ok (.getfield 121, 3) := by decide +kernel
theorem dX6_weighted_87 : decode cX6_weighted 87 = .ok (.ifCond .eq 8, 3) := by decide +kernel
theorem dX6_weighted_90 : decode cX6_weighted 90 = .ok (.iload 5, 2) := by decide +kernel
theorem dX6_weighted_92 : decode cX6_weighted 92 = .ok (.ifCond .eq 8, 3) := by decide +kernel
theorem dX6_weighted_95 : decode cX6_weighted 95 = .ok (.ldc 104, 2) := by decide +kernel
theorem dX6_weighted_97 : decode cX6_weighted 97 = .ok (.goto 21, 3) := by decide +kernel
theorem dX6_weighted_100 : decode cX6_weighted 100 = .ok (.aload_n 0, 1) := by decide +kernel
theorem dX6_weighted_101 : decode cX6_weighted 101 = .ok (.getfield 19, 3) := by decide +kernel
theorem dX6_weighted_104 : decode cX6_weighted 104 = .ok (.aload_n 0, 1) := by decide +kernel
theorem dX6_weighted_105 : decode cX6_weighted 105 = .ok (.getfield 48, 3) := by decide +kernel
theorem dX6_weighted_108 : decode cX6_weighted 108 = .ok (.aload_n 0, 1) := by decide +kernel
theorem dX6_weighted_109 : decode cX6_weighted 109 = .ok (.getfield 10, 3) := by decide +kernel
theorem dX6_weighted_112 : decode cX6_weighted 112 = .ok (.getfield 85, 3) := by decide +kernel
theorem dX6_weighted_115 : decode cX6_weighted 115 = .ok (.invokevirtual 152, 3) := by decide +kernel
theorem dX6_weighted_118 : decode cX6_weighted 118 = .ok (.ireturn, 1) := by decide +kernel
set_option maxRecDepth 20000 in
theorem ggX6_first_X6_ask : GoodIn wsX6_first wsX6_ask := goodIn_r _ [13, 1, 40, 41, 42, 43, 44, 45, 46, 47, 48] (by decide +kernel) (by decide +kernel)
set_option maxRecDepth 20000 in
theorem gX6_first_X6_ask : GoodIn wsX6_first (wsV RX6 148 RX6 yX6_ask wsX6_ask) := goodIn_app (goodIn_of _ (by decide +kernel)) ggX6_first_X6_ask
set_option maxRecDepth 20000 in
theorem ggX6_first_X6_among : GoodIn wsX6_first wsX6_among := goodIn_r _ [16] (by decide +kernel) (by decide +kernel)
set_option maxRecDepth 20000 in
theorem gX6_first_X6_among : GoodIn wsX6_first (va_wsS RX6 78 yX6_among wsX6_among) := goodIn_app (goodIn_of _ (by decide +kernel)) ggX6_first_X6_among
set_option maxRecDepth 20000 in
theorem ggX6_first_X3_leastInTurn : GoodIn wsX6_first wsX3_leastInTurn := goodIn_r _ [21, 22, 23, 24, 25, 20, 26, 27, 28, 29, 30, 31, 32, 33, 34, 35, 36, 37, 38, 39, 60, 61, 62, 63, 64, 65] (by decide +kernel) (by decide +kernel)
set_option maxRecDepth 20000 in
theorem gX6_first_X3_leastInTurn : GoodIn wsX6_first (wsV RX6 157 RX3 yX3_leastInTurn wsX3_leastInTurn) := goodIn_app (goodIn_of _ (by decide +kernel)) ggX6_first_X3_leastInTurn
theorem dX6_first_0 : decode cX6_first 0 = .ok (.aload_n 0, 1) := by decide +kernel
theorem dX6_first_1 : decode cX6_first 1 = .ok (.iload_n 1, 1) := by decide +kernel
theorem dX6_first_2 : decode cX6_first 2 = .ok (.iload_n 2, 1) := by decide +kernel
theorem dX6_first_3 : decode cX6_first 3 = .ok (.iload_n 3, 1) := by decide +kernel
theorem dX6_first_4 : decode cX6_first 4 = .ok (.iload 4, 2) := by decide +kernel
theorem dX6_first_6 : decode cX6_first 6 = .ok (.invokevirtual 148, 3) := by decide +kernel
theorem dX6_first_9 : decode cX6_first 9 = .ok (.iconst 0, 1) := by decide +kernel
theorem dX6_first_10 : decode cX6_first 10 = .ok (.istore 5, 2) := by decide +kernel
theorem dX6_first_12 : decode cX6_first 12 = .ok (.iload 5, 2) := by decide +kernel
theorem dX6_first_14 : decode cX6_first 14 = .ok (.iconst 4, 1) := by decide +kernel
theorem dX6_first_15 : decode cX6_first 15 = .ok (.if_icmp .ge 44, 3) := by decide +kernel
theorem dX6_first_18 : decode cX6_first 18 = .ok (.aload_n 0, 1) := by decide +kernel
theorem dX6_first_19 : decode cX6_first 19 = .ok (.getfield 48, 3) := by decide +kernel
theorem dX6_first_22 : decode cX6_first 22 = .ok (.iload 5, 2) := by decide +kernel
theorem dX6_first_24 : decode cX6_first 24 = .ok (.iaload, 1) := by decide +kernel
theorem dX6_first_25 : decode cX6_first 25 = .ok (.ldc 156, 2) := by decide +kernel
theorem dX6_first_27 : decode cX6_first 27 = .ok (.if_icmp .eq 32, 3) := by decide +kernel
theorem dX6_first_30 : decode cX6_first 30 = .ok (.aload_n 0, 1) := by decide +kernel
theorem dX6_first_31 : decode cX6_first 31 = .ok (.getfield 48, 3) := by decide +kernel
theorem dX6_first_34 : decode cX6_first 34 = .ok (.iload 5, 2) := by decide +kernel
theorem dX6_first_36 : decode cX6_first 36 = .ok (.iaload, 1) := by decide +kernel
theorem dX6_first_37 : decode cX6_first 37 = .ok (.aload_n 0, 1) := by decide +kernel
theorem dX6_first_38 : decode cX6_first 38 = .ok (.getfield 10, 3) := by decide +kernel
theorem dX6_first_41 : decode cX6_first 41 = .ok (.getfield 85, 3) := by decide +kernel
theorem dX6_first_44 : decode cX6_first 44 = .ok (.invokestatic 78, 3) := by decide +kernel
theorem dX6_first_47 : decode cX6_first 47 = .ok (.ifCond .ne 6, 3) := by decide +kernel
theorem dX6_first_50 : decode cX6_first 50 = .ok (.ldc 55, 2) := by decide +kernel
theorem dX6_first_52 : decode cX6_first 52 = .ok (.ireturn, 1) := by decide +kernel
theorem dX6_first_53 : decode cX6_first 53 = .ok (.iinc 5 1, 3) := by decide +kernel
theorem dX6_first_56 : decode cX6_first 56 = .ok (.goto (-44), 3) := by decide +kernel
theorem dX6_first_59 : decode cX6_first 59 = .ok (.aload_n 0, 1) := by decide +kernel
theorem dX6_first_60 : decode cX6_first 60 = .ok (.getfield 19, 3) := by decide +kernel
theorem dX6_first_63 : decode cX6_first 63 = .ok (.getfield 121, 3) := by decide +kernel
theorem dX6_first_66 : decode cX6_first 66 = .ok (.ifCond .ne 8, 3) := by decide +kernel
theorem dX6_first_69 : decode cX6_first 69 = .ok (.ldc 104, 2) := by decide +kernel
theorem dX6_first_71 : decode cX6_first 71 = .ok (.goto 16, 3) := by decide +kernel
theorem dX6_first_74 : decode cX6_first 74 = .ok (.aload_n 0, 1) := by decide +kernel
theorem dX6_first_75 : decode cX6_first 75 = .ok (.getfield 19, 3) := by decide +kernel
theorem dX6_first_78 : decode cX6_first 78 = .ok (.aload_n 0, 1) := by decide +kernel
theorem dX6_first_79 : decode cX6_first 79 = .ok (.getfield 48, 3) := by decide +kernel
theorem dX6_first_82 : decode cX6_first 82 = .ok (.iload 5, 2) := by decide +kernel
theorem dX6_first_84 : decode cX6_first 84 = .ok (.invokevirtual 157, 3) := by decide +kernel
theorem dX6_first_87 : decode cX6_first 87 = .ok (.ireturn, 1) := by decide +kernel
set_option maxRecDepth 20000 in
theorem ggX6_under_X6_ask : GoodIn wsX6_under wsX6_ask := goodIn_r _ [9, 2, 36, 37, 38, 39, 40, 41, 42, 43, 44] (by decide +kernel) (by decide +kernel)
set_option maxRecDepth 20000 in
theorem gX6_under_X6_ask : GoodIn wsX6_under (wsV RX6 148 RX6 yX6_ask wsX6_ask) := goodIn_app (goodIn_of _ (by decide +kernel)) ggX6_under_X6_ask
set_option maxRecDepth 20000 in
theorem ggX6_under_X3_firstUnder : GoodIn wsX6_under wsX3_firstUnder := goodIn_r _ [14, 15, 16, 17, 18, 19, 20, 21, 22, 23, 24, 25, 26, 27, 28, 29, 30, 31, 32, 33, 34, 35, 56, 57, 58, 59, 60, 61] (by decide +kernel) (by decide +kernel)
set_option maxRecDepth 20000 in
theorem gX6_under_X3_firstUnder : GoodIn wsX6_under (wsV RX6 160 RX3 yX3_firstUnder wsX3_firstUnder) := goodIn_app (goodIn_of _ (by decide +kernel)) ggX6_under_X3_firstUnder
theorem dX6_under_0 : decode cX6_under 0 = .ok (.aload_n 0, 1) := by decide +kernel
theorem dX6_under_1 : decode cX6_under 1 = .ok (.iload_n 1, 1) := by decide +kernel
theorem dX6_under_2 : decode cX6_under 2 = .ok (.iload_n 2, 1) := by decide +kernel
theorem dX6_under_3 : decode cX6_under 3 = .ok (.iload_n 3, 1) := by decide +kernel
theorem dX6_under_4 : decode cX6_under 4 = .ok (.iload 4, 2) := by decide +kernel
theorem dX6_under_6 : decode cX6_under 6 = .ok (.invokevirtual 148, 3) := by decide +kernel
theorem dX6_under_9 : decode cX6_under 9 = .ok (.aload_n 0, 1) := by decide +kernel
theorem dX6_under_10 : decode cX6_under 10 = .ok (.getfield 19, 3) := by decide +kernel
theorem dX6_under_13 : decode cX6_under 13 = .ok (.aload_n 0, 1) := by decide +kernel
theorem dX6_under_14 : decode cX6_under 14 = .ok (.getfield 48, 3) := by decide +kernel
theorem dX6_under_17 : decode cX6_under 17 = .ok (.aload_n 0, 1) := by decide +kernel
theorem dX6_under_18 : decode cX6_under 18 = .ok (.getfield 10, 3) := by decide +kernel
theorem dX6_under_21 : decode cX6_under 21 = .ok (.getfield 85, 3) := by decide +kernel
theorem dX6_under_24 : decode cX6_under 24 = .ok (.invokevirtual 160, 3) := by decide +kernel
theorem dX6_under_27 : decode cX6_under 27 = .ok (.ireturn, 1) := by decide +kernel
set_option maxRecDepth 20000 in
theorem ggX6_cover_X2_pick : GoodIn wsX6_cover wsX2_pick := goodIn_r _ [10, 11, 12, 13, 14, 15, 16, 17, 18, 19, 20, 21, 22, 23, 24, 9, 25, 26, 27, 28, 29, 30, 31, 32, 33, 34, 35, 36, 37, 38, 39, 40, 41, 42, 43, 53, 54, 55, 56, 57, 58, 59, 60, 61, 62, 63] (by decide +kernel) (by decide +kernel)
set_option maxRecDepth 20000 in
theorem gX6_cover_X2_pick : GoodIn wsX6_cover (wsV RX6 163 RX2 yX2_pick wsX2_pick) := goodIn_app (goodIn_of _ (by decide +kernel)) ggX6_cover_X2_pick
theorem dX6_cover_0 : decode cX6_cover 0 = .ok (.iload_n 1, 1) := by decide +kernel
theorem dX6_cover_1 : decode cX6_cover 1 = .ok (.ifCond .lt 10, 3) := by decide +kernel
theorem dX6_cover_4 : decode cX6_cover 4 = .ok (.iload_n 1, 1) := by decide +kernel
theorem dX6_cover_5 : decode cX6_cover 5 = .ok (.sipush 4000, 3) := by decide +kernel
theorem dX6_cover_8 : decode cX6_cover 8 = .ok (.if_icmp .le 6, 3) := by decide +kernel
theorem dX6_cover_11 : decode cX6_cover 11 = .ok (.ldc 55, 2) := by decide +kernel
theorem dX6_cover_13 : decode cX6_cover 13 = .ok (.ireturn, 1) := by decide +kernel
theorem dX6_cover_14 : decode cX6_cover 14 = .ok (.aload_n 0, 1) := by decide +kernel
theorem dX6_cover_15 : decode cX6_cover 15 = .ok (.getfield 19, 3) := by decide +kernel
theorem dX6_cover_18 : decode cX6_cover 18 = .ok (.getfield 121, 3) := by decide +kernel
theorem dX6_cover_21 : decode cX6_cover 21 = .ok (.bipush 100, 2) := by decide +kernel
theorem dX6_cover_23 : decode cX6_cover 23 = .ok (.if_icmp .le 8, 3) := by decide +kernel
theorem dX6_cover_26 : decode cX6_cover 26 = .ok (.ldc 104, 2) := by decide +kernel
theorem dX6_cover_28 : decode cX6_cover 28 = .ok (.goto 15, 3) := by decide +kernel
theorem dX6_cover_31 : decode cX6_cover 31 = .ok (.aload_n 0, 1) := by decide +kernel
theorem dX6_cover_32 : decode cX6_cover 32 = .ok (.getfield 26, 3) := by decide +kernel
theorem dX6_cover_35 : decode cX6_cover 35 = .ok (.aload_n 0, 1) := by decide +kernel
theorem dX6_cover_36 : decode cX6_cover 36 = .ok (.getfield 19, 3) := by decide +kernel
theorem dX6_cover_39 : decode cX6_cover 39 = .ok (.iload_n 1, 1) := by decide +kernel
theorem dX6_cover_40 : decode cX6_cover 40 = .ok (.invokevirtual 163, 3) := by decide +kernel
theorem dX6_cover_43 : decode cX6_cover 43 = .ok (.ireturn, 1) := by decide +kernel
set_option maxRecDepth 20000 in
theorem ggX6_picked_X6_among : GoodIn wsX6_picked wsX6_among := goodIn_r _ [8] (by decide +kernel) (by decide +kernel)
set_option maxRecDepth 20000 in
theorem gX6_picked_X6_among : GoodIn wsX6_picked (va_wsS RX6 78 yX6_among wsX6_among) := goodIn_app (goodIn_of _ (by decide +kernel)) ggX6_picked_X6_among
theorem dX6_picked_0 : decode cX6_picked 0 = .ok (.iload_n 1, 1) := by decide +kernel
theorem dX6_picked_1 : decode cX6_picked 1 = .ok (.aload_n 0, 1) := by decide +kernel
theorem dX6_picked_2 : decode cX6_picked 2 = .ok (.getfield 26, 3) := by decide +kernel
theorem dX6_picked_5 : decode cX6_picked 5 = .ok (.getfield 167, 3) := by decide +kernel
theorem dX6_picked_8 : decode cX6_picked 8 = .ok (.invokestatic 78, 3) := by decide +kernel
theorem dX6_picked_11 : decode cX6_picked 11 = .ok (.ifCond .eq 15, 3) := by decide +kernel
theorem dX6_picked_14 : decode cX6_picked 14 = .ok (.aload_n 0, 1) := by decide +kernel
theorem dX6_picked_15 : decode cX6_picked 15 = .ok (.getfield 26, 3) := by decide +kernel
theorem dX6_picked_18 : decode cX6_picked 18 = .ok (.getfield 168, 3) := by decide +kernel
theorem dX6_picked_21 : decode cX6_picked 21 = .ok (.iload_n 1, 1) := by decide +kernel
theorem dX6_picked_22 : decode cX6_picked 22 = .ok (.iaload, 1) := by decide +kernel
theorem dX6_picked_23 : decode cX6_picked 23 = .ok (.goto 5, 3) := by decide +kernel
theorem dX6_picked_26 : decode cX6_picked 26 = .ok (.ldc 55, 2) := by decide +kernel
theorem dX6_picked_28 : decode cX6_picked 28 = .ok (.ireturn, 1) := by decide +kernel
set_option maxRecDepth 20000 in
theorem ggX6_boxes_X0_fits : GoodIn wsX6_boxes wsX0_fits := goodIn_r _ [11, 12, 119, 120, 121, 122, 123, 124] (by decide +kernel) (by decide +kernel)
set_option maxRecDepth 20000 in
theorem gX6_boxes_X0_fits : GoodIn wsX6_boxes (wsV RX6 171 RX0 yX0_fits wsX0_fits) := goodIn_app (goodIn_of _ (by decide +kernel)) ggX6_boxes_X0_fits
set_option maxRecDepth 20000 in
theorem ggX6_boxes_X0_work : GoodIn wsX6_boxes wsX0_work := goodIn_r _ [16, 17, 18, 19, 20, 21, 22, 23, 8, 9, 10, 11, 12, 24, 25, 26, 27, 28, 29, 30, 31, 32, 33, 34, 35, 36, 37, 38, 39, 40, 41, 42, 43, 44, 45, 46, 47, 48, 49, 50, 51, 52, 53, 54, 55, 56, 57, 58, 59, 60, 61, 62, 63, 64, 65, 66, 67, 68, 69, 70, 71, 72, 73, 74, 75, 76, 77, 78, 79, 80, 81, 82, 83, 84, 85, 86, 87, 88, 89, 110, 111, 112, 113, 114, 115, 116, 117, 118, 119, 120, 121, 122, 123, 124] (by decide +kernel) (by decide +kernel)
set_option maxRecDepth 20000 in
theorem gX6_boxes_X0_work : GoodIn wsX6_boxes (wsV RX6 175 RX0 yX0_work wsX0_work) := goodIn_app (goodIn_of _ (by decide +kernel)) ggX6_boxes_X0_work
theorem dX6_boxes_0 : decode cX6_boxes 0 = .ok (.aload_n 0, 1) := by decide +kernel
theorem dX6_boxes_1 : decode cX6_boxes 1 = .ok (.getfield 33, 3) := by decide +kernel
theorem dX6_boxes_4 : decode cX6_boxes 4 = .ok (.aload_n 0, 1) := by decide +kernel
theorem dX6_boxes_5 : decode cX6_boxes 5 = .ok (.getfield 19, 3) := by decide +kernel
theorem dX6_boxes_8 : decode cX6_boxes 8 = .ok (.invokevirtual 171, 3) := by decide +kernel
theorem dX6_boxes_11 : decode cX6_boxes 11 = .ok (.ifCond .ne 6, 3) := by decide +kernel
theorem dX6_boxes_14 : decode cX6_boxes 14 = .ok (.ldc 104, 2) := by decide +kernel
theorem dX6_boxes_16 : decode cX6_boxes 16 = .ok (.ireturn, 1) := by decide +kernel
theorem dX6_boxes_17 : decode cX6_boxes 17 = .ok (.aload_n 0, 1) := by decide +kernel
theorem dX6_boxes_18 : decode cX6_boxes 18 = .ok (.getfield 33, 3) := by decide +kernel
theorem dX6_boxes_21 : decode cX6_boxes 21 = .ok (.aload_n 0, 1) := by decide +kernel
theorem dX6_boxes_22 : decode cX6_boxes 22 = .ok (.getfield 19, 3) := by decide +kernel
theorem dX6_boxes_25 : decode cX6_boxes 25 = .ok (.aload_n 0, 1) := by decide +kernel
theorem dX6_boxes_26 : decode cX6_boxes 26 = .ok (.getfield 10, 3) := by decide +kernel
theorem dX6_boxes_29 : decode cX6_boxes 29 = .ok (.getfield 85, 3) := by decide +kernel
theorem dX6_boxes_32 : decode cX6_boxes 32 = .ok (.invokevirtual 175, 3) := by decide +kernel
theorem dX6_boxes_35 : decode cX6_boxes 35 = .ok (.aload_n 0, 1) := by decide +kernel
theorem dX6_boxes_36 : decode cX6_boxes 36 = .ok (.getfield 33, 3) := by decide +kernel
theorem dX6_boxes_39 : decode cX6_boxes 39 = .ok (.getfield 179, 3) := by decide +kernel
theorem dX6_boxes_42 : decode cX6_boxes 42 = .ok (.ireturn, 1) := by decide +kernel
set_option maxRecDepth 20000 in
theorem ggX6_box_X6_among : GoodIn wsX6_box wsX6_among := goodIn_r _ [12] (by decide +kernel) (by decide +kernel)
set_option maxRecDepth 20000 in
theorem gX6_box_X6_among : GoodIn wsX6_box (va_wsS RX6 78 yX6_among wsX6_among) := goodIn_app (goodIn_of _ (by decide +kernel)) ggX6_box_X6_among
set_option maxRecDepth 20000 in
theorem ggX6_box_X0_fits : GoodIn wsX6_box wsX0_fits := goodIn_r _ [17, 18, 126, 127, 128, 129, 130, 131] (by decide +kernel) (by decide +kernel)
set_option maxRecDepth 20000 in
theorem gX6_box_X0_fits : GoodIn wsX6_box (wsV RX6 171 RX0 yX0_fits wsX0_fits) := goodIn_app (goodIn_of _ (by decide +kernel)) ggX6_box_X0_fits
set_option maxRecDepth 20000 in
theorem ggX6_box_X0_work : GoodIn wsX6_box wsX0_work := goodIn_r _ [22, 23, 24, 25, 26, 27, 28, 29, 14, 15, 16, 17, 18, 30, 31, 32, 33, 34, 35, 36, 37, 38, 39, 40, 41, 42, 43, 44, 45, 46, 47, 48, 49, 50, 51, 52, 53, 54, 55, 56, 57, 58, 59, 60, 61, 62, 63, 64, 65, 66, 67, 68, 69, 70, 71, 72, 73, 74, 75, 76, 77, 78, 79, 80, 81, 82, 83, 84, 85, 86, 87, 88, 89, 90, 91, 92, 93, 94, 95, 117, 118, 119, 120, 121, 122, 123, 124, 125, 126, 127, 128, 129, 130, 131] (by decide +kernel) (by decide +kernel)
set_option maxRecDepth 20000 in
theorem gX6_box_X0_work : GoodIn wsX6_box (wsV RX6 175 RX0 yX0_work wsX0_work) := goodIn_app (goodIn_of _ (by decide +kernel)) ggX6_box_X0_work
set_option maxRecDepth 20000 in
theorem ggX6_box_X4_number : GoodIn wsX6_box wsX4_number := goodIn_r _ [48, 49, 50, 31, 32, 33] (by decide +kernel) (by decide +kernel)
set_option maxRecDepth 20000 in
theorem gX6_box_X4_number : GoodIn wsX6_box (va_wsS RX6 184 yX4_number wsX4_number) := goodIn_app (goodIn_of _ (by decide +kernel)) ggX6_box_X4_number
theorem dX6_box_0 : decode cX6_box 0 = .ok (.iload_n 2, 1) := by decide +kernel
theorem dX6_box_1 : decode cX6_box 1 = .ok (.aload_n 0, 1) := by decide +kernel
theorem dX6_box_2 : decode cX6_box 2 = .ok (.getfield 10, 3) := by decide +kernel
theorem dX6_box_5 : decode cX6_box 5 = .ok (.getfield 85, 3) := by decide +kernel
theorem dX6_box_8 : decode cX6_box 8 = .ok (.invokestatic 78, 3) := by decide +kernel
theorem dX6_box_11 : decode cX6_box 11 = .ok (.ifCond .ne 6, 3) := by decide +kernel
theorem dX6_box_14 : decode cX6_box 14 = .ok (.ldc 55, 2) := by decide +kernel
theorem dX6_box_16 : decode cX6_box 16 = .ok (.ireturn, 1) := by decide +kernel
theorem dX6_box_17 : decode cX6_box 17 = .ok (.aload_n 0, 1) := by decide +kernel
theorem dX6_box_18 : decode cX6_box 18 = .ok (.getfield 33, 3) := by decide +kernel
theorem dX6_box_21 : decode cX6_box 21 = .ok (.aload_n 0, 1) := by decide +kernel
theorem dX6_box_22 : decode cX6_box 22 = .ok (.getfield 19, 3) := by decide +kernel
theorem dX6_box_25 : decode cX6_box 25 = .ok (.invokevirtual 171, 3) := by decide +kernel
theorem dX6_box_28 : decode cX6_box 28 = .ok (.ifCond .ne 6, 3) := by decide +kernel
theorem dX6_box_31 : decode cX6_box 31 = .ok (.ldc 104, 2) := by decide +kernel
theorem dX6_box_33 : decode cX6_box 33 = .ok (.ireturn, 1) := by decide +kernel
theorem dX6_box_34 : decode cX6_box 34 = .ok (.aload_n 0, 1) := by decide +kernel
theorem dX6_box_35 : decode cX6_box 35 = .ok (.getfield 33, 3) := by decide +kernel
theorem dX6_box_38 : decode cX6_box 38 = .ok (.aload_n 0, 1) := by decide +kernel
theorem dX6_box_39 : decode cX6_box 39 = .ok (.getfield 19, 3) := by decide +kernel
theorem dX6_box_42 : decode cX6_box 42 = .ok (.aload_n 0, 1) := by decide +kernel
theorem dX6_box_43 : decode cX6_box 43 = .ok (.getfield 10, 3) := by decide +kernel
theorem dX6_box_46 : decode cX6_box 46 = .ok (.getfield 85, 3) := by decide +kernel
theorem dX6_box_49 : decode cX6_box 49 = .ok (.invokevirtual 175, 3) := by decide +kernel
theorem dX6_box_52 : decode cX6_box 52 = .ok (.iload_n 1, 1) := by decide +kernel
theorem dX6_box_53 : decode cX6_box 53 = .ok (.aload_n 0, 1) := by decide +kernel
theorem dX6_box_54 : decode cX6_box 54 = .ok (.getfield 33, 3) := by decide +kernel
theorem dX6_box_57 : decode cX6_box 57 = .ok (.getfield 179, 3) := by decide +kernel
theorem dX6_box_60 : decode cX6_box 60 = .ok (.invokestatic 78, 3) := by decide +kernel
theorem dX6_box_63 : decode cX6_box 63 = .ok (.ifCond .eq 19, 3) := by decide +kernel
theorem dX6_box_66 : decode cX6_box 66 = .ok (.aload_n 0, 1) := by decide +kernel
theorem dX6_box_67 : decode cX6_box 67 = .ok (.getfield 33, 3) := by decide +kernel
theorem dX6_box_70 : decode cX6_box 70 = .ok (.getfield 180, 3) := by decide +kernel
theorem dX6_box_73 : decode cX6_box 73 = .ok (.iload_n 1, 1) := by decide +kernel
theorem dX6_box_74 : decode cX6_box 74 = .ok (.laload, 1) := by decide +kernel
theorem dX6_box_75 : decode cX6_box 75 = .ok (.iload_n 2, 1) := by decide +kernel
theorem dX6_box_76 : decode cX6_box 76 = .ok (.invokestatic 184, 3) := by decide +kernel
theorem dX6_box_79 : decode cX6_box 79 = .ok (.goto 5, 3) := by decide +kernel
theorem dX6_box_82 : decode cX6_box 82 = .ok (.ldc 55, 2) := by decide +kernel
theorem dX6_box_84 : decode cX6_box 84 = .ok (.ireturn, 1) := by decide +kernel
set_option maxRecDepth 20000 in
theorem ggX6_volume_X0_fits : GoodIn wsX6_volume wsX0_fits := goodIn_r _ [12, 13, 100, 101, 102, 103, 104, 105] (by decide +kernel) (by decide +kernel)
set_option maxRecDepth 20000 in
theorem gX6_volume_X0_fits : GoodIn wsX6_volume (wsV RX6 171 RX0 yX0_fits wsX0_fits) := goodIn_app (goodIn_of _ (by decide +kernel)) ggX6_volume_X0_fits
set_option maxRecDepth 20000 in
theorem ggX6_volume_X0_work : GoodIn wsX6_volume wsX0_work := goodIn_r _ [17, 18, 19, 20, 21, 22, 23, 24, 9, 10, 11, 12, 13, 25, 26, 27, 28, 29, 30, 31, 32, 33, 34, 35, 36, 37, 38, 39, 40, 41, 42, 43, 44, 45, 46, 47, 48, 49, 50, 51, 52, 53, 54, 55, 56, 57, 58, 59, 60, 61, 62, 63, 64, 65, 66, 67, 68, 69, 70, 71, 72, 73, 74, 75, 76, 77, 78, 79, 80, 81, 82, 83, 84, 85, 86, 87, 88, 89, 90, 117, 118, 119, 120, 121, 122, 123, 124, 125, 100, 101, 102, 103, 104, 105] (by decide +kernel) (by decide +kernel)
set_option maxRecDepth 20000 in
theorem gX6_volume_X0_work : GoodIn wsX6_volume (wsV RX6 175 RX0 yX0_work wsX0_work) := goodIn_app (goodIn_of _ (by decide +kernel)) ggX6_volume_X0_work
theorem dX6_volume_0 : decode cX6_volume 0 = .ok (.aload_n 0, 1) := by decide +kernel
theorem dX6_volume_1 : decode cX6_volume 1 = .ok (.getfield 19, 3) := by decide +kernel
theorem dX6_volume_4 : decode cX6_volume 4 = .ok (.getfield 121, 3) := by decide +kernel
theorem dX6_volume_7 : decode cX6_volume 7 = .ok (.ifCond .ne 5, 3) := by decide +kernel
theorem dX6_volume_10 : decode cX6_volume 10 = .ok (.lconst 0, 1) := by decide +kernel
theorem dX6_volume_11 : decode cX6_volume 11 = .ok (.lreturn, 1) := by decide +kernel
theorem dX6_volume_12 : decode cX6_volume 12 = .ok (.aload_n 0, 1) := by decide +kernel
theorem dX6_volume_13 : decode cX6_volume 13 = .ok (.getfield 33, 3) := by decide +kernel
theorem dX6_volume_16 : decode cX6_volume 16 = .ok (.aload_n 0, 1) := by decide +kernel
theorem dX6_volume_17 : decode cX6_volume 17 = .ok (.getfield 19, 3) := by decide +kernel
theorem dX6_volume_20 : decode cX6_volume 20 = .ok (.invokevirtual 171, 3) := by decide +kernel
theorem dX6_volume_23 : decode cX6_volume 23 = .ok (.ifCond .ne 7, 3) := by decide +kernel
theorem dX6_volume_26 : decode cX6_volume 26 = .ok (.ldc2_w 189, 3) := by decide +kernel
theorem dX6_volume_29 : decode cX6_volume 29 = .ok (.lreturn, 1) := by decide +kernel
theorem dX6_volume_30 : decode cX6_volume 30 = .ok (.aload_n 0, 1) := by decide +kernel
theorem dX6_volume_31 : decode cX6_volume 31 = .ok (.getfield 33, 3) := by decide +kernel
theorem dX6_volume_34 : decode cX6_volume 34 = .ok (.aload_n 0, 1) := by decide +kernel
theorem dX6_volume_35 : decode cX6_volume 35 = .ok (.getfield 19, 3) := by decide +kernel
theorem dX6_volume_38 : decode cX6_volume 38 = .ok (.aload_n 0, 1) := by decide +kernel
theorem dX6_volume_39 : decode cX6_volume 39 = .ok (.getfield 10, 3) := by decide +kernel
theorem dX6_volume_42 : decode cX6_volume 42 = .ok (.getfield 85, 3) := by decide +kernel
theorem dX6_volume_45 : decode cX6_volume 45 = .ok (.invokevirtual 175, 3) := by decide +kernel
theorem dX6_volume_48 : decode cX6_volume 48 = .ok (.aload_n 0, 1) := by decide +kernel
theorem dX6_volume_49 : decode cX6_volume 49 = .ok (.getfield 33, 3) := by decide +kernel
theorem dX6_volume_52 : decode cX6_volume 52 = .ok (.getfield 191, 3) := by decide +kernel
theorem dX6_volume_55 : decode cX6_volume 55 = .ok (.lreturn, 1) := by decide +kernel
set_option maxRecDepth 20000 in
theorem ggX6_climb_X6_among : GoodIn wsX6_climb wsX6_among := goodIn_r _ [12] (by decide +kernel) (by decide +kernel)
set_option maxRecDepth 20000 in
theorem gX6_climb_X6_among : GoodIn wsX6_climb (va_wsS RX6 78 yX6_among wsX6_among) := goodIn_app (goodIn_of _ (by decide +kernel)) ggX6_climb_X6_among
set_option maxRecDepth 20000 in
theorem ggX6_climb_X5_fill : GoodIn wsX6_climb wsX5_fill := goodIn_r _ [17, 18, 19, 20, 21, 22, 23, 24, 85, 86, 87, 88, 89, 90, 91, 92, 93, 94, 95] (by decide +kernel) (by decide +kernel)
set_option maxRecDepth 20000 in
theorem gX6_climb_X5_fill : GoodIn wsX6_climb (wsV RX6 132 RX5 yX5_fill wsX5_fill) := goodIn_app (goodIn_of _ (by decide +kernel)) ggX6_climb_X5_fill
set_option maxRecDepth 20000 in
theorem ggX6_climb_X5_scoreOf : GoodIn wsX6_climb wsX5_scoreOf := goodIn_r _ [28, 29, 30, 31, 32, 33, 34, 35, 36, 37, 38, 39, 16, 40, 18, 41, 42, 43, 44, 45, 46, 47, 85, 86, 87, 88, 89, 90, 91, 92, 93, 94, 95] (by decide +kernel) (by decide +kernel)
set_option maxRecDepth 20000 in
theorem gX6_climb_X5_scoreOf : GoodIn wsX6_climb (wsV RX6 195 RX5 yX5_scoreOf wsX5_scoreOf) := goodIn_app (goodIn_of _ (by decide +kernel)) ggX6_climb_X5_scoreOf
set_option maxRecDepth 20000 in
theorem ggX6_climb_X1_climbFrom : GoodIn wsX6_climb wsX1_climbFrom := goodIn_r _ [52, 53, 54, 55, 56, 57, 58, 59, 60, 26, 27, 16, 28, 29, 30, 31, 32, 33, 34, 35, 36, 37, 38, 39, 40, 18, 41, 42, 43, 44, 45, 46, 47, 61, 62, 63, 51, 64, 65, 66, 67, 68, 69, 70, 71, 72, 73, 74, 75, 96, 97, 85, 86, 87, 88, 89, 90, 91, 92, 93, 94, 95] (by decide +kernel) (by decide +kernel)
set_option maxRecDepth 20000 in
theorem gX6_climb_X1_climbFrom : GoodIn wsX6_climb (wsV RX6 201 RX1 yX1_climbFrom wsX1_climbFrom) := goodIn_app (goodIn_of _ (by decide +kernel)) ggX6_climb_X1_climbFrom
theorem dX6_climb_0 : decode cX6_climb 0 = .ok (.iload_n 1, 1) := by decide +kernel
theorem dX6_climb_1 : decode cX6_climb 1 = .ok (.aload_n 0, 1) := by decide +kernel
theorem dX6_climb_2 : decode cX6_climb 2 = .ok (.getfield 10, 3) := by decide +kernel
theorem dX6_climb_5 : decode cX6_climb 5 = .ok (.getfield 60, 3) := by decide +kernel
theorem dX6_climb_8 : decode cX6_climb 8 = .ok (.invokestatic 78, 3) := by decide +kernel
theorem dX6_climb_11 : decode cX6_climb 11 = .ok (.ifCond .ne 6, 3) := by decide +kernel
theorem dX6_climb_14 : decode cX6_climb 14 = .ok (.ldc 55, 2) := by decide +kernel
theorem dX6_climb_16 : decode cX6_climb 16 = .ok (.ireturn, 1) := by decide +kernel
theorem dX6_climb_17 : decode cX6_climb 17 = .ok (.aload_n 0, 1) := by decide +kernel
theorem dX6_climb_18 : decode cX6_climb 18 = .ok (.getfield 10, 3) := by decide +kernel
theorem dX6_climb_21 : decode cX6_climb 21 = .ok (.iload_n 1, 1) := by decide +kernel
theorem dX6_climb_22 : decode cX6_climb 22 = .ok (.aload_n 0, 1) := by decide +kernel
theorem dX6_climb_23 : decode cX6_climb 23 = .ok (.getfield 44, 3) := by decide +kernel
theorem dX6_climb_26 : decode cX6_climb 26 = .ok (.invokevirtual 132, 3) := by decide +kernel
theorem dX6_climb_29 : decode cX6_climb 29 = .ok (.aload_n 0, 1) := by decide +kernel
theorem dX6_climb_30 : decode cX6_climb 30 = .ok (.getfield 10, 3) := by decide +kernel
theorem dX6_climb_33 : decode cX6_climb 33 = .ok (.getfield 85, 3) := by decide +kernel
theorem dX6_climb_36 : decode cX6_climb 36 = .ok (.ifCond .eq 21, 3) := by decide +kernel
theorem dX6_climb_39 : decode cX6_climb 39 = .ok (.aload_n 0, 1) := by decide +kernel
theorem dX6_climb_40 : decode cX6_climb 40 = .ok (.getfield 10, 3) := by decide +kernel
theorem dX6_climb_43 : decode cX6_climb 43 = .ok (.aload_n 0, 1) := by decide +kernel
theorem dX6_climb_44 : decode cX6_climb 44 = .ok (.getfield 44, 3) := by decide +kernel
theorem dX6_climb_47 : decode cX6_climb 47 = .ok (.invokevirtual 195, 3) := by decide +kernel
theorem dX6_climb_50 : decode cX6_climb 50 = .ok (.ldc2_w 199, 3) := by decide +kernel
theorem dX6_climb_53 : decode cX6_climb 53 = .ok (.lcmp, 1) := by decide +kernel
theorem dX6_climb_54 : decode cX6_climb 54 = .ok (.ifCond .ne 6, 3) := by decide +kernel
theorem dX6_climb_57 : decode cX6_climb 57 = .ok (.ldc 104, 2) := by decide +kernel
theorem dX6_climb_59 : decode cX6_climb 59 = .ok (.ireturn, 1) := by decide +kernel
theorem dX6_climb_60 : decode cX6_climb 60 = .ok (.aload_n 0, 1) := by decide +kernel
theorem dX6_climb_61 : decode cX6_climb 61 = .ok (.getfield 40, 3) := by decide +kernel
theorem dX6_climb_64 : decode cX6_climb 64 = .ok (.aload_n 0, 1) := by decide +kernel
theorem dX6_climb_65 : decode cX6_climb 65 = .ok (.getfield 10, 3) := by decide +kernel
theorem dX6_climb_68 : decode cX6_climb 68 = .ok (.aload_n 0, 1) := by decide +kernel
theorem dX6_climb_69 : decode cX6_climb 69 = .ok (.getfield 44, 3) := by decide +kernel
theorem dX6_climb_72 : decode cX6_climb 72 = .ok (.invokevirtual 201, 3) := by decide +kernel
theorem dX6_climb_75 : decode cX6_climb 75 = .ok (.ireturn, 1) := by decide +kernel
set_option maxRecDepth 20000 in
theorem ggX6_climbed_X6_among : GoodIn wsX6_climbed wsX6_among := goodIn_r _ [11] (by decide +kernel) (by decide +kernel)
set_option maxRecDepth 20000 in
theorem gX6_climbed_X6_among : GoodIn wsX6_climbed (va_wsS RX6 78 yX6_among wsX6_among) := goodIn_app (goodIn_of _ (by decide +kernel)) ggX6_climbed_X6_among
theorem dX6_climbed_0 : decode cX6_climbed 0 = .ok (.iload_n 1, 1) := by decide +kernel
theorem dX6_climbed_1 : decode cX6_climbed 1 = .ok (.aload_n 0, 1) := by decide +kernel
theorem dX6_climbed_2 : decode cX6_climbed 2 = .ok (.getfield 10, 3) := by decide +kernel
theorem dX6_climbed_5 : decode cX6_climbed 5 = .ok (.getfield 56, 3) := by decide +kernel
theorem dX6_climbed_8 : decode cX6_climbed 8 = .ok (.invokestatic 78, 3) := by decide +kernel
theorem dX6_climbed_11 : decode cX6_climbed 11 = .ok (.ifCond .ne 6, 3) := by decide +kernel
theorem dX6_climbed_14 : decode cX6_climbed 14 = .ok (.ldc 55, 2) := by decide +kernel
theorem dX6_climbed_16 : decode cX6_climbed 16 = .ok (.ireturn, 1) := by decide +kernel
theorem dX6_climbed_17 : decode cX6_climbed 17 = .ok (.aload_n 0, 1) := by decide +kernel
theorem dX6_climbed_18 : decode cX6_climbed 18 = .ok (.getfield 40, 3) := by decide +kernel
theorem dX6_climbed_21 : decode cX6_climbed 21 = .ok (.getfield 205, 3) := by decide +kernel
theorem dX6_climbed_24 : decode cX6_climbed 24 = .ok (.ifCond .eq 15, 3) := by decide +kernel
theorem dX6_climbed_27 : decode cX6_climbed 27 = .ok (.aload_n 0, 1) := by decide +kernel
theorem dX6_climbed_28 : decode cX6_climbed 28 = .ok (.getfield 40, 3) := by decide +kernel
theorem dX6_climbed_31 : decode cX6_climbed 31 = .ok (.getfield 209, 3) := by decide +kernel
theorem dX6_climbed_34 : decode cX6_climbed 34 = .ok (.iload_n 1, 1) := by decide +kernel
theorem dX6_climbed_35 : decode cX6_climbed 35 = .ok (.iaload, 1) := by decide +kernel
theorem dX6_climbed_36 : decode cX6_climbed 36 = .ok (.goto 5, 3) := by decide +kernel
theorem dX6_climbed_39 : decode cX6_climbed 39 = .ok (.ldc 104, 2) := by decide +kernel
theorem dX6_climbed_41 : decode cX6_climbed 41 = .ok (.ireturn, 1) := by decide +kernel
set_option maxRecDepth 20000 in
theorem ggX6_beginAnew_X2_end : GoodIn wsX6_beginAnew wsX2_end := goodIn_r _ [13, 14, 38, 39, 40, 41, 42] (by decide +kernel) (by decide +kernel)
set_option maxRecDepth 20000 in
theorem gX6_beginAnew_X2_end : GoodIn wsX6_beginAnew (wsV RX6 105 RX2 yX2_end wsX2_end) := goodIn_app (goodIn_of _ (by decide +kernel)) ggX6_beginAnew_X2_end
set_option maxRecDepth 20000 in
theorem ggX6_beginAnew_X0_forget : GoodIn wsX6_beginAnew wsX0_forget := goodIn_r _ [19, 20, 43, 44, 45, 46, 47, 48, 49, 50, 51] (by decide +kernel) (by decide +kernel)
set_option maxRecDepth 20000 in
theorem gX6_beginAnew_X0_forget : GoodIn wsX6_beginAnew (wsV RX6 108 RX0 yX0_forget wsX0_forget) := goodIn_app (goodIn_of _ (by decide +kernel)) ggX6_beginAnew_X0_forget
theorem dX6_beginAnew_0 : decode cX6_beginAnew 0 = .ok (.aload_n 0, 1) := by decide +kernel
theorem dX6_beginAnew_1 : decode cX6_beginAnew 1 = .ok (.iconst 0, 1) := by decide +kernel
theorem dX6_beginAnew_2 : decode cX6_beginAnew 2 = .ok (.putfield 109, 3) := by decide +kernel
theorem dX6_beginAnew_5 : decode cX6_beginAnew 5 = .ok (.aload_n 0, 1) := by decide +kernel
theorem dX6_beginAnew_6 : decode cX6_beginAnew 6 = .ok (.iconst 0, 1) := by decide +kernel
theorem dX6_beginAnew_7 : decode cX6_beginAnew 7 = .ok (.putfield 124, 3) := by decide +kernel
theorem dX6_beginAnew_10 : decode cX6_beginAnew 10 = .ok (.aload_n 0, 1) := by decide +kernel
theorem dX6_beginAnew_11 : decode cX6_beginAnew 11 = .ok (.getfield 19, 3) := by decide +kernel
theorem dX6_beginAnew_14 : decode cX6_beginAnew 14 = .ok (.iconst 0, 1) := by decide +kernel
theorem dX6_beginAnew_15 : decode cX6_beginAnew 15 = .ok (.putfield 121, 3) := by decide +kernel
theorem dX6_beginAnew_18 : decode cX6_beginAnew 18 = .ok (.aload_n 0, 1) := by decide +kernel
theorem dX6_beginAnew_19 : decode cX6_beginAnew 19 = .ok (.getfield 26, 3) := by decide +kernel
theorem dX6_beginAnew_22 : decode cX6_beginAnew 22 = .ok (.invokevirtual 105, 3) := by decide +kernel
theorem dX6_beginAnew_25 : decode cX6_beginAnew 25 = .ok (.aload_n 0, 1) := by decide +kernel
theorem dX6_beginAnew_26 : decode cX6_beginAnew 26 = .ok (.getfield 33, 3) := by decide +kernel
theorem dX6_beginAnew_29 : decode cX6_beginAnew 29 = .ok (.invokevirtual 108, 3) := by decide +kernel
theorem dX6_beginAnew_32 : decode cX6_beginAnew 32 = .ok (.aload_n 0, 1) := by decide +kernel
theorem dX6_beginAnew_33 : decode cX6_beginAnew 33 = .ok (.getfield 40, 3) := by decide +kernel
theorem dX6_beginAnew_36 : decode cX6_beginAnew 36 = .ok (.iconst 0, 1) := by decide +kernel
theorem dX6_beginAnew_37 : decode cX6_beginAnew 37 = .ok (.putfield 205, 3) := by decide +kernel
theorem dX6_beginAnew_40 : decode cX6_beginAnew 40 = .ok (.return_, 1) := by decide +kernel
set_option maxRecDepth 20000 in
theorem ggX6_goThrough_X5_fill : GoodIn wsX6_goThrough wsX5_fill := goodIn_r _ [10, 11, 12, 13, 14, 15, 16, 17, 87, 88, 89, 90, 91, 92, 93, 94, 95, 96, 97] (by decide +kernel) (by decide +kernel)
set_option maxRecDepth 20000 in
theorem gX6_goThrough_X5_fill : GoodIn wsX6_goThrough (wsV RX6 132 RX5 yX5_fill wsX5_fill) := goodIn_app (goodIn_of _ (by decide +kernel)) ggX6_goThrough_X5_fill
set_option maxRecDepth 20000 in
theorem ggX6_goThrough_X5_scoreOf : GoodIn wsX6_goThrough wsX5_scoreOf := goodIn_r _ [21, 22, 23, 24, 25, 26, 27, 28, 29, 30, 31, 32, 9, 33, 11, 34, 35, 36, 37, 38, 39, 40, 87, 88, 89, 90, 91, 92, 93, 94, 95, 96, 97] (by decide +kernel) (by decide +kernel)
set_option maxRecDepth 20000 in
theorem gX6_goThrough_X5_scoreOf : GoodIn wsX6_goThrough (wsV RX6 195 RX5 yX5_scoreOf wsX5_scoreOf) := goodIn_app (goodIn_of _ (by decide +kernel)) ggX6_goThrough_X5_scoreOf
set_option maxRecDepth 20000 in
theorem ggX6_goThrough_X3_meet : GoodIn wsX6_goThrough wsX3_meet := goodIn_r _ [45, 46, 47, 48, 49, 50, 51, 44, 52, 53, 54, 55, 56, 57, 58, 36, 59, 60, 61, 62, 63, 64, 65, 66, 67, 68, 69, 70, 71, 72, 73, 74, 75, 76, 77, 98, 99, 100, 101, 102, 103] (by decide +kernel) (by decide +kernel)
set_option maxRecDepth 20000 in
theorem gX6_goThrough_X3_meet : GoodIn wsX6_goThrough (wsV RX6 212 RX3 yX3_meet wsX3_meet) := goodIn_app (goodIn_of _ (by decide +kernel)) ggX6_goThrough_X3_meet
theorem dX6_goThrough_0 : decode cX6_goThrough 0 = .ok (.aload_n 0, 1) := by decide +kernel
theorem dX6_goThrough_1 : decode cX6_goThrough 1 = .ok (.getfield 10, 3) := by decide +kernel
theorem dX6_goThrough_4 : decode cX6_goThrough 4 = .ok (.iload_n 1, 1) := by decide +kernel
theorem dX6_goThrough_5 : decode cX6_goThrough 5 = .ok (.aload_n 0, 1) := by decide +kernel
theorem dX6_goThrough_6 : decode cX6_goThrough 6 = .ok (.getfield 44, 3) := by decide +kernel
theorem dX6_goThrough_9 : decode cX6_goThrough 9 = .ok (.invokevirtual 132, 3) := by decide +kernel
theorem dX6_goThrough_12 : decode cX6_goThrough 12 = .ok (.aload_n 0, 1) := by decide +kernel
theorem dX6_goThrough_13 : decode cX6_goThrough 13 = .ok (.getfield 10, 3) := by decide +kernel
theorem dX6_goThrough_16 : decode cX6_goThrough 16 = .ok (.aload_n 0, 1) := by decide +kernel
theorem dX6_goThrough_17 : decode cX6_goThrough 17 = .ok (.getfield 44, 3) := by decide +kernel
theorem dX6_goThrough_20 : decode cX6_goThrough 20 = .ok (.invokevirtual 195, 3) := by decide +kernel
theorem dX6_goThrough_23 : decode cX6_goThrough 23 = .ok (.lstore_n 2, 1) := by decide +kernel
theorem dX6_goThrough_24 : decode cX6_goThrough 24 = .ok (.lload_n 2, 1) := by decide +kernel
theorem dX6_goThrough_25 : decode cX6_goThrough 25 = .ok (.ldc2_w 199, 3) := by decide +kernel
theorem dX6_goThrough_28 : decode cX6_goThrough 28 = .ok (.lcmp, 1) := by decide +kernel
theorem dX6_goThrough_29 : decode cX6_goThrough 29 = .ok (.ifCond .eq 22, 3) := by decide +kernel
theorem dX6_goThrough_32 : decode cX6_goThrough 32 = .ok (.aload_n 0, 1) := by decide +kernel
theorem dX6_goThrough_33 : decode cX6_goThrough 33 = .ok (.dup, 1) := by decide +kernel
theorem dX6_goThrough_34 : decode cX6_goThrough 34 = .ok (.getfield 124, 3) := by decide +kernel
theorem dX6_goThrough_37 : decode cX6_goThrough 37 = .ok (.iconst 1, 1) := by decide +kernel
theorem dX6_goThrough_38 : decode cX6_goThrough 38 = .ok (.iadd, 1) := by decide +kernel
theorem dX6_goThrough_39 : decode cX6_goThrough 39 = .ok (.putfield 124, 3) := by decide +kernel
theorem dX6_goThrough_42 : decode cX6_goThrough 42 = .ok (.aload_n 0, 1) := by decide +kernel
theorem dX6_goThrough_43 : decode cX6_goThrough 43 = .ok (.getfield 19, 3) := by decide +kernel
theorem dX6_goThrough_46 : decode cX6_goThrough 46 = .ok (.lload_n 2, 1) := by decide +kernel
theorem dX6_goThrough_47 : decode cX6_goThrough 47 = .ok (.iload_n 1, 1) := by decide +kernel
theorem dX6_goThrough_48 : decode cX6_goThrough 48 = .ok (.invokevirtual 212, 3) := by decide +kernel
theorem dX6_goThrough_51 : decode cX6_goThrough 51 = .ok (.return_, 1) := by decide +kernel
theorem dX6_ask_0 : decode cX6_ask 0 = .ok (.aload_n 0, 1) := by decide +kernel
theorem dX6_ask_1 : decode cX6_ask 1 = .ok (.getfield 48, 3) := by decide +kernel
theorem dX6_ask_4 : decode cX6_ask 4 = .ok (.iconst 0, 1) := by decide +kernel
theorem dX6_ask_5 : decode cX6_ask 5 = .ok (.iload_n 1, 1) := by decide +kernel
theorem dX6_ask_6 : decode cX6_ask 6 = .ok (.iastore, 1) := by decide +kernel
theorem dX6_ask_7 : decode cX6_ask 7 = .ok (.aload_n 0, 1) := by decide +kernel
theorem dX6_ask_8 : decode cX6_ask 8 = .ok (.getfield 48, 3) := by decide +kernel
theorem dX6_ask_11 : decode cX6_ask 11 = .ok (.iconst 1, 1) := by decide +kernel
theorem dX6_ask_12 : decode cX6_ask 12 = .ok (.iload_n 2, 1) := by decide +kernel
theorem dX6_ask_13 : decode cX6_ask 13 = .ok (.iastore, 1) := by decide +kernel
theorem dX6_ask_14 : decode cX6_ask 14 = .ok (.aload_n 0, 1) := by decide +kernel
theorem dX6_ask_15 : decode cX6_ask 15 = .ok (.getfield 48, 3) := by decide +kernel
theorem dX6_ask_18 : decode cX6_ask 18 = .ok (.iconst 2, 1) := by decide +kernel
theorem dX6_ask_19 : decode cX6_ask 19 = .ok (.iload_n 3, 1) := by decide +kernel
theorem dX6_ask_20 : decode cX6_ask 20 = .ok (.iastore, 1) := by decide +kernel
theorem dX6_ask_21 : decode cX6_ask 21 = .ok (.aload_n 0, 1) := by decide +kernel
theorem dX6_ask_22 : decode cX6_ask 22 = .ok (.getfield 48, 3) := by decide +kernel
theorem dX6_ask_25 : decode cX6_ask 25 = .ok (.iconst 3, 1) := by decide +kernel
theorem dX6_ask_26 : decode cX6_ask 26 = .ok (.iload 4, 2) := by decide +kernel
theorem dX6_ask_28 : decode cX6_ask 28 = .ok (.iastore, 1) := by decide +kernel
theorem dX6_ask_29 : decode cX6_ask 29 = .ok (.return_, 1) := by decide +kernel
theorem dX6_among_0 : decode cX6_among 0 = .ok (.iload_n 0, 1) := by decide +kernel
theorem dX6_among_1 : decode cX6_among 1 = .ok (.ifCond .lt 12, 3) := by decide +kernel
theorem dX6_among_4 : decode cX6_among 4 = .ok (.iload_n 0, 1) := by decide +kernel
theorem dX6_among_5 : decode cX6_among 5 = .ok (.iload_n 1, 1) := by decide +kernel
theorem dX6_among_6 : decode cX6_among 6 = .ok (.if_icmp .ge 7, 3) := by decide +kernel
theorem dX6_among_9 : decode cX6_among 9 = .ok (.iconst 1, 1) := by decide +kernel
theorem dX6_among_10 : decode cX6_among 10 = .ok (.goto 4, 3) := by decide +kernel
theorem dX6_among_13 : decode cX6_among 13 = .ok (.iconst 0, 1) := by decide +kernel
theorem dX6_among_14 : decode cX6_among 14 = .ok (.ireturn, 1) := by decide +kernel
theorem dX6_within_0 : decode cX6_within 0 = .ok (.iload_n 0, 1) := by decide +kernel
theorem dX6_within_1 : decode cX6_within 1 = .ok (.iload_n 1, 1) := by decide +kernel
theorem dX6_within_2 : decode cX6_within 2 = .ok (.ineg, 1) := by decide +kernel
theorem dX6_within_3 : decode cX6_within 3 = .ok (.if_icmp .lt 12, 3) := by decide +kernel
theorem dX6_within_6 : decode cX6_within 6 = .ok (.iload_n 0, 1) := by decide +kernel
theorem dX6_within_7 : decode cX6_within 7 = .ok (.iload_n 1, 1) := by decide +kernel
theorem dX6_within_8 : decode cX6_within 8 = .ok (.if_icmp .gt 7, 3) := by decide +kernel
theorem dX6_within_11 : decode cX6_within 11 = .ok (.iconst 1, 1) := by decide +kernel
theorem dX6_within_12 : decode cX6_within 12 = .ok (.goto 4, 3) := by decide +kernel
theorem dX6_within_15 : decode cX6_within 15 = .ok (.iconst 0, 1) := by decide +kernel
theorem dX6_within_16 : decode cX6_within 16 = .ok (.ireturn, 1) := by decide +kernel
theorem dX7_init_0 : decode cX7_init 0 = .ok (.aload_n 0, 1) := by decide +kernel
theorem dX7_init_1 : decode cX7_init 1 = .ok (.invokespecial 1, 3) := by decide +kernel
theorem dX7_init_4 : decode cX7_init 4 = .ok (.aload_n 0, 1) := by decide +kernel
theorem dX7_init_5 : decode cX7_init 5 = .ok (.bipush 8, 2) := by decide +kernel
theorem dX7_init_7 : decode cX7_init 7 = .ok (.newarray .int, 2) := by decide +kernel
theorem dX7_init_9 : decode cX7_init 9 = .ok (.putfield 7, 3) := by decide +kernel
theorem dX7_init_12 : decode cX7_init 12 = .ok (.aload_n 0, 1) := by decide +kernel
theorem dX7_init_13 : decode cX7_init 13 = .ok (.bipush 8, 2) := by decide +kernel
theorem dX7_init_15 : decode cX7_init 15 = .ok (.newarray .int, 2) := by decide +kernel
theorem dX7_init_17 : decode cX7_init 17 = .ok (.putfield 13, 3) := by decide +kernel
theorem dX7_init_20 : decode cX7_init 20 = .ok (.aload_n 0, 1) := by decide +kernel
theorem dX7_init_21 : decode cX7_init 21 = .ok (.bipush 8, 2) := by decide +kernel
theorem dX7_init_23 : decode cX7_init 23 = .ok (.newarray .int, 2) := by decide +kernel
theorem dX7_init_25 : decode cX7_init 25 = .ok (.putfield 16, 3) := by decide +kernel
theorem dX7_init_28 : decode cX7_init 28 = .ok (.aload_n 0, 1) := by decide +kernel
theorem dX7_init_29 : decode cX7_init 29 = .ok (.bipush 64, 2) := by decide +kernel
theorem dX7_init_31 : decode cX7_init 31 = .ok (.newarray .int, 2) := by decide +kernel
theorem dX7_init_33 : decode cX7_init 33 = .ok (.putfield 19, 3) := by decide +kernel
theorem dX7_init_36 : decode cX7_init 36 = .ok (.aload_n 0, 1) := by decide +kernel
theorem dX7_init_37 : decode cX7_init 37 = .ok (.bipush 32, 2) := by decide +kernel
theorem dX7_init_39 : decode cX7_init 39 = .ok (.newarray .int, 2) := by decide +kernel
theorem dX7_init_41 : decode cX7_init 41 = .ok (.putfield 22, 3) := by decide +kernel
theorem dX7_init_44 : decode cX7_init 44 = .ok (.aload_n 0, 1) := by decide +kernel
theorem dX7_init_45 : decode cX7_init 45 = .ok (.iconst 4, 1) := by decide +kernel
theorem dX7_init_46 : decode cX7_init 46 = .ok (.newarray .int, 2) := by decide +kernel
theorem dX7_init_48 : decode cX7_init 48 = .ok (.putfield 25, 3) := by decide +kernel
theorem dX7_init_51 : decode cX7_init 51 = .ok (.aload_n 0, 1) := by decide +kernel
theorem dX7_init_52 : decode cX7_init 52 = .ok (.iconst 4, 1) := by decide +kernel
theorem dX7_init_53 : decode cX7_init 53 = .ok (.newarray .int, 2) := by decide +kernel
theorem dX7_init_55 : decode cX7_init 55 = .ok (.putfield 28, 3) := by decide +kernel
theorem dX7_init_58 : decode cX7_init 58 = .ok (.aload_n 0, 1) := by decide +kernel
theorem dX7_init_59 : decode cX7_init 59 = .ok (.sipush 2000, 3) := by decide +kernel
theorem dX7_init_62 : decode cX7_init 62 = .ok (.newarray .int, 2) := by decide +kernel
theorem dX7_init_64 : decode cX7_init 64 = .ok (.putfield 31, 3) := by decide +kernel
theorem dX7_init_67 : decode cX7_init 67 = .ok (.aload_n 0, 1) := by decide +kernel
theorem dX7_init_68 : decode cX7_init 68 = .ok (.sipush 8000, 3) := by decide +kernel
theorem dX7_init_71 : decode cX7_init 71 = .ok (.newarray .int, 2) := by decide +kernel
theorem dX7_init_73 : decode cX7_init 73 = .ok (.putfield 34, 3) := by decide +kernel
theorem dX7_init_76 : decode cX7_init 76 = .ok (.aload_n 0, 1) := by decide +kernel
theorem dX7_init_77 : decode cX7_init 77 = .ok (.sipush 2000, 3) := by decide +kernel
theorem dX7_init_80 : decode cX7_init 80 = .ok (.newarray .int, 2) := by decide +kernel
theorem dX7_init_82 : decode cX7_init 82 = .ok (.putfield 37, 3) := by decide +kernel
theorem dX7_init_85 : decode cX7_init 85 = .ok (.aload_n 0, 1) := by decide +kernel
theorem dX7_init_86 : decode cX7_init 86 = .ok (.sipush 2000, 3) := by decide +kernel
theorem dX7_init_89 : decode cX7_init 89 = .ok (.newarray .int, 2) := by decide +kernel
theorem dX7_init_91 : decode cX7_init 91 = .ok (.putfield 40, 3) := by decide +kernel
theorem dX7_init_94 : decode cX7_init 94 = .ok (.aload_n 0, 1) := by decide +kernel
theorem dX7_init_95 : decode cX7_init 95 = .ok (.sipush 2000, 3) := by decide +kernel
theorem dX7_init_98 : decode cX7_init 98 = .ok (.newarray .int, 2) := by decide +kernel
theorem dX7_init_100 : decode cX7_init 100 = .ok (.putfield 43, 3) := by decide +kernel
theorem dX7_init_103 : decode cX7_init 103 = .ok (.aload_n 0, 1) := by decide +kernel
theorem dX7_init_104 : decode cX7_init 104 = .ok (.bipush 8, 2) := by decide +kernel
theorem dX7_init_106 : decode cX7_init 106 = .ok (.newarray .int, 2) := by decide +kernel
theorem dX7_init_108 : decode cX7_init 108 = .ok (.putfield 46, 3) := by decide +kernel
theorem dX7_init_111 : decode cX7_init 111 = .ok (.aload_n 0, 1) := by decide +kernel
theorem dX7_init_112 : decode cX7_init 112 = .ok (.bipush 8, 2) := by decide +kernel
theorem dX7_init_114 : decode cX7_init 114 = .ok (.newarray .int, 2) := by decide +kernel
theorem dX7_init_116 : decode cX7_init 116 = .ok (.putfield 49, 3) := by decide +kernel
theorem dX7_init_119 : decode cX7_init 119 = .ok (.aload_n 0, 1) := by decide +kernel
theorem dX7_init_120 : decode cX7_init 120 = .ok (.iconst 4, 1) := by decide +kernel
theorem dX7_init_121 : decode cX7_init 121 = .ok (.newarray .int, 2) := by decide +kernel
theorem dX7_init_123 : decode cX7_init 123 = .ok (.putfield 52, 3) := by decide +kernel
theorem dX7_init_126 : decode cX7_init 126 = .ok (.aload_n 0, 1) := by decide +kernel
theorem dX7_init_127 : decode cX7_init 127 = .ok (.iconst 4, 1) := by decide +kernel
theorem dX7_init_128 : decode cX7_init 128 = .ok (.newarray .long, 2) := by decide +kernel
theorem dX7_init_130 : decode cX7_init 130 = .ok (.putfield 55, 3) := by decide +kernel
theorem dX7_init_133 : decode cX7_init 133 = .ok (.aload_n 0, 1) := by decide +kernel
theorem dX7_init_134 : decode cX7_init 134 = .ok (.iconst 4, 1) := by decide +kernel
theorem dX7_init_135 : decode cX7_init 135 = .ok (.newarray .int, 2) := by decide +kernel
theorem dX7_init_137 : decode cX7_init 137 = .ok (.putfield 59, 3) := by decide +kernel
theorem dX7_init_140 : decode cX7_init 140 = .ok (.aload_n 0, 1) := by decide +kernel
theorem dX7_init_141 : decode cX7_init 141 = .ok (.sipush 2000, 3) := by decide +kernel
theorem dX7_init_144 : decode cX7_init 144 = .ok (.newarray .boolean, 2) := by decide +kernel
theorem dX7_init_146 : decode cX7_init 146 = .ok (.putfield 62, 3) := by decide +kernel
theorem dX7_init_149 : decode cX7_init 149 = .ok (.aload_n 0, 1) := by decide +kernel
theorem dX7_init_150 : decode cX7_init 150 = .ok (.bipush 52, 2) := by decide +kernel
theorem dX7_init_152 : decode cX7_init 152 = .ok (.newarray .int, 2) := by decide +kernel
theorem dX7_init_154 : decode cX7_init 154 = .ok (.putfield 66, 3) := by decide +kernel
theorem dX7_init_157 : decode cX7_init 157 = .ok (.aload_n 0, 1) := by decide +kernel
theorem dX7_init_158 : decode cX7_init 158 = .ok (.iconst 4, 1) := by decide +kernel
theorem dX7_init_159 : decode cX7_init 159 = .ok (.newarray .int, 2) := by decide +kernel
theorem dX7_init_161 : decode cX7_init 161 = .ok (.putfield 69, 3) := by decide +kernel
theorem dX7_init_164 : decode cX7_init 164 = .ok (.aload_n 0, 1) := by decide +kernel
theorem dX7_init_165 : decode cX7_init 165 = .ok (.iconst 4, 1) := by decide +kernel
theorem dX7_init_166 : decode cX7_init 166 = .ok (.newarray .int, 2) := by decide +kernel
theorem dX7_init_168 : decode cX7_init 168 = .ok (.putfield 72, 3) := by decide +kernel
theorem dX7_init_171 : decode cX7_init 171 = .ok (.aload_n 0, 1) := by decide +kernel
theorem dX7_init_172 : decode cX7_init 172 = .ok (.iconst 4, 1) := by decide +kernel
theorem dX7_init_173 : decode cX7_init 173 = .ok (.newarray .int, 2) := by decide +kernel
theorem dX7_init_175 : decode cX7_init 175 = .ok (.putfield 75, 3) := by decide +kernel
theorem dX7_init_178 : decode cX7_init 178 = .ok (.return_, 1) := by decide +kernel
theorem dX7_in_0 : decode cX7_in 0 = .ok (.lload_n 0, 1) := by decide +kernel
theorem dX7_in_1 : decode cX7_in 1 = .ok (.lload_n 2, 1) := by decide +kernel
theorem dX7_in_2 : decode cX7_in 2 = .ok (.lcmp, 1) := by decide +kernel
theorem dX7_in_3 : decode cX7_in 3 = .ok (.ifCond .lt 14, 3) := by decide +kernel
theorem dX7_in_6 : decode cX7_in 6 = .ok (.lload_n 0, 1) := by decide +kernel
theorem dX7_in_7 : decode cX7_in 7 = .ok (.lload 4, 2) := by decide +kernel
theorem dX7_in_9 : decode cX7_in 9 = .ok (.lcmp, 1) := by decide +kernel
theorem dX7_in_10 : decode cX7_in 10 = .ok (.ifCond .gt 7, 3) := by decide +kernel
theorem dX7_in_13 : decode cX7_in 13 = .ok (.iconst 1, 1) := by decide +kernel
theorem dX7_in_14 : decode cX7_in 14 = .ok (.goto 4, 3) := by decide +kernel
theorem dX7_in_17 : decode cX7_in 17 = .ok (.iconst 0, 1) := by decide +kernel
theorem dX7_in_18 : decode cX7_in 18 = .ok (.ireturn, 1) := by decide +kernel
set_option maxRecDepth 20000 in
theorem ggX7_isColumn_X7_in : GoodIn wsX7_isColumn wsX7_in := goodIn_r _ [5] (by decide +kernel) (by decide +kernel)
set_option maxRecDepth 20000 in
theorem gX7_isColumn_X7_in : GoodIn wsX7_isColumn (va_wsS RX7 82 yX7_in wsX7_in) := goodIn_app (goodIn_of _ (by decide +kernel)) ggX7_isColumn_X7_in
theorem dX7_isColumn_0 : decode cX7_isColumn 0 = .ok (.iload_n 1, 1) := by decide +kernel
theorem dX7_isColumn_1 : decode cX7_isColumn 1 = .ok (.i2l, 1) := by decide +kernel
theorem dX7_isColumn_2 : decode cX7_isColumn 2 = .ok (.lconst 0, 1) := by decide +kernel
theorem dX7_isColumn_3 : decode cX7_isColumn 3 = .ok (.aload_n 0, 1) := by decide +kernel
theorem dX7_isColumn_4 : decode cX7_isColumn 4 = .ok (.getfield 78, 3) := by decide +kernel
theorem dX7_isColumn_7 : decode cX7_isColumn 7 = .ok (.iconst 1, 1) := by decide +kernel
theorem dX7_isColumn_8 : decode cX7_isColumn 8 = .ok (.isub, 1) := by decide +kernel
theorem dX7_isColumn_9 : decode cX7_isColumn 9 = .ok (.i2l, 1) := by decide +kernel
theorem dX7_isColumn_10 : decode cX7_isColumn 10 = .ok (.invokestatic 82, 3) := by decide +kernel
theorem dX7_isColumn_13 : decode cX7_isColumn 13 = .ok (.ireturn, 1) := by decide +kernel
set_option maxRecDepth 20000 in
theorem ggX7_isRow_X7_in : GoodIn wsX7_isRow wsX7_in := goodIn_r _ [5] (by decide +kernel) (by decide +kernel)
set_option maxRecDepth 20000 in
theorem gX7_isRow_X7_in : GoodIn wsX7_isRow (va_wsS RX7 82 yX7_in wsX7_in) := goodIn_app (goodIn_of _ (by decide +kernel)) ggX7_isRow_X7_in
theorem dX7_isRow_0 : decode cX7_isRow 0 = .ok (.iload_n 1, 1) := by decide +kernel
theorem dX7_isRow_1 : decode cX7_isRow 1 = .ok (.i2l, 1) := by decide +kernel
theorem dX7_isRow_2 : decode cX7_isRow 2 = .ok (.lconst 0, 1) := by decide +kernel
theorem dX7_isRow_3 : decode cX7_isRow 3 = .ok (.aload_n 0, 1) := by decide +kernel
theorem dX7_isRow_4 : decode cX7_isRow 4 = .ok (.getfield 86, 3) := by decide +kernel
