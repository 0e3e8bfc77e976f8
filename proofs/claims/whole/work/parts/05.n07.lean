theorem dX7_isFirst_3 : decode cX7_isFirst 3 = .ok (.iload 4, 2) := by decide +kernel
theorem dX7_isFirst_5 : decode cX7_isFirst 5 = .ok (.iload_n 3, 1) := by decide +kernel
theorem dX7_isFirst_6 : decode cX7_isFirst 6 = .ok (.if_icmp .ge 58, 3) := by decide +kernel
theorem dX7_isFirst_9 : decode cX7_isFirst 9 = .ok (.aload_n 0, 1) := by decide +kernel
theorem dX7_isFirst_10 : decode cX7_isFirst 10 = .ok (.getfield 59, 3) := by decide +kernel
theorem dX7_isFirst_13 : decode cX7_isFirst 13 = .ok (.iload 4, 2) := by decide +kernel
theorem dX7_isFirst_15 : decode cX7_isFirst 15 = .ok (.iaload, 1) := by decide +kernel
theorem dX7_isFirst_16 : decode cX7_isFirst 16 = .ok (.istore 5, 2) := by decide +kernel
theorem dX7_isFirst_18 : decode cX7_isFirst 18 = .ok (.aload_n 0, 1) := by decide +kernel
theorem dX7_isFirst_19 : decode cX7_isFirst 19 = .ok (.iload_n 1, 1) := by decide +kernel
theorem dX7_isFirst_20 : decode cX7_isFirst 20 = .ok (.iload 5, 2) := by decide +kernel
theorem dX7_isFirst_22 : decode cX7_isFirst 22 = .ok (.invokevirtual 176, 3) := by decide +kernel
theorem dX7_isFirst_25 : decode cX7_isFirst 25 = .ok (.aload_n 0, 1) := by decide +kernel
theorem dX7_isFirst_26 : decode cX7_isFirst 26 = .ok (.iload_n 2, 1) := by decide +kernel
theorem dX7_isFirst_27 : decode cX7_isFirst 27 = .ok (.iload 5, 2) := by decide +kernel
theorem dX7_isFirst_29 : decode cX7_isFirst 29 = .ok (.invokevirtual 176, 3) := by decide +kernel
theorem dX7_isFirst_32 : decode cX7_isFirst 32 = .ok (.if_icmp .eq 26, 3) := by decide +kernel
theorem dX7_isFirst_35 : decode cX7_isFirst 35 = .ok (.aload_n 0, 1) := by decide +kernel
theorem dX7_isFirst_36 : decode cX7_isFirst 36 = .ok (.iload_n 1, 1) := by decide +kernel
theorem dX7_isFirst_37 : decode cX7_isFirst 37 = .ok (.iload 5, 2) := by decide +kernel
theorem dX7_isFirst_39 : decode cX7_isFirst 39 = .ok (.invokevirtual 176, 3) := by decide +kernel
theorem dX7_isFirst_42 : decode cX7_isFirst 42 = .ok (.aload_n 0, 1) := by decide +kernel
theorem dX7_isFirst_43 : decode cX7_isFirst 43 = .ok (.iload_n 2, 1) := by decide +kernel
theorem dX7_isFirst_44 : decode cX7_isFirst 44 = .ok (.iload 5, 2) := by decide +kernel
theorem dX7_isFirst_46 : decode cX7_isFirst 46 = .ok (.invokevirtual 176, 3) := by decide +kernel
theorem dX7_isFirst_49 : decode cX7_isFirst 49 = .ok (.if_icmp .ge 7, 3) := by decide +kernel
theorem dX7_isFirst_52 : decode cX7_isFirst 52 = .ok (.iconst 1, 1) := by decide +kernel
theorem dX7_isFirst_53 : decode cX7_isFirst 53 = .ok (.goto 4, 3) := by decide +kernel
theorem dX7_isFirst_56 : decode cX7_isFirst 56 = .ok (.iconst 0, 1) := by decide +kernel
theorem dX7_isFirst_57 : decode cX7_isFirst 57 = .ok (.ireturn, 1) := by decide +kernel
theorem dX7_isFirst_58 : decode cX7_isFirst 58 = .ok (.iinc 4 1, 3) := by decide +kernel
theorem dX7_isFirst_61 : decode cX7_isFirst 61 = .ok (.goto (-58), 3) := by decide +kernel
theorem dX7_isFirst_64 : decode cX7_isFirst 64 = .ok (.iconst 0, 1) := by decide +kernel
theorem dX7_isFirst_65 : decode cX7_isFirst 65 = .ok (.ireturn, 1) := by decide +kernel
set_option maxRecDepth 20000 in
theorem ggX7_first_X7_take : GoodIn wsX7_first wsX7_take := goodIn_r _ [10, 1, 33, 34, 35, 36, 37, 38, 39, 40, 41, 42, 43, 44, 45, 46, 47, 48, 49, 50, 51, 52, 53, 54, 55, 56, 57, 58, 59, 60, 61, 62] (by decide +kernel) (by decide +kernel)
set_option maxRecDepth 20000 in
theorem gX7_first_X7_take : GoodIn wsX7_first (wsV RX7 190 RX7 yX7_take wsX7_take) := goodIn_app (goodIn_of _ (by decide +kernel)) ggX7_first_X7_take
set_option maxRecDepth 20000 in
theorem ggX7_first_X7_isAim : GoodIn wsX7_first wsX7_isAim := goodIn_r _ [14, 15, 16, 17, 9, 18, 33, 34, 35, 36, 37, 38, 39, 40, 41, 42, 43, 44, 45, 46, 47, 48, 49, 50, 51, 52, 53, 54, 55, 56, 57, 58, 59, 60, 61, 62] (by decide +kernel) (by decide +kernel)
set_option maxRecDepth 20000 in
theorem gX7_first_X7_isAim : GoodIn wsX7_first (wsV RX7 136 RX7 yX7_isAim wsX7_isAim) := goodIn_app (goodIn_of _ (by decide +kernel)) ggX7_first_X7_isAim
set_option maxRecDepth 20000 in
theorem ggX7_first_X7_isFirst : GoodIn wsX7_first wsX7_isFirst := goodIn_r _ [22, 1, 23, 24, 25, 9, 26, 27, 28, 29, 30, 31, 32, 33, 34, 35, 36, 37, 38, 39, 40, 41, 42, 43, 44, 45, 46, 47, 48, 49, 50, 51, 52, 53, 54, 55, 56, 57, 58, 59, 60, 61, 62] (by decide +kernel) (by decide +kernel)
set_option maxRecDepth 20000 in
theorem gX7_first_X7_isFirst : GoodIn wsX7_first (wsV RX7 201 RX7 yX7_isFirst wsX7_isFirst) := goodIn_app (goodIn_of _ (by decide +kernel)) ggX7_first_X7_isFirst
theorem dX7_first_0 : decode cX7_first 0 = .ok (.aload_n 0, 1) := by decide +kernel
theorem dX7_first_1 : decode cX7_first 1 = .ok (.iload_n 1, 1) := by decide +kernel
theorem dX7_first_2 : decode cX7_first 2 = .ok (.iload_n 2, 1) := by decide +kernel
theorem dX7_first_3 : decode cX7_first 3 = .ok (.iload_n 3, 1) := by decide +kernel
theorem dX7_first_4 : decode cX7_first 4 = .ok (.iload 4, 2) := by decide +kernel
theorem dX7_first_6 : decode cX7_first 6 = .ok (.invokevirtual 190, 3) := by decide +kernel
theorem dX7_first_9 : decode cX7_first 9 = .ok (.iconst 0, 1) := by decide +kernel
theorem dX7_first_10 : decode cX7_first 10 = .ok (.istore 5, 2) := by decide +kernel
theorem dX7_first_12 : decode cX7_first 12 = .ok (.iload 5, 2) := by decide +kernel
theorem dX7_first_14 : decode cX7_first 14 = .ok (.iconst 4, 1) := by decide +kernel
theorem dX7_first_15 : decode cX7_first 15 = .ok (.if_icmp .ge 38, 3) := by decide +kernel
theorem dX7_first_18 : decode cX7_first 18 = .ok (.aload_n 0, 1) := by decide +kernel
theorem dX7_first_19 : decode cX7_first 19 = .ok (.getfield 59, 3) := by decide +kernel
theorem dX7_first_22 : decode cX7_first 22 = .ok (.iload 5, 2) := by decide +kernel
theorem dX7_first_24 : decode cX7_first 24 = .ok (.iaload, 1) := by decide +kernel
theorem dX7_first_25 : decode cX7_first 25 = .ok (.ldc 200, 2) := by decide +kernel
theorem dX7_first_27 : decode cX7_first 27 = .ok (.if_icmp .eq 26, 3) := by decide +kernel
theorem dX7_first_30 : decode cX7_first 30 = .ok (.aload_n 0, 1) := by decide +kernel
theorem dX7_first_31 : decode cX7_first 31 = .ok (.aload_n 0, 1) := by decide +kernel
theorem dX7_first_32 : decode cX7_first 32 = .ok (.getfield 59, 3) := by decide +kernel
theorem dX7_first_35 : decode cX7_first 35 = .ok (.iload 5, 2) := by decide +kernel
theorem dX7_first_37 : decode cX7_first 37 = .ok (.iaload, 1) := by decide +kernel
theorem dX7_first_38 : decode cX7_first 38 = .ok (.invokevirtual 136, 3) := by decide +kernel
theorem dX7_first_41 : decode cX7_first 41 = .ok (.ifCond .ne 6, 3) := by decide +kernel
theorem dX7_first_44 : decode cX7_first 44 = .ok (.ldc 112, 2) := by decide +kernel
theorem dX7_first_46 : decode cX7_first 46 = .ok (.ireturn, 1) := by decide +kernel
theorem dX7_first_47 : decode cX7_first 47 = .ok (.iinc 5 1, 3) := by decide +kernel
theorem dX7_first_50 : decode cX7_first 50 = .ok (.goto (-38), 3) := by decide +kernel
theorem dX7_first_53 : decode cX7_first 53 = .ok (.aload_n 0, 1) := by decide +kernel
theorem dX7_first_54 : decode cX7_first 54 = .ok (.getfield 98, 3) := by decide +kernel
theorem dX7_first_57 : decode cX7_first 57 = .ok (.ifCond .ne 6, 3) := by decide +kernel
theorem dX7_first_60 : decode cX7_first 60 = .ok (.ldc 161, 2) := by decide +kernel
theorem dX7_first_62 : decode cX7_first 62 = .ok (.ireturn, 1) := by decide +kernel
theorem dX7_first_63 : decode cX7_first 63 = .ok (.iconst 0, 1) := by decide +kernel
theorem dX7_first_64 : decode cX7_first 64 = .ok (.istore 6, 2) := by decide +kernel
theorem dX7_first_66 : decode cX7_first 66 = .ok (.iconst 1, 1) := by decide +kernel
theorem dX7_first_67 : decode cX7_first 67 = .ok (.istore 7, 2) := by decide +kernel
theorem dX7_first_69 : decode cX7_first 69 = .ok (.iload 7, 2) := by decide +kernel
theorem dX7_first_71 : decode cX7_first 71 = .ok (.aload_n 0, 1) := by decide +kernel
theorem dX7_first_72 : decode cX7_first 72 = .ok (.getfield 98, 3) := by decide +kernel
theorem dX7_first_75 : decode cX7_first 75 = .ok (.if_icmp .ge 31, 3) := by decide +kernel
theorem dX7_first_78 : decode cX7_first 78 = .ok (.aload_n 0, 1) := by decide +kernel
theorem dX7_first_79 : decode cX7_first 79 = .ok (.iload 7, 2) := by decide +kernel
theorem dX7_first_81 : decode cX7_first 81 = .ok (.iload 6, 2) := by decide +kernel
theorem dX7_first_83 : decode cX7_first 83 = .ok (.iload 5, 2) := by decide +kernel
theorem dX7_first_85 : decode cX7_first 85 = .ok (.invokevirtual 201, 3) := by decide +kernel
theorem dX7_first_88 : decode cX7_first 88 = .ok (.ifCond .eq 8, 3) := by decide +kernel
theorem dX7_first_91 : decode cX7_first 91 = .ok (.iload 7, 2) := by decide +kernel
theorem dX7_first_93 : decode cX7_first 93 = .ok (.goto 5, 3) := by decide +kernel
theorem dX7_first_96 : decode cX7_first 96 = .ok (.iload 6, 2) := by decide +kernel
theorem dX7_first_98 : decode cX7_first 98 = .ok (.istore 6, 2) := by decide +kernel
theorem dX7_first_100 : decode cX7_first 100 = .ok (.iinc 7 1, 3) := by decide +kernel
theorem dX7_first_103 : decode cX7_first 103 = .ok (.goto (-34), 3) := by decide +kernel
theorem dX7_first_106 : decode cX7_first 106 = .ok (.iload 6, 2) := by decide +kernel
theorem dX7_first_108 : decode cX7_first 108 = .ok (.ireturn, 1) := by decide +kernel
set_option maxRecDepth 20000 in
theorem ggX7_under_X7_take : GoodIn wsX7_under wsX7_take := goodIn_r _ [9, 3, 20, 21, 22, 23, 24, 25, 26, 27, 28, 29, 30, 31, 32, 33, 34, 35, 36, 37, 38, 39, 40, 41, 42, 43, 44, 45, 46, 47, 48, 49] (by decide +kernel) (by decide +kernel)
set_option maxRecDepth 20000 in
theorem gX7_under_X7_take : GoodIn wsX7_under (wsV RX7 190 RX7 yX7_take wsX7_take) := goodIn_app (goodIn_of _ (by decide +kernel)) ggX7_under_X7_take
set_option maxRecDepth 20000 in
theorem ggX7_under_X7_at : GoodIn wsX7_under wsX7_at := goodIn_r _ [13, 14, 15, 16, 17, 8, 18, 19, 20, 21, 22, 23, 24, 25, 26, 27, 28, 29, 30, 31, 32, 33, 34, 35, 36, 37, 38, 39, 40, 41, 42, 43, 44, 45, 46, 47, 48, 49] (by decide +kernel) (by decide +kernel)
set_option maxRecDepth 20000 in
theorem gX7_under_X7_at : GoodIn wsX7_under (wsV RX7 176 RX7 yX7_at wsX7_at) := goodIn_app (goodIn_of _ (by decide +kernel)) ggX7_under_X7_at
theorem dX7_under_0 : decode cX7_under 0 = .ok (.aload_n 0, 1) := by decide +kernel
theorem dX7_under_1 : decode cX7_under 1 = .ok (.iload_n 1, 1) := by decide +kernel
theorem dX7_under_2 : decode cX7_under 2 = .ok (.iload_n 2, 1) := by decide +kernel
theorem dX7_under_3 : decode cX7_under 3 = .ok (.iload_n 3, 1) := by decide +kernel
theorem dX7_under_4 : decode cX7_under 4 = .ok (.iload 4, 2) := by decide +kernel
theorem dX7_under_6 : decode cX7_under 6 = .ok (.invokevirtual 190, 3) := by decide +kernel
theorem dX7_under_9 : decode cX7_under 9 = .ok (.iconst 0, 1) := by decide +kernel
theorem dX7_under_10 : decode cX7_under 10 = .ok (.istore 5, 2) := by decide +kernel
theorem dX7_under_12 : decode cX7_under 12 = .ok (.iload 5, 2) := by decide +kernel
theorem dX7_under_14 : decode cX7_under 14 = .ok (.aload_n 0, 1) := by decide +kernel
theorem dX7_under_15 : decode cX7_under 15 = .ok (.getfield 98, 3) := by decide +kernel
theorem dX7_under_18 : decode cX7_under 18 = .ok (.if_icmp .ge 68, 3) := by decide +kernel
theorem dX7_under_21 : decode cX7_under 21 = .ok (.iconst 1, 1) := by decide +kernel
theorem dX7_under_22 : decode cX7_under 22 = .ok (.istore 6, 2) := by decide +kernel
theorem dX7_under_24 : decode cX7_under 24 = .ok (.iconst 0, 1) := by decide +kernel
theorem dX7_under_25 : decode cX7_under 25 = .ok (.istore 7, 2) := by decide +kernel
theorem dX7_under_27 : decode cX7_under 27 = .ok (.iload 7, 2) := by decide +kernel
theorem dX7_under_29 : decode cX7_under 29 = .ok (.aload_n 0, 1) := by decide +kernel
theorem dX7_under_30 : decode cX7_under 30 = .ok (.getfield 89, 3) := by decide +kernel
theorem dX7_under_33 : decode cX7_under 33 = .ok (.if_icmp .ge 39, 3) := by decide +kernel
theorem dX7_under_36 : decode cX7_under 36 = .ok (.iload 6, 2) := by decide +kernel
theorem dX7_under_38 : decode cX7_under 38 = .ok (.ifCond .eq 25, 3) := by decide +kernel
theorem dX7_under_41 : decode cX7_under 41 = .ok (.aload_n 0, 1) := by decide +kernel
theorem dX7_under_42 : decode cX7_under 42 = .ok (.iload 5, 2) := by decide +kernel
theorem dX7_under_44 : decode cX7_under 44 = .ok (.iload 7, 2) := by decide +kernel
theorem dX7_under_46 : decode cX7_under 46 = .ok (.invokevirtual 176, 3) := by decide +kernel
theorem dX7_under_49 : decode cX7_under 49 = .ok (.aload_n 0, 1) := by decide +kernel
theorem dX7_under_50 : decode cX7_under 50 = .ok (.getfield 59, 3) := by decide +kernel
theorem dX7_under_53 : decode cX7_under 53 = .ok (.iload 7, 2) := by decide +kernel
theorem dX7_under_55 : decode cX7_under 55 = .ok (.iaload, 1) := by decide +kernel
theorem dX7_under_56 : decode cX7_under 56 = .ok (.if_icmp .gt 7, 3) := by decide +kernel
theorem dX7_under_59 : decode cX7_under 59 = .ok (.iconst 1, 1) := by decide +kernel
theorem dX7_under_60 : decode cX7_under 60 = .ok (.goto 4, 3) := by decide +kernel
theorem dX7_under_63 : decode cX7_under 63 = .ok (.iconst 0, 1) := by decide +kernel
theorem dX7_under_64 : decode cX7_under 64 = .ok (.istore 6, 2) := by decide +kernel
theorem dX7_under_66 : decode cX7_under 66 = .ok (.iinc 7 1, 3) := by decide +kernel
theorem dX7_under_69 : decode cX7_under 69 = .ok (.goto (-42), 3) := by decide +kernel
theorem dX7_under_72 : decode cX7_under 72 = .ok (.iload 6, 2) := by decide +kernel
theorem dX7_under_74 : decode cX7_under 74 = .ok (.ifCond .eq 6, 3) := by decide +kernel
theorem dX7_under_77 : decode cX7_under 77 = .ok (.iload 5, 2) := by decide +kernel
theorem dX7_under_79 : decode cX7_under 79 = .ok (.ireturn, 1) := by decide +kernel
theorem dX7_under_80 : decode cX7_under 80 = .ok (.iinc 5 1, 3) := by decide +kernel
theorem dX7_under_83 : decode cX7_under 83 = .ok (.goto (-71), 3) := by decide +kernel
theorem dX7_under_86 : decode cX7_under 86 = .ok (.ldc 200, 2) := by decide +kernel
theorem dX7_under_88 : decode cX7_under 88 = .ok (.ireturn, 1) := by decide +kernel
set_option maxRecDepth 20000 in
theorem ggX7_near_X7_at : GoodIn wsX7_near wsX7_at := goodIn_r _ [6, 7, 8, 9, 10, 5, 11, 12, 13, 14, 15, 16, 17, 18, 19, 20, 21, 22, 23, 24, 25, 26, 27, 28, 29, 30, 31, 32, 33, 34, 35, 36, 37, 38, 39, 40, 41, 42] (by decide +kernel) (by decide +kernel)
set_option maxRecDepth 20000 in
theorem gX7_near_X7_at : GoodIn wsX7_near (wsV RX7 176 RX7 yX7_at wsX7_at) := goodIn_app (goodIn_of _ (by decide +kernel)) ggX7_near_X7_at
theorem dX7_near_0 : decode cX7_near 0 = .ok (.iconst 1, 1) := by decide +kernel
theorem dX7_near_1 : decode cX7_near 1 = .ok (.istore 4, 2) := by decide +kernel
theorem dX7_near_3 : decode cX7_near 3 = .ok (.iconst 0, 1) := by decide +kernel
theorem dX7_near_4 : decode cX7_near 4 = .ok (.istore 5, 2) := by decide +kernel
theorem dX7_near_6 : decode cX7_near 6 = .ok (.iload 5, 2) := by decide +kernel
theorem dX7_near_8 : decode cX7_near 8 = .ok (.aload_n 0, 1) := by decide +kernel
theorem dX7_near_9 : decode cX7_near 9 = .ok (.getfield 89, 3) := by decide +kernel
theorem dX7_near_12 : decode cX7_near 12 = .ok (.if_icmp .ge 40, 3) := by decide +kernel
theorem dX7_near_15 : decode cX7_near 15 = .ok (.iload 4, 2) := by decide +kernel
theorem dX7_near_17 : decode cX7_near 17 = .ok (.ifCond .eq 26, 3) := by decide +kernel
theorem dX7_near_20 : decode cX7_near 20 = .ok (.aload_n 0, 1) := by decide +kernel
theorem dX7_near_21 : decode cX7_near 21 = .ok (.iload_n 1, 1) := by decide +kernel
theorem dX7_near_22 : decode cX7_near 22 = .ok (.iload 5, 2) := by decide +kernel
theorem dX7_near_24 : decode cX7_near 24 = .ok (.invokevirtual 176, 3) := by decide +kernel
theorem dX7_near_27 : decode cX7_near 27 = .ok (.aload_n 0, 1) := by decide +kernel
theorem dX7_near_28 : decode cX7_near 28 = .ok (.iload_n 2, 1) := by decide +kernel
theorem dX7_near_29 : decode cX7_near 29 = .ok (.iload 5, 2) := by decide +kernel
theorem dX7_near_31 : decode cX7_near 31 = .ok (.invokevirtual 176, 3) := by decide +kernel
theorem dX7_near_34 : decode cX7_near 34 = .ok (.isub, 1) := by decide +kernel
theorem dX7_near_35 : decode cX7_near 35 = .ok (.iload_n 3, 1) := by decide +kernel
theorem dX7_near_36 : decode cX7_near 36 = .ok (.if_icmp .gt 7, 3) := by decide +kernel
theorem dX7_near_39 : decode cX7_near 39 = .ok (.iconst 1, 1) := by decide +kernel
theorem dX7_near_40 : decode cX7_near 40 = .ok (.goto 4, 3) := by decide +kernel
theorem dX7_near_43 : decode cX7_near 43 = .ok (.iconst 0, 1) := by decide +kernel
theorem dX7_near_44 : decode cX7_near 44 = .ok (.istore 4, 2) := by decide +kernel
theorem dX7_near_46 : decode cX7_near 46 = .ok (.iinc 5 1, 3) := by decide +kernel
theorem dX7_near_49 : decode cX7_near 49 = .ok (.goto (-43), 3) := by decide +kernel
theorem dX7_near_52 : decode cX7_near 52 = .ok (.iload 4, 2) := by decide +kernel
theorem dX7_near_54 : decode cX7_near 54 = .ok (.ireturn, 1) := by decide +kernel
set_option maxRecDepth 20000 in
theorem ggX7_cover_X7_in : GoodIn wsX7_cover wsX7_in := goodIn_r _ [11] (by decide +kernel) (by decide +kernel)
set_option maxRecDepth 20000 in
theorem gX7_cover_X7_in : GoodIn wsX7_cover (va_wsS RX7 82 yX7_in wsX7_in) := goodIn_app (goodIn_of _ (by decide +kernel)) ggX7_cover_X7_in
set_option maxRecDepth 20000 in
theorem ggX7_cover_X7_near : GoodIn wsX7_cover wsX7_near := goodIn_r _ [15, 16, 17, 18, 19, 10, 20, 21, 22, 23, 24, 25, 26, 27, 28, 29, 30, 31, 32, 33, 34, 35, 36, 37, 38, 39, 40, 41, 42, 43, 44, 45, 46, 47, 48, 49, 50, 51, 52, 53, 54, 55, 56] (by decide +kernel) (by decide +kernel)
set_option maxRecDepth 20000 in
theorem gX7_cover_X7_near : GoodIn wsX7_cover (wsV RX7 207 RX7 yX7_near wsX7_near) := goodIn_app (goodIn_of _ (by decide +kernel)) ggX7_cover_X7_near
theorem dX7_cover_0 : decode cX7_cover 0 = .ok (.iload_n 1, 1) := by decide +kernel
theorem dX7_cover_1 : decode cX7_cover 1 = .ok (.i2l, 1) := by decide +kernel
theorem dX7_cover_2 : decode cX7_cover 2 = .ok (.lconst 0, 1) := by decide +kernel
theorem dX7_cover_3 : decode cX7_cover 3 = .ok (.ldc2_w 205, 3) := by decide +kernel
theorem dX7_cover_6 : decode cX7_cover 6 = .ok (.invokestatic 82, 3) := by decide +kernel
theorem dX7_cover_9 : decode cX7_cover 9 = .ok (.ifCond .ne 6, 3) := by decide +kernel
theorem dX7_cover_12 : decode cX7_cover 12 = .ok (.ldc 112, 2) := by decide +kernel
theorem dX7_cover_14 : decode cX7_cover 14 = .ok (.ireturn, 1) := by decide +kernel
theorem dX7_cover_15 : decode cX7_cover 15 = .ok (.aload_n 0, 1) := by decide +kernel
theorem dX7_cover_16 : decode cX7_cover 16 = .ok (.getfield 98, 3) := by decide +kernel
theorem dX7_cover_19 : decode cX7_cover 19 = .ok (.bipush 100, 2) := by decide +kernel
theorem dX7_cover_21 : decode cX7_cover 21 = .ok (.if_icmp .le 6, 3) := by decide +kernel
theorem dX7_cover_24 : decode cX7_cover 24 = .ok (.ldc 161, 2) := by decide +kernel
theorem dX7_cover_26 : decode cX7_cover 26 = .ok (.ireturn, 1) := by decide +kernel
theorem dX7_cover_27 : decode cX7_cover 27 = .ok (.iconst 0, 1) := by decide +kernel
theorem dX7_cover_28 : decode cX7_cover 28 = .ok (.istore_n 2, 1) := by decide +kernel
theorem dX7_cover_29 : decode cX7_cover 29 = .ok (.iload_n 2, 1) := by decide +kernel
theorem dX7_cover_30 : decode cX7_cover 30 = .ok (.aload_n 0, 1) := by decide +kernel
theorem dX7_cover_31 : decode cX7_cover 31 = .ok (.getfield 98, 3) := by decide +kernel
theorem dX7_cover_34 : decode cX7_cover 34 = .ok (.if_icmp .ge 16, 3) := by decide +kernel
theorem dX7_cover_37 : decode cX7_cover 37 = .ok (.aload_n 0, 1) := by decide +kernel
theorem dX7_cover_38 : decode cX7_cover 38 = .ok (.getfield 62, 3) := by decide +kernel
theorem dX7_cover_41 : decode cX7_cover 41 = .ok (.iload_n 2, 1) := by decide +kernel
theorem dX7_cover_42 : decode cX7_cover 42 = .ok (.iconst 0, 1) := by decide +kernel
theorem dX7_cover_43 : decode cX7_cover 43 = .ok (.bastore, 1) := by decide +kernel
theorem dX7_cover_44 : decode cX7_cover 44 = .ok (.iinc 2 1, 3) := by decide +kernel
theorem dX7_cover_47 : decode cX7_cover 47 = .ok (.goto (-18), 3) := by decide +kernel
theorem dX7_cover_50 : decode cX7_cover 50 = .ok (.aload_n 0, 1) := by decide +kernel
theorem dX7_cover_51 : decode cX7_cover 51 = .ok (.iconst 0, 1) := by decide +kernel
theorem dX7_cover_52 : decode cX7_cover 52 = .ok (.putfield 101, 3) := by decide +kernel
theorem dX7_cover_55 : decode cX7_cover 55 = .ok (.aload_n 0, 1) := by decide +kernel
theorem dX7_cover_56 : decode cX7_cover 56 = .ok (.getfield 98, 3) := by decide +kernel
theorem dX7_cover_59 : decode cX7_cover 59 = .ok (.istore_n 2, 1) := by decide +kernel
theorem dX7_cover_60 : decode cX7_cover 60 = .ok (.iload_n 2, 1) := by decide +kernel
theorem dX7_cover_61 : decode cX7_cover 61 = .ok (.ifCond .le 188, 3) := by decide +kernel
theorem dX7_cover_64 : decode cX7_cover 64 = .ok (.iconst 0, 1) := by decide +kernel
theorem dX7_cover_65 : decode cX7_cover 65 = .ok (.istore_n 3, 1) := by decide +kernel
theorem dX7_cover_66 : decode cX7_cover 66 = .ok (.iconst 0, 1) := by decide +kernel
theorem dX7_cover_67 : decode cX7_cover 67 = .ok (.istore 4, 2) := by decide +kernel
theorem dX7_cover_69 : decode cX7_cover 69 = .ok (.iconst 0, 1) := by decide +kernel
theorem dX7_cover_70 : decode cX7_cover 70 = .ok (.istore 5, 2) := by decide +kernel
theorem dX7_cover_72 : decode cX7_cover 72 = .ok (.iload 5, 2) := by decide +kernel
theorem dX7_cover_74 : decode cX7_cover 74 = .ok (.aload_n 0, 1) := by decide +kernel
theorem dX7_cover_75 : decode cX7_cover 75 = .ok (.getfield 98, 3) := by decide +kernel
theorem dX7_cover_78 : decode cX7_cover 78 = .ok (.if_icmp .ge 92, 3) := by decide +kernel
theorem dX7_cover_81 : decode cX7_cover 81 = .ok (.iconst 0, 1) := by decide +kernel
theorem dX7_cover_82 : decode cX7_cover 82 = .ok (.istore 6, 2) := by decide +kernel
theorem dX7_cover_84 : decode cX7_cover 84 = .ok (.iconst 0, 1) := by decide +kernel
theorem dX7_cover_85 : decode cX7_cover 85 = .ok (.istore 7, 2) := by decide +kernel
theorem dX7_cover_87 : decode cX7_cover 87 = .ok (.iload 7, 2) := by decide +kernel
theorem dX7_cover_89 : decode cX7_cover 89 = .ok (.aload_n 0, 1) := by decide +kernel
theorem dX7_cover_90 : decode cX7_cover 90 = .ok (.getfield 98, 3) := by decide +kernel
theorem dX7_cover_93 : decode cX7_cover 93 = .ok (.if_icmp .ge 41, 3) := by decide +kernel
theorem dX7_cover_96 : decode cX7_cover 96 = .ok (.iload 6, 2) := by decide +kernel
theorem dX7_cover_98 : decode cX7_cover 98 = .ok (.aload_n 0, 1) := by decide +kernel
theorem dX7_cover_99 : decode cX7_cover 99 = .ok (.getfield 62, 3) := by decide +kernel
theorem dX7_cover_102 : decode cX7_cover 102 = .ok (.iload 7, 2) := by decide +kernel
theorem dX7_cover_104 : decode cX7_cover 104 = .ok (.baload, 1) := by decide +kernel
theorem dX7_cover_105 : decode cX7_cover 105 = .ok (.ifCond .ne 19, 3) := by decide +kernel
theorem dX7_cover_108 : decode cX7_cover 108 = .ok (.aload_n 0, 1) := by decide +kernel
theorem dX7_cover_109 : decode cX7_cover 109 = .ok (.iload 5, 2) := by decide +kernel
theorem dX7_cover_111 : decode cX7_cover 111 = .ok (.iload 7, 2) := by decide +kernel
theorem dX7_cover_113 : decode cX7_cover 113 = .ok (.iload_n 1, 1) := by decide +kernel
theorem dX7_cover_114 : decode cX7_cover 114 = .ok (.invokevirtual 207, 3) := by decide +kernel
theorem dX7_cover_117 : decode cX7_cover 117 = .ok (.ifCond .eq 7, 3) := by decide +kernel
theorem dX7_cover_120 : decode cX7_cover 120 = .ok (.iconst 1, 1) := by decide +kernel
theorem dX7_cover_121 : decode cX7_cover 121 = .ok (.goto 4, 3) := by decide +kernel
theorem dX7_cover_124 : decode cX7_cover 124 = .ok (.iconst 0, 1) := by decide +kernel
theorem dX7_cover_125 : decode cX7_cover 125 = .ok (.iadd, 1) := by decide +kernel
theorem dX7_cover_126 : decode cX7_cover 126 = .ok (.istore 6, 2) := by decide +kernel
theorem dX7_cover_128 : decode cX7_cover 128 = .ok (.iinc 7 1, 3) := by decide +kernel
theorem dX7_cover_131 : decode cX7_cover 131 = .ok (.goto (-44), 3) := by decide +kernel
theorem dX7_cover_134 : decode cX7_cover 134 = .ok (.iload 6, 2) := by decide +kernel
theorem dX7_cover_136 : decode cX7_cover 136 = .ok (.iload 4, 2) := by decide +kernel
theorem dX7_cover_138 : decode cX7_cover 138 = .ok (.if_icmp .le 8, 3) := by decide +kernel
theorem dX7_cover_141 : decode cX7_cover 141 = .ok (.iload 5, 2) := by decide +kernel
theorem dX7_cover_143 : decode cX7_cover 143 = .ok (.goto 4, 3) := by decide +kernel
theorem dX7_cover_146 : decode cX7_cover 146 = .ok (.iload_n 3, 1) := by decide +kernel
theorem dX7_cover_147 : decode cX7_cover 147 = .ok (.istore_n 3, 1) := by decide +kernel
theorem dX7_cover_148 : decode cX7_cover 148 = .ok (.iload 6, 2) := by decide +kernel
theorem dX7_cover_150 : decode cX7_cover 150 = .ok (.iload 4, 2) := by decide +kernel
theorem dX7_cover_152 : decode cX7_cover 152 = .ok (.if_icmp .le 8, 3) := by decide +kernel
theorem dX7_cover_155 : decode cX7_cover 155 = .ok (.iload 6, 2) := by decide +kernel
theorem dX7_cover_157 : decode cX7_cover 157 = .ok (.goto 5, 3) := by decide +kernel
theorem dX7_cover_160 : decode cX7_cover 160 = .ok (.iload 4, 2) := by decide +kernel
theorem dX7_cover_162 : decode cX7_cover 162 = .ok (.istore 4, 2) := by decide +kernel
theorem dX7_cover_164 : decode cX7_cover 164 = .ok (.iinc 5 1, 3) := by decide +kernel
theorem dX7_cover_167 : decode cX7_cover 167 = .ok (.goto (-95), 3) := by decide +kernel
theorem dX7_cover_170 : decode cX7_cover 170 = .ok (.iconst 0, 1) := by decide +kernel
theorem dX7_cover_171 : decode cX7_cover 171 = .ok (.istore 5, 2) := by decide +kernel
theorem dX7_cover_173 : decode cX7_cover 173 = .ok (.iload 5, 2) := by decide +kernel
theorem dX7_cover_175 : decode cX7_cover 175 = .ok (.aload_n 0, 1) := by decide +kernel
theorem dX7_cover_176 : decode cX7_cover 176 = .ok (.getfield 98, 3) := by decide +kernel
theorem dX7_cover_179 : decode cX7_cover 179 = .ok (.if_icmp .ge 42, 3) := by decide +kernel
theorem dX7_cover_182 : decode cX7_cover 182 = .ok (.aload_n 0, 1) := by decide +kernel
theorem dX7_cover_183 : decode cX7_cover 183 = .ok (.getfield 62, 3) := by decide +kernel
theorem dX7_cover_186 : decode cX7_cover 186 = .ok (.iload 5, 2) := by decide +kernel
theorem dX7_cover_188 : decode cX7_cover 188 = .ok (.aload_n 0, 1) := by decide +kernel
theorem dX7_cover_189 : decode cX7_cover 189 = .ok (.getfield 62, 3) := by decide +kernel
theorem dX7_cover_192 : decode cX7_cover 192 = .ok (.iload 5, 2) := by decide +kernel
theorem dX7_cover_194 : decode cX7_cover 194 = .ok (.baload, 1) := by decide +kernel
theorem dX7_cover_195 : decode cX7_cover 195 = .ok (.ifCond .ne 14, 3) := by decide +kernel
theorem dX7_cover_198 : decode cX7_cover 198 = .ok (.aload_n 0, 1) := by decide +kernel
theorem dX7_cover_199 : decode cX7_cover 199 = .ok (.iload_n 3, 1) := by decide +kernel
theorem dX7_cover_200 : decode cX7_cover 200 = .ok (.iload 5, 2) := by decide +kernel
theorem dX7_cover_202 : decode cX7_cover 202 = .ok (.iload_n 1, 1) := by decide +kernel
theorem dX7_cover_203 : decode cX7_cover 203 = .ok (.invokevirtual 207, 3) := by decide +kernel
theorem dX7_cover_206 : decode cX7_cover 206 = .ok (.ifCond .eq 7, 3) := by decide +kernel
theorem dX7_cover_209 : decode cX7_cover 209 = .ok (.iconst 1, 1) := by decide +kernel
theorem dX7_cover_210 : decode cX7_cover 210 = .ok (.goto 4, 3) := by decide +kernel
theorem dX7_cover_213 : decode cX7_cover 213 = .ok (.iconst 0, 1) := by decide +kernel
theorem dX7_cover_214 : decode cX7_cover 214 = .ok (.bastore, 1) := by decide +kernel
theorem dX7_cover_215 : decode cX7_cover 215 = .ok (.iinc 5 1, 3) := by decide +kernel
theorem dX7_cover_218 : decode cX7_cover 218 = .ok (.goto (-45), 3) := by decide +kernel
theorem dX7_cover_221 : decode cX7_cover 221 = .ok (.aload_n 0, 1) := by decide +kernel
theorem dX7_cover_222 : decode cX7_cover 222 = .ok (.getfield 43, 3) := by decide +kernel
theorem dX7_cover_225 : decode cX7_cover 225 = .ok (.aload_n 0, 1) := by decide +kernel
theorem dX7_cover_226 : decode cX7_cover 226 = .ok (.getfield 101, 3) := by decide +kernel
theorem dX7_cover_229 : decode cX7_cover 229 = .ok (.iload_n 3, 1) := by decide +kernel
theorem dX7_cover_230 : decode cX7_cover 230 = .ok (.iastore, 1) := by decide +kernel
theorem dX7_cover_231 : decode cX7_cover 231 = .ok (.aload_n 0, 1) := by decide +kernel
theorem dX7_cover_232 : decode cX7_cover 232 = .ok (.dup, 1) := by decide +kernel
theorem dX7_cover_233 : decode cX7_cover 233 = .ok (.getfield 101, 3) := by decide +kernel
theorem dX7_cover_236 : decode cX7_cover 236 = .ok (.iconst 1, 1) := by decide +kernel
theorem dX7_cover_237 : decode cX7_cover 237 = .ok (.iadd, 1) := by decide +kernel
theorem dX7_cover_238 : decode cX7_cover 238 = .ok (.putfield 101, 3) := by decide +kernel
theorem dX7_cover_241 : decode cX7_cover 241 = .ok (.iload_n 2, 1) := by decide +kernel
theorem dX7_cover_242 : decode cX7_cover 242 = .ok (.iload 4, 2) := by decide +kernel
theorem dX7_cover_244 : decode cX7_cover 244 = .ok (.isub, 1) := by decide +kernel
theorem dX7_cover_245 : decode cX7_cover 245 = .ok (.istore_n 2, 1) := by decide +kernel
theorem dX7_cover_246 : decode cX7_cover 246 = .ok (.goto (-186), 3) := by decide +kernel
theorem dX7_cover_249 : decode cX7_cover 249 = .ok (.aload_n 0, 1) := by decide +kernel
theorem dX7_cover_250 : decode cX7_cover 250 = .ok (.getfield 101, 3) := by decide +kernel
theorem dX7_cover_253 : decode cX7_cover 253 = .ok (.ireturn, 1) := by decide +kernel
set_option maxRecDepth 20000 in
theorem ggX7_picked_X7_in : GoodIn wsX7_picked wsX7_in := goodIn_r _ [7] (by decide +kernel) (by decide +kernel)
set_option maxRecDepth 20000 in
theorem gX7_picked_X7_in : GoodIn wsX7_picked (va_wsS RX7 82 yX7_in wsX7_in) := goodIn_app (goodIn_of _ (by decide +kernel)) ggX7_picked_X7_in
theorem dX7_picked_0 : decode cX7_picked 0 = .ok (.iload_n 1, 1) := by decide +kernel
theorem dX7_picked_1 : decode cX7_picked 1 = .ok (.i2l, 1) := by decide +kernel
theorem dX7_picked_2 : decode cX7_picked 2 = .ok (.lconst 0, 1) := by decide +kernel
theorem dX7_picked_3 : decode cX7_picked 3 = .ok (.aload_n 0, 1) := by decide +kernel
theorem dX7_picked_4 : decode cX7_picked 4 = .ok (.getfield 101, 3) := by decide +kernel
theorem dX7_picked_7 : decode cX7_picked 7 = .ok (.iconst 1, 1) := by decide +kernel
theorem dX7_picked_8 : decode cX7_picked 8 = .ok (.isub, 1) := by decide +kernel
theorem dX7_picked_9 : decode cX7_picked 9 = .ok (.i2l, 1) := by decide +kernel
theorem dX7_picked_10 : decode cX7_picked 10 = .ok (.invokestatic 82, 3) := by decide +kernel
theorem dX7_picked_13 : decode cX7_picked 13 = .ok (.ifCond .eq 12, 3) := by decide +kernel
theorem dX7_picked_16 : decode cX7_picked 16 = .ok (.aload_n 0, 1) := by decide +kernel
theorem dX7_picked_17 : decode cX7_picked 17 = .ok (.getfield 43, 3) := by decide +kernel
theorem dX7_picked_20 : decode cX7_picked 20 = .ok (.iload_n 1, 1) := by decide +kernel
theorem dX7_picked_21 : decode cX7_picked 21 = .ok (.iaload, 1) := by decide +kernel
theorem dX7_picked_22 : decode cX7_picked 22 = .ok (.goto 5, 3) := by decide +kernel
theorem dX7_picked_25 : decode cX7_picked 25 = .ok (.ldc 112, 2) := by decide +kernel
theorem dX7_picked_27 : decode cX7_picked 27 = .ok (.ireturn, 1) := by decide +kernel
set_option maxRecDepth 20000 in
theorem ggX7_findNumbers_X7_least : GoodIn wsX7_findNumbers wsX7_least := goodIn_r _ [8, 9, 10, 11, 12, 7, 13, 14, 15, 16, 17, 18, 19, 28, 29, 30, 31, 32, 33, 34, 35, 36, 37, 38, 39, 40, 41, 42, 43, 44, 45, 46, 47, 48, 49, 50, 51, 52, 53, 54, 55, 56, 57] (by decide +kernel) (by decide +kernel)
set_option maxRecDepth 20000 in
theorem gX7_findNumbers_X7_least : GoodIn wsX7_findNumbers (wsV RX7 179 RX7 yX7_least wsX7_least) := goodIn_app (goodIn_of _ (by decide +kernel)) ggX7_findNumbers_X7_least
set_option maxRecDepth 20000 in
theorem ggX7_findNumbers_X7_greatest : GoodIn wsX7_findNumbers wsX7_greatest := goodIn_r _ [23, 9, 10, 11, 12, 7, 13, 14, 15, 16, 17, 18, 19, 28, 29, 30, 31, 32, 33, 34, 35, 36, 37, 38, 39, 40, 41, 42, 43, 44, 45, 46, 47, 48, 49, 50, 51, 52, 53, 54, 55, 56, 57] (by decide +kernel) (by decide +kernel)
set_option maxRecDepth 20000 in
theorem gX7_findNumbers_X7_greatest : GoodIn wsX7_findNumbers (wsV RX7 183 RX7 yX7_greatest wsX7_greatest) := goodIn_app (goodIn_of _ (by decide +kernel)) ggX7_findNumbers_X7_greatest
set_option maxRecDepth 20000 in
theorem ggX7_findNumbers_X7_next : GoodIn wsX7_findNumbers wsX7_next := goodIn_r _ [27, 9, 10, 11, 12, 7, 13, 14, 15, 16, 17, 18, 19, 28, 29, 30, 31, 32, 33, 34, 35, 36, 37, 38, 39, 40, 41, 42, 43, 44, 45, 46, 47, 48, 49, 50, 51, 52, 53, 54, 55, 56, 57] (by decide +kernel) (by decide +kernel)
set_option maxRecDepth 20000 in
theorem gX7_findNumbers_X7_next : GoodIn wsX7_findNumbers (wsV RX7 210 RX7 yX7_next wsX7_next) := goodIn_app (goodIn_of _ (by decide +kernel)) ggX7_findNumbers_X7_next
theorem dX7_findNumbers_0 : decode cX7_findNumbers 0 = .ok (.iconst 0, 1) := by decide +kernel
theorem dX7_findNumbers_1 : decode cX7_findNumbers 1 = .ok (.istore_n 1, 1) := by decide +kernel
theorem dX7_findNumbers_2 : decode cX7_findNumbers 2 = .ok (.iload_n 1, 1) := by decide +kernel
theorem dX7_findNumbers_3 : decode cX7_findNumbers 3 = .ok (.iconst 4, 1) := by decide +kernel
theorem dX7_findNumbers_4 : decode cX7_findNumbers 4 = .ok (.if_icmp .ge 16, 3) := by decide +kernel
theorem dX7_findNumbers_7 : decode cX7_findNumbers 7 = .ok (.aload_n 0, 1) := by decide +kernel
theorem dX7_findNumbers_8 : decode cX7_findNumbers 8 = .ok (.getfield 69, 3) := by decide +kernel
theorem dX7_findNumbers_11 : decode cX7_findNumbers 11 = .ok (.iload_n 1, 1) := by decide +kernel
theorem dX7_findNumbers_12 : decode cX7_findNumbers 12 = .ok (.iconst 0, 1) := by decide +kernel
theorem dX7_findNumbers_13 : decode cX7_findNumbers 13 = .ok (.iastore, 1) := by decide +kernel
theorem dX7_findNumbers_14 : decode cX7_findNumbers 14 = .ok (.iinc 1 1, 3) := by decide +kernel
theorem dX7_findNumbers_17 : decode cX7_findNumbers 17 = .ok (.goto (-15), 3) := by decide +kernel
theorem dX7_findNumbers_20 : decode cX7_findNumbers 20 = .ok (.iconst 0, 1) := by decide +kernel
theorem dX7_findNumbers_21 : decode cX7_findNumbers 21 = .ok (.istore_n 1, 1) := by decide +kernel
theorem dX7_findNumbers_22 : decode cX7_findNumbers 22 = .ok (.iload_n 1, 1) := by decide +kernel
theorem dX7_findNumbers_23 : decode cX7_findNumbers 23 = .ok (.aload_n 0, 1) := by decide +kernel
theorem dX7_findNumbers_24 : decode cX7_findNumbers 24 = .ok (.getfield 89, 3) := by decide +kernel
theorem dX7_findNumbers_27 : decode cX7_findNumbers 27 = .ok (.if_icmp .ge 93, 3) := by decide +kernel
theorem dX7_findNumbers_30 : decode cX7_findNumbers 30 = .ok (.aload_n 0, 1) := by decide +kernel
theorem dX7_findNumbers_31 : decode cX7_findNumbers 31 = .ok (.iload_n 1, 1) := by decide +kernel
theorem dX7_findNumbers_32 : decode cX7_findNumbers 32 = .ok (.invokevirtual 179, 3) := by decide +kernel
theorem dX7_findNumbers_35 : decode cX7_findNumbers 35 = .ok (.istore_n 2, 1) := by decide +kernel
theorem dX7_findNumbers_36 : decode cX7_findNumbers 36 = .ok (.aload_n 0, 1) := by decide +kernel
theorem dX7_findNumbers_37 : decode cX7_findNumbers 37 = .ok (.iload_n 1, 1) := by decide +kernel
theorem dX7_findNumbers_38 : decode cX7_findNumbers 38 = .ok (.invokevirtual 183, 3) := by decide +kernel
theorem dX7_findNumbers_41 : decode cX7_findNumbers 41 = .ok (.iconst 1, 1) := by decide +kernel
theorem dX7_findNumbers_42 : decode cX7_findNumbers 42 = .ok (.iadd, 1) := by decide +kernel
theorem dX7_findNumbers_43 : decode cX7_findNumbers 43 = .ok (.istore_n 3, 1) := by decide +kernel
theorem dX7_findNumbers_44 : decode cX7_findNumbers 44 = .ok (.iload_n 2, 1) := by decide +kernel
theorem dX7_findNumbers_45 : decode cX7_findNumbers 45 = .ok (.iload_n 3, 1) := by decide +kernel
theorem dX7_findNumbers_46 : decode cX7_findNumbers 46 = .ok (.if_icmp .ge 41, 3) := by decide +kernel
theorem dX7_findNumbers_49 : decode cX7_findNumbers 49 = .ok (.aload_n 0, 1) := by decide +kernel
theorem dX7_findNumbers_50 : decode cX7_findNumbers 50 = .ok (.getfield 66, 3) := by decide +kernel
theorem dX7_findNumbers_53 : decode cX7_findNumbers 53 = .ok (.bipush 13, 2) := by decide +kernel
theorem dX7_findNumbers_55 : decode cX7_findNumbers 55 = .ok (.iload_n 1, 1) := by decide +kernel
theorem dX7_findNumbers_56 : decode cX7_findNumbers 56 = .ok (.imul, 1) := by decide +kernel
theorem dX7_findNumbers_57 : decode cX7_findNumbers 57 = .ok (.aload_n 0, 1) := by decide +kernel
theorem dX7_findNumbers_58 : decode cX7_findNumbers 58 = .ok (.getfield 69, 3) := by decide +kernel
theorem dX7_findNumbers_61 : decode cX7_findNumbers 61 = .ok (.iload_n 1, 1) := by decide +kernel
theorem dX7_findNumbers_62 : decode cX7_findNumbers 62 = .ok (.iaload, 1) := by decide +kernel
theorem dX7_findNumbers_63 : decode cX7_findNumbers 63 = .ok (.iadd, 1) := by decide +kernel
theorem dX7_findNumbers_64 : decode cX7_findNumbers 64 = .ok (.iload_n 2, 1) := by decide +kernel
theorem dX7_findNumbers_65 : decode cX7_findNumbers 65 = .ok (.iastore, 1) := by decide +kernel
theorem dX7_findNumbers_66 : decode cX7_findNumbers 66 = .ok (.aload_n 0, 1) := by decide +kernel
theorem dX7_findNumbers_67 : decode cX7_findNumbers 67 = .ok (.getfield 69, 3) := by decide +kernel
theorem dX7_findNumbers_70 : decode cX7_findNumbers 70 = .ok (.iload_n 1, 1) := by decide +kernel
theorem dX7_findNumbers_71 : decode cX7_findNumbers 71 = .ok (.dup2, 1) := by decide +kernel
theorem dX7_findNumbers_72 : decode cX7_findNumbers 72 = .ok (.iaload, 1) := by decide +kernel
theorem dX7_findNumbers_73 : decode cX7_findNumbers 73 = .ok (.iconst 1, 1) := by decide +kernel
theorem dX7_findNumbers_74 : decode cX7_findNumbers 74 = .ok (.iadd, 1) := by decide +kernel
theorem dX7_findNumbers_75 : decode cX7_findNumbers 75 = .ok (.iastore, 1) := by decide +kernel
theorem dX7_findNumbers_76 : decode cX7_findNumbers 76 = .ok (.aload_n 0, 1) := by decide +kernel
theorem dX7_findNumbers_77 : decode cX7_findNumbers 77 = .ok (.iload_n 1, 1) := by decide +kernel
theorem dX7_findNumbers_78 : decode cX7_findNumbers 78 = .ok (.iload_n 2, 1) := by decide +kernel
theorem dX7_findNumbers_79 : decode cX7_findNumbers 79 = .ok (.iload_n 3, 1) := by decide +kernel
theorem dX7_findNumbers_80 : decode cX7_findNumbers 80 = .ok (.invokevirtual 210, 3) := by decide +kernel
theorem dX7_findNumbers_83 : decode cX7_findNumbers 83 = .ok (.istore_n 2, 1) := by decide +kernel
theorem dX7_findNumbers_84 : decode cX7_findNumbers 84 = .ok (.goto (-40), 3) := by decide +kernel
theorem dX7_findNumbers_87 : decode cX7_findNumbers 87 = .ok (.aload_n 0, 1) := by decide +kernel
theorem dX7_findNumbers_88 : decode cX7_findNumbers 88 = .ok (.getfield 66, 3) := by decide +kernel
theorem dX7_findNumbers_91 : decode cX7_findNumbers 91 = .ok (.bipush 13, 2) := by decide +kernel
theorem dX7_findNumbers_93 : decode cX7_findNumbers 93 = .ok (.iload_n 1, 1) := by decide +kernel
theorem dX7_findNumbers_94 : decode cX7_findNumbers 94 = .ok (.imul, 1) := by decide +kernel
theorem dX7_findNumbers_95 : decode cX7_findNumbers 95 = .ok (.aload_n 0, 1) := by decide +kernel
theorem dX7_findNumbers_96 : decode cX7_findNumbers 96 = .ok (.getfield 69, 3) := by decide +kernel
theorem dX7_findNumbers_99 : decode cX7_findNumbers 99 = .ok (.iload_n 1, 1) := by decide +kernel
theorem dX7_findNumbers_100 : decode cX7_findNumbers 100 = .ok (.iaload, 1) := by decide +kernel
theorem dX7_findNumbers_101 : decode cX7_findNumbers 101 = .ok (.iadd, 1) := by decide +kernel
theorem dX7_findNumbers_102 : decode cX7_findNumbers 102 = .ok (.iload_n 3, 1) := by decide +kernel
theorem dX7_findNumbers_103 : decode cX7_findNumbers 103 = .ok (.iastore, 1) := by decide +kernel
theorem dX7_findNumbers_104 : decode cX7_findNumbers 104 = .ok (.aload_n 0, 1) := by decide +kernel
theorem dX7_findNumbers_105 : decode cX7_findNumbers 105 = .ok (.getfield 69, 3) := by decide +kernel
theorem dX7_findNumbers_108 : decode cX7_findNumbers 108 = .ok (.iload_n 1, 1) := by decide +kernel
theorem dX7_findNumbers_109 : decode cX7_findNumbers 109 = .ok (.dup2, 1) := by decide +kernel
theorem dX7_findNumbers_110 : decode cX7_findNumbers 110 = .ok (.iaload, 1) := by decide +kernel
theorem dX7_findNumbers_111 : decode cX7_findNumbers 111 = .ok (.iconst 1, 1) := by decide +kernel
theorem dX7_findNumbers_112 : decode cX7_findNumbers 112 = .ok (.iadd, 1) := by decide +kernel
theorem dX7_findNumbers_113 : decode cX7_findNumbers 113 = .ok (.iastore, 1) := by decide +kernel
theorem dX7_findNumbers_114 : decode cX7_findNumbers 114 = .ok (.iinc 1 1, 3) := by decide +kernel
theorem dX7_findNumbers_117 : decode cX7_findNumbers 117 = .ok (.goto (-95), 3) := by decide +kernel
theorem dX7_findNumbers_120 : decode cX7_findNumbers 120 = .ok (.return_, 1) := by decide +kernel
set_option maxRecDepth 20000 in
theorem ggX7_next_X7_at : GoodIn wsX7_next wsX7_at := goodIn_r _ [6, 7, 8, 9, 10, 5, 11, 12, 13, 14, 15, 16, 17, 18, 19, 20, 21, 22, 23, 24, 25, 26, 27, 28, 29, 30, 31, 32, 33, 34, 35, 36, 37, 38, 39, 40, 41, 42] (by decide +kernel) (by decide +kernel)
set_option maxRecDepth 20000 in
theorem gX7_next_X7_at : GoodIn wsX7_next (wsV RX7 176 RX7 yX7_at wsX7_at) := goodIn_app (goodIn_of _ (by decide +kernel)) ggX7_next_X7_at
theorem dX7_next_0 : decode cX7_next 0 = .ok (.iload_n 3, 1) := by decide +kernel
theorem dX7_next_1 : decode cX7_next 1 = .ok (.istore 4, 2) := by decide +kernel
theorem dX7_next_3 : decode cX7_next 3 = .ok (.iconst 0, 1) := by decide +kernel
theorem dX7_next_4 : decode cX7_next 4 = .ok (.istore 5, 2) := by decide +kernel
theorem dX7_next_6 : decode cX7_next 6 = .ok (.iload 5, 2) := by decide +kernel
theorem dX7_next_8 : decode cX7_next 8 = .ok (.aload_n 0, 1) := by decide +kernel
theorem dX7_next_9 : decode cX7_next 9 = .ok (.getfield 98, 3) := by decide +kernel
theorem dX7_next_12 : decode cX7_next 12 = .ok (.if_icmp .ge 46, 3) := by decide +kernel
theorem dX7_next_15 : decode cX7_next 15 = .ok (.aload_n 0, 1) := by decide +kernel
theorem dX7_next_16 : decode cX7_next 16 = .ok (.iload 5, 2) := by decide +kernel
theorem dX7_next_18 : decode cX7_next 18 = .ok (.iload_n 1, 1) := by decide +kernel
theorem dX7_next_19 : decode cX7_next 19 = .ok (.invokevirtual 176, 3) := by decide +kernel
theorem dX7_next_22 : decode cX7_next 22 = .ok (.iload_n 2, 1) := by decide +kernel
theorem dX7_next_23 : decode cX7_next 23 = .ok (.if_icmp .le 25, 3) := by decide +kernel
theorem dX7_next_26 : decode cX7_next 26 = .ok (.aload_n 0, 1) := by decide +kernel
theorem dX7_next_27 : decode cX7_next 27 = .ok (.iload 5, 2) := by decide +kernel
theorem dX7_next_29 : decode cX7_next 29 = .ok (.iload_n 1, 1) := by decide +kernel
theorem dX7_next_30 : decode cX7_next 30 = .ok (.invokevirtual 176, 3) := by decide +kernel
theorem dX7_next_33 : decode cX7_next 33 = .ok (.iload 4, 2) := by decide +kernel
theorem dX7_next_35 : decode cX7_next 35 = .ok (.if_icmp .ge 13, 3) := by decide +kernel
theorem dX7_next_38 : decode cX7_next 38 = .ok (.aload_n 0, 1) := by decide +kernel
theorem dX7_next_39 : decode cX7_next 39 = .ok (.iload 5, 2) := by decide +kernel
theorem dX7_next_41 : decode cX7_next 41 = .ok (.iload_n 1, 1) := by decide +kernel
theorem dX7_next_42 : decode cX7_next 42 = .ok (.invokevirtual 176, 3) := by decide +kernel
theorem dX7_next_45 : decode cX7_next 45 = .ok (.goto 5, 3) := by decide +kernel
theorem dX7_next_48 : decode cX7_next 48 = .ok (.iload 4, 2) := by decide +kernel
theorem dX7_next_50 : decode cX7_next 50 = .ok (.istore 4, 2) := by decide +kernel
theorem dX7_next_52 : decode cX7_next 52 = .ok (.iinc 5 1, 3) := by decide +kernel
theorem dX7_next_55 : decode cX7_next 55 = .ok (.goto (-49), 3) := by decide +kernel
theorem dX7_next_58 : decode cX7_next 58 = .ok (.iload 4, 2) := by decide +kernel
theorem dX7_next_60 : decode cX7_next 60 = .ok (.ireturn, 1) := by decide +kernel
set_option maxRecDepth 20000 in
theorem ggX7_someLess_X7_at : GoodIn wsX7_someLess wsX7_at := goodIn_r _ [9, 10, 11, 12, 13, 8, 14, 15, 16, 17, 18, 19, 20, 21, 22, 23, 24, 25, 26, 27, 28, 29, 30, 31, 32, 33, 34, 35, 36, 37, 38, 39, 40, 41, 42, 43, 44, 45] (by decide +kernel) (by decide +kernel)
set_option maxRecDepth 20000 in
theorem gX7_someLess_X7_at : GoodIn wsX7_someLess (wsV RX7 176 RX7 yX7_at wsX7_at) := goodIn_app (goodIn_of _ (by decide +kernel)) ggX7_someLess_X7_at
theorem dX7_someLess_0 : decode cX7_someLess 0 = .ok (.iconst 0, 1) := by decide +kernel
theorem dX7_someLess_1 : decode cX7_someLess 1 = .ok (.istore_n 2, 1) := by decide +kernel
theorem dX7_someLess_2 : decode cX7_someLess 2 = .ok (.iconst 0, 1) := by decide +kernel
theorem dX7_someLess_3 : decode cX7_someLess 3 = .ok (.istore_n 3, 1) := by decide +kernel
theorem dX7_someLess_4 : decode cX7_someLess 4 = .ok (.iload_n 3, 1) := by decide +kernel
theorem dX7_someLess_5 : decode cX7_someLess 5 = .ok (.aload_n 0, 1) := by decide +kernel
theorem dX7_someLess_6 : decode cX7_someLess 6 = .ok (.getfield 98, 3) := by decide +kernel
theorem dX7_someLess_9 : decode cX7_someLess 9 = .ok (.if_icmp .ge 83, 3) := by decide +kernel
theorem dX7_someLess_12 : decode cX7_someLess 12 = .ok (.iload_n 2, 1) := by decide +kernel
theorem dX7_someLess_13 : decode cX7_someLess 13 = .ok (.ifCond .ne 79, 3) := by decide +kernel
theorem dX7_someLess_16 : decode cX7_someLess 16 = .ok (.iconst 1, 1) := by decide +kernel
theorem dX7_someLess_17 : decode cX7_someLess 17 = .ok (.istore_n 2, 1) := by decide +kernel
theorem dX7_someLess_18 : decode cX7_someLess 18 = .ok (.iconst 0, 1) := by decide +kernel
theorem dX7_someLess_19 : decode cX7_someLess 19 = .ok (.istore 4, 2) := by decide +kernel
theorem dX7_someLess_21 : decode cX7_someLess 21 = .ok (.iload 4, 2) := by decide +kernel
theorem dX7_someLess_23 : decode cX7_someLess 23 = .ok (.aload_n 0, 1) := by decide +kernel
theorem dX7_someLess_24 : decode cX7_someLess 24 = .ok (.getfield 89, 3) := by decide +kernel
theorem dX7_someLess_27 : decode cX7_someLess 27 = .ok (.if_icmp .ge 59, 3) := by decide +kernel
theorem dX7_someLess_30 : decode cX7_someLess 30 = .ok (.iload_n 2, 1) := by decide +kernel
theorem dX7_someLess_31 : decode cX7_someLess 31 = .ok (.ifCond .eq 47, 3) := by decide +kernel
theorem dX7_someLess_34 : decode cX7_someLess 34 = .ok (.aload_n 0, 1) := by decide +kernel
theorem dX7_someLess_35 : decode cX7_someLess 35 = .ok (.iload_n 3, 1) := by decide +kernel
theorem dX7_someLess_36 : decode cX7_someLess 36 = .ok (.iload 4, 2) := by decide +kernel
theorem dX7_someLess_38 : decode cX7_someLess 38 = .ok (.invokevirtual 176, 3) := by decide +kernel
theorem dX7_someLess_41 : decode cX7_someLess 41 = .ok (.aload_n 0, 1) := by decide +kernel
theorem dX7_someLess_42 : decode cX7_someLess 42 = .ok (.getfield 66, 3) := by decide +kernel
theorem dX7_someLess_45 : decode cX7_someLess 45 = .ok (.bipush 13, 2) := by decide +kernel
theorem dX7_someLess_47 : decode cX7_someLess 47 = .ok (.iload 4, 2) := by decide +kernel
theorem dX7_someLess_49 : decode cX7_someLess 49 = .ok (.imul, 1) := by decide +kernel
theorem dX7_someLess_50 : decode cX7_someLess 50 = .ok (.aload_n 0, 1) := by decide +kernel
theorem dX7_someLess_51 : decode cX7_someLess 51 = .ok (.getfield 72, 3) := by decide +kernel
theorem dX7_someLess_54 : decode cX7_someLess 54 = .ok (.iload 4, 2) := by decide +kernel
theorem dX7_someLess_56 : decode cX7_someLess 56 = .ok (.iaload, 1) := by decide +kernel
theorem dX7_someLess_57 : decode cX7_someLess 57 = .ok (.iadd, 1) := by decide +kernel
theorem dX7_someLess_58 : decode cX7_someLess 58 = .ok (.iload 4, 2) := by decide +kernel
theorem dX7_someLess_60 : decode cX7_someLess 60 = .ok (.iload_n 1, 1) := by decide +kernel
theorem dX7_someLess_61 : decode cX7_someLess 61 = .ok (.if_icmp .ne 7, 3) := by decide +kernel
theorem dX7_someLess_64 : decode cX7_someLess 64 = .ok (.iconst 1, 1) := by decide +kernel
theorem dX7_someLess_65 : decode cX7_someLess 65 = .ok (.goto 4, 3) := by decide +kernel
theorem dX7_someLess_68 : decode cX7_someLess 68 = .ok (.iconst 0, 1) := by decide +kernel
theorem dX7_someLess_69 : decode cX7_someLess 69 = .ok (.iadd, 1) := by decide +kernel
theorem dX7_someLess_70 : decode cX7_someLess 70 = .ok (.iaload, 1) := by decide +kernel
theorem dX7_someLess_71 : decode cX7_someLess 71 = .ok (.if_icmp .ge 7, 3) := by decide +kernel
theorem dX7_someLess_74 : decode cX7_someLess 74 = .ok (.iconst 1, 1) := by decide +kernel
theorem dX7_someLess_75 : decode cX7_someLess 75 = .ok (.goto 4, 3) := by decide +kernel
theorem dX7_someLess_78 : decode cX7_someLess 78 = .ok (.iconst 0, 1) := by decide +kernel
theorem dX7_someLess_79 : decode cX7_someLess 79 = .ok (.istore_n 2, 1) := by decide +kernel
theorem dX7_someLess_80 : decode cX7_someLess 80 = .ok (.iinc 4 1, 3) := by decide +kernel
theorem dX7_someLess_83 : decode cX7_someLess 83 = .ok (.goto (-62), 3) := by decide +kernel
theorem dX7_someLess_86 : decode cX7_someLess 86 = .ok (.iinc 3 1, 3) := by decide +kernel
theorem dX7_someLess_89 : decode cX7_someLess 89 = .ok (.goto (-85), 3) := by decide +kernel
theorem dX7_someLess_92 : decode cX7_someLess 92 = .ok (.iload_n 2, 1) := by decide +kernel
theorem dX7_someLess_93 : decode cX7_someLess 93 = .ok (.ireturn, 1) := by decide +kernel
set_option maxRecDepth 20000 in
theorem ggX7_isBox_X7_someLess : GoodIn wsX7_isBox wsX7_someLess := goodIn_r _ [9, 10, 2, 11, 3, 12, 13, 14, 8, 15, 16, 17, 18, 19, 20, 21, 22, 23, 24, 25, 26, 27, 28, 29, 30, 31, 32, 33, 34, 35, 36, 37, 38, 39, 40, 41, 42, 43, 44, 45, 46, 47, 48, 49, 50, 51] (by decide +kernel) (by decide +kernel)
set_option maxRecDepth 20000 in
theorem gX7_isBox_X7_someLess : GoodIn wsX7_isBox (wsV RX7 214 RX7 yX7_someLess wsX7_someLess) := goodIn_app (goodIn_of _ (by decide +kernel)) ggX7_isBox_X7_someLess
theorem dX7_isBox_0 : decode cX7_isBox 0 = .ok (.aload_n 0, 1) := by decide +kernel
theorem dX7_isBox_1 : decode cX7_isBox 1 = .ok (.ldc 200, 2) := by decide +kernel
theorem dX7_isBox_3 : decode cX7_isBox 3 = .ok (.invokevirtual 214, 3) := by decide +kernel
theorem dX7_isBox_6 : decode cX7_isBox 6 = .ok (.ifCond .ne 7, 3) := by decide +kernel
theorem dX7_isBox_9 : decode cX7_isBox 9 = .ok (.iconst 1, 1) := by decide +kernel
theorem dX7_isBox_10 : decode cX7_isBox 10 = .ok (.goto 4, 3) := by decide +kernel
theorem dX7_isBox_13 : decode cX7_isBox 13 = .ok (.iconst 0, 1) := by decide +kernel
theorem dX7_isBox_14 : decode cX7_isBox 14 = .ok (.istore_n 1, 1) := by decide +kernel
theorem dX7_isBox_15 : decode cX7_isBox 15 = .ok (.iconst 0, 1) := by decide +kernel
theorem dX7_isBox_16 : decode cX7_isBox 16 = .ok (.istore_n 2, 1) := by decide +kernel
theorem dX7_isBox_17 : decode cX7_isBox 17 = .ok (.iload_n 2, 1) := by decide +kernel
theorem dX7_isBox_18 : decode cX7_isBox 18 = .ok (.aload_n 0, 1) := by decide +kernel
theorem dX7_isBox_19 : decode cX7_isBox 19 = .ok (.getfield 89, 3) := by decide +kernel
theorem dX7_isBox_22 : decode cX7_isBox 22 = .ok (.if_icmp .ge 44, 3) := by decide +kernel
theorem dX7_isBox_25 : decode cX7_isBox 25 = .ok (.iload_n 1, 1) := by decide +kernel
theorem dX7_isBox_26 : decode cX7_isBox 26 = .ok (.ifCond .eq 40, 3) := by decide +kernel
theorem dX7_isBox_29 : decode cX7_isBox 29 = .ok (.aload_n 0, 1) := by decide +kernel
theorem dX7_isBox_30 : decode cX7_isBox 30 = .ok (.getfield 72, 3) := by decide +kernel
theorem dX7_isBox_33 : decode cX7_isBox 33 = .ok (.iload_n 2, 1) := by decide +kernel
theorem dX7_isBox_34 : decode cX7_isBox 34 = .ok (.iaload, 1) := by decide +kernel
theorem dX7_isBox_35 : decode cX7_isBox 35 = .ok (.aload_n 0, 1) := by decide +kernel
theorem dX7_isBox_36 : decode cX7_isBox 36 = .ok (.getfield 69, 3) := by decide +kernel
theorem dX7_isBox_39 : decode cX7_isBox 39 = .ok (.iload_n 2, 1) := by decide +kernel
theorem dX7_isBox_40 : decode cX7_isBox 40 = .ok (.iaload, 1) := by decide +kernel
theorem dX7_isBox_41 : decode cX7_isBox 41 = .ok (.iconst 1, 1) := by decide +kernel
theorem dX7_isBox_42 : decode cX7_isBox 42 = .ok (.isub, 1) := by decide +kernel
theorem dX7_isBox_43 : decode cX7_isBox 43 = .ok (.if_icmp .eq 11, 3) := by decide +kernel
theorem dX7_isBox_46 : decode cX7_isBox 46 = .ok (.aload_n 0, 1) := by decide +kernel
theorem dX7_isBox_47 : decode cX7_isBox 47 = .ok (.iload_n 2, 1) := by decide +kernel
theorem dX7_isBox_48 : decode cX7_isBox 48 = .ok (.invokevirtual 214, 3) := by decide +kernel
theorem dX7_isBox_51 : decode cX7_isBox 51 = .ok (.ifCond .eq 7, 3) := by decide +kernel
theorem dX7_isBox_54 : decode cX7_isBox 54 = .ok (.iconst 1, 1) := by decide +kernel
theorem dX7_isBox_55 : decode cX7_isBox 55 = .ok (.goto 4, 3) := by decide +kernel
theorem dX7_isBox_58 : decode cX7_isBox 58 = .ok (.iconst 0, 1) := by decide +kernel
theorem dX7_isBox_59 : decode cX7_isBox 59 = .ok (.istore_n 1, 1) := by decide +kernel
theorem dX7_isBox_60 : decode cX7_isBox 60 = .ok (.iinc 2 1, 3) := by decide +kernel
theorem dX7_isBox_63 : decode cX7_isBox 63 = .ok (.goto (-46), 3) := by decide +kernel
theorem dX7_isBox_66 : decode cX7_isBox 66 = .ok (.iload_n 1, 1) := by decide +kernel
theorem dX7_isBox_67 : decode cX7_isBox 67 = .ok (.ireturn, 1) := by decide +kernel
theorem dX7_nextPlace_0 : decode cX7_nextPlace 0 = .ok (.aload_n 0, 1) := by decide +kernel
theorem dX7_nextPlace_1 : decode cX7_nextPlace 1 = .ok (.getfield 89, 3) := by decide +kernel
theorem dX7_nextPlace_4 : decode cX7_nextPlace 4 = .ok (.iconst 1, 1) := by decide +kernel
theorem dX7_nextPlace_5 : decode cX7_nextPlace 5 = .ok (.isub, 1) := by decide +kernel
theorem dX7_nextPlace_6 : decode cX7_nextPlace 6 = .ok (.istore_n 2, 1) := by decide +kernel
theorem dX7_nextPlace_7 : decode cX7_nextPlace 7 = .ok (.iload_n 2, 1) := by decide +kernel
theorem dX7_nextPlace_8 : decode cX7_nextPlace 8 = .ok (.ifCond .lt 47, 3) := by decide +kernel
theorem dX7_nextPlace_11 : decode cX7_nextPlace 11 = .ok (.aload_n 0, 1) := by decide +kernel
theorem dX7_nextPlace_12 : decode cX7_nextPlace 12 = .ok (.getfield 72, 3) := by decide +kernel
theorem dX7_nextPlace_15 : decode cX7_nextPlace 15 = .ok (.iload_n 2, 1) := by decide +kernel
theorem dX7_nextPlace_16 : decode cX7_nextPlace 16 = .ok (.iaload, 1) := by decide +kernel
theorem dX7_nextPlace_17 : decode cX7_nextPlace 17 = .ok (.aload_n 0, 1) := by decide +kernel
theorem dX7_nextPlace_18 : decode cX7_nextPlace 18 = .ok (.getfield 69, 3) := by decide +kernel
theorem dX7_nextPlace_21 : decode cX7_nextPlace 21 = .ok (.iload_n 2, 1) := by decide +kernel
theorem dX7_nextPlace_22 : decode cX7_nextPlace 22 = .ok (.iaload, 1) := by decide +kernel
theorem dX7_nextPlace_23 : decode cX7_nextPlace 23 = .ok (.iconst 1, 1) := by decide +kernel
theorem dX7_nextPlace_24 : decode cX7_nextPlace 24 = .ok (.isub, 1) := by decide +kernel
theorem dX7_nextPlace_25 : decode cX7_nextPlace 25 = .ok (.iload_n 1, 1) := by decide +kernel
theorem dX7_nextPlace_26 : decode cX7_nextPlace 26 = .ok (.isub, 1) := by decide +kernel
theorem dX7_nextPlace_27 : decode cX7_nextPlace 27 = .ok (.if_icmp .ge 15, 3) := by decide +kernel
theorem dX7_nextPlace_30 : decode cX7_nextPlace 30 = .ok (.aload_n 0, 1) := by decide +kernel
theorem dX7_nextPlace_31 : decode cX7_nextPlace 31 = .ok (.getfield 72, 3) := by decide +kernel
theorem dX7_nextPlace_34 : decode cX7_nextPlace 34 = .ok (.iload_n 2, 1) := by decide +kernel
theorem dX7_nextPlace_35 : decode cX7_nextPlace 35 = .ok (.dup2, 1) := by decide +kernel
theorem dX7_nextPlace_36 : decode cX7_nextPlace 36 = .ok (.iaload, 1) := by decide +kernel
theorem dX7_nextPlace_37 : decode cX7_nextPlace 37 = .ok (.iconst 1, 1) := by decide +kernel
theorem dX7_nextPlace_38 : decode cX7_nextPlace 38 = .ok (.iadd, 1) := by decide +kernel
theorem dX7_nextPlace_39 : decode cX7_nextPlace 39 = .ok (.iastore, 1) := by decide +kernel
theorem dX7_nextPlace_40 : decode cX7_nextPlace 40 = .ok (.iconst 1, 1) := by decide +kernel
theorem dX7_nextPlace_41 : decode cX7_nextPlace 41 = .ok (.ireturn, 1) := by decide +kernel
theorem dX7_nextPlace_42 : decode cX7_nextPlace 42 = .ok (.aload_n 0, 1) := by decide +kernel
theorem dX7_nextPlace_43 : decode cX7_nextPlace 43 = .ok (.getfield 72, 3) := by decide +kernel
theorem dX7_nextPlace_46 : decode cX7_nextPlace 46 = .ok (.iload_n 2, 1) := by decide +kernel
theorem dX7_nextPlace_47 : decode cX7_nextPlace 47 = .ok (.iconst 0, 1) := by decide +kernel
theorem dX7_nextPlace_48 : decode cX7_nextPlace 48 = .ok (.iastore, 1) := by decide +kernel
theorem dX7_nextPlace_49 : decode cX7_nextPlace 49 = .ok (.iinc 2 (-1), 3) := by decide +kernel
theorem dX7_nextPlace_52 : decode cX7_nextPlace 52 = .ok (.goto (-45), 3) := by decide +kernel
theorem dX7_nextPlace_55 : decode cX7_nextPlace 55 = .ok (.iconst 0, 1) := by decide +kernel
theorem dX7_nextPlace_56 : decode cX7_nextPlace 56 = .ok (.ireturn, 1) := by decide +kernel
set_option maxRecDepth 20000 in
theorem ggX7_firstPlace_X7_findNumbers : GoodIn wsX7_firstPlace wsX7_findNumbers := goodIn_r _ [6, 7, 8, 9, 10, 11, 12, 5, 13, 14, 15, 16, 17, 18, 19, 20, 21, 22, 23, 24, 25, 26, 27, 28, 29, 30, 31, 32, 33, 34, 35, 36, 37, 38, 39, 40, 41, 42, 43, 44, 45, 46, 47, 48, 49, 50, 51, 52, 53, 54, 55, 56, 57, 58, 59, 60, 61, 62] (by decide +kernel) (by decide +kernel)
set_option maxRecDepth 20000 in
theorem gX7_firstPlace_X7_findNumbers : GoodIn wsX7_firstPlace (wsV RX7 217 RX7 yX7_findNumbers wsX7_findNumbers) := goodIn_app (goodIn_of _ (by decide +kernel)) ggX7_firstPlace_X7_findNumbers
theorem dX7_firstPlace_0 : decode cX7_firstPlace 0 = .ok (.aload_n 0, 1) := by decide +kernel
theorem dX7_firstPlace_1 : decode cX7_firstPlace 1 = .ok (.invokevirtual 217, 3) := by decide +kernel
theorem dX7_firstPlace_4 : decode cX7_firstPlace 4 = .ok (.iconst 0, 1) := by decide +kernel
theorem dX7_firstPlace_5 : decode cX7_firstPlace 5 = .ok (.istore_n 1, 1) := by decide +kernel
theorem dX7_firstPlace_6 : decode cX7_firstPlace 6 = .ok (.iload_n 1, 1) := by decide +kernel
theorem dX7_firstPlace_7 : decode cX7_firstPlace 7 = .ok (.iconst 4, 1) := by decide +kernel
theorem dX7_firstPlace_8 : decode cX7_firstPlace 8 = .ok (.if_icmp .ge 16, 3) := by decide +kernel
theorem dX7_firstPlace_11 : decode cX7_firstPlace 11 = .ok (.aload_n 0, 1) := by decide +kernel
theorem dX7_firstPlace_12 : decode cX7_firstPlace 12 = .ok (.getfield 72, 3) := by decide +kernel
theorem dX7_firstPlace_15 : decode cX7_firstPlace 15 = .ok (.iload_n 1, 1) := by decide +kernel
theorem dX7_firstPlace_16 : decode cX7_firstPlace 16 = .ok (.iconst 0, 1) := by decide +kernel
theorem dX7_firstPlace_17 : decode cX7_firstPlace 17 = .ok (.iastore, 1) := by decide +kernel
theorem dX7_firstPlace_18 : decode cX7_firstPlace 18 = .ok (.iinc 1 1, 3) := by decide +kernel
theorem dX7_firstPlace_21 : decode cX7_firstPlace 21 = .ok (.goto (-15), 3) := by decide +kernel
theorem dX7_firstPlace_24 : decode cX7_firstPlace 24 = .ok (.return_, 1) := by decide +kernel
set_option maxRecDepth 20000 in
theorem ggX7_goBoxes_X7_firstPlace : GoodIn wsX7_goBoxes wsX7_firstPlace := goodIn_r _ [5, 6, 7, 8, 9, 4, 10, 11, 12, 13, 14, 15, 16, 17, 18, 19, 20, 21, 22, 23, 24, 25, 26, 27, 28, 29, 30, 31, 32, 33, 34, 35, 36, 50, 51, 52, 53, 54, 55, 56, 57, 58, 59, 60, 61, 62, 63, 64, 65, 66, 67, 68, 69, 70, 71, 72, 73, 74, 75, 76, 77, 78, 79] (by decide +kernel) (by decide +kernel)
set_option maxRecDepth 20000 in
theorem gX7_goBoxes_X7_firstPlace : GoodIn wsX7_goBoxes (wsV RX7 220 RX7 yX7_firstPlace wsX7_firstPlace) := goodIn_app (goodIn_of _ (by decide +kernel)) ggX7_goBoxes_X7_firstPlace
set_option maxRecDepth 20000 in
theorem ggX7_goBoxes_X7_isBox : GoodIn wsX7_goBoxes wsX7_isBox := goodIn_r _ [40, 41, 12, 6, 11, 42, 43, 44, 4, 45, 18, 13, 19, 20, 21, 22, 23, 24, 25, 26, 27, 28, 50, 51, 52, 53, 54, 55, 56, 57, 58, 59, 60, 61, 62, 63, 64, 65, 66, 67, 68, 69, 70, 71, 72, 73, 74, 75, 76, 77, 78, 79] (by decide +kernel) (by decide +kernel)
set_option maxRecDepth 20000 in
theorem gX7_goBoxes_X7_isBox : GoodIn wsX7_goBoxes (wsV RX7 223 RX7 yX7_isBox wsX7_isBox) := goodIn_app (goodIn_of _ (by decide +kernel)) ggX7_goBoxes_X7_isBox
set_option maxRecDepth 20000 in
theorem ggX7_goBoxes_X7_nextPlace : GoodIn wsX7_goBoxes wsX7_nextPlace := goodIn_r _ [49, 12, 6, 11, 50, 51, 52, 53, 54, 55, 56, 57, 58, 59, 60, 61, 62, 63, 64, 65, 66, 67, 68, 69, 70, 71, 72, 73, 74, 75, 76, 77, 78, 79] (by decide +kernel) (by decide +kernel)
set_option maxRecDepth 20000 in
theorem gX7_goBoxes_X7_nextPlace : GoodIn wsX7_goBoxes (wsV RX7 226 RX7 yX7_nextPlace wsX7_nextPlace) := goodIn_app (goodIn_of _ (by decide +kernel)) ggX7_goBoxes_X7_nextPlace
theorem dX7_goBoxes_0 : decode cX7_goBoxes 0 = .ok (.aload_n 0, 1) := by decide +kernel
theorem dX7_goBoxes_1 : decode cX7_goBoxes 1 = .ok (.invokevirtual 220, 3) := by decide +kernel
theorem dX7_goBoxes_4 : decode cX7_goBoxes 4 = .ok (.iconst 0, 1) := by decide +kernel
theorem dX7_goBoxes_5 : decode cX7_goBoxes 5 = .ok (.istore_n 2, 1) := by decide +kernel
theorem dX7_goBoxes_6 : decode cX7_goBoxes 6 = .ok (.iconst 1, 1) := by decide +kernel
theorem dX7_goBoxes_7 : decode cX7_goBoxes 7 = .ok (.istore_n 3, 1) := by decide +kernel
theorem dX7_goBoxes_8 : decode cX7_goBoxes 8 = .ok (.iload_n 3, 1) := by decide +kernel
theorem dX7_goBoxes_9 : decode cX7_goBoxes 9 = .ok (.ifCond .eq 40, 3) := by decide +kernel
theorem dX7_goBoxes_12 : decode cX7_goBoxes 12 = .ok (.iload_n 2, 1) := by decide +kernel
theorem dX7_goBoxes_13 : decode cX7_goBoxes 13 = .ok (.aload_n 0, 1) := by decide +kernel
theorem dX7_goBoxes_14 : decode cX7_goBoxes 14 = .ok (.invokevirtual 223, 3) := by decide +kernel
theorem dX7_goBoxes_17 : decode cX7_goBoxes 17 = .ok (.ifCond .eq 7, 3) := by decide +kernel
theorem dX7_goBoxes_20 : decode cX7_goBoxes 20 = .ok (.iconst 1, 1) := by decide +kernel
theorem dX7_goBoxes_21 : decode cX7_goBoxes 21 = .ok (.goto 4, 3) := by decide +kernel
theorem dX7_goBoxes_24 : decode cX7_goBoxes 24 = .ok (.iconst 0, 1) := by decide +kernel
theorem dX7_goBoxes_25 : decode cX7_goBoxes 25 = .ok (.iadd, 1) := by decide +kernel
theorem dX7_goBoxes_26 : decode cX7_goBoxes 26 = .ok (.istore_n 2, 1) := by decide +kernel
theorem dX7_goBoxes_27 : decode cX7_goBoxes 27 = .ok (.iload_n 2, 1) := by decide +kernel
theorem dX7_goBoxes_28 : decode cX7_goBoxes 28 = .ok (.iload_n 1, 1) := by decide +kernel
theorem dX7_goBoxes_29 : decode cX7_goBoxes 29 = .ok (.if_icmp .gt 15, 3) := by decide +kernel
theorem dX7_goBoxes_32 : decode cX7_goBoxes 32 = .ok (.aload_n 0, 1) := by decide +kernel
theorem dX7_goBoxes_33 : decode cX7_goBoxes 33 = .ok (.iconst 0, 1) := by decide +kernel
theorem dX7_goBoxes_34 : decode cX7_goBoxes 34 = .ok (.invokevirtual 226, 3) := by decide +kernel
theorem dX7_goBoxes_37 : decode cX7_goBoxes 37 = .ok (.ifCond .eq 7, 3) := by decide +kernel
theorem dX7_goBoxes_40 : decode cX7_goBoxes 40 = .ok (.iconst 1, 1) := by decide +kernel
theorem dX7_goBoxes_41 : decode cX7_goBoxes 41 = .ok (.goto 4, 3) := by decide +kernel
theorem dX7_goBoxes_44 : decode cX7_goBoxes 44 = .ok (.iconst 0, 1) := by decide +kernel
theorem dX7_goBoxes_45 : decode cX7_goBoxes 45 = .ok (.istore_n 3, 1) := by decide +kernel
theorem dX7_goBoxes_46 : decode cX7_goBoxes 46 = .ok (.goto (-38), 3) := by decide +kernel
theorem dX7_goBoxes_49 : decode cX7_goBoxes 49 = .ok (.iload_n 2, 1) := by decide +kernel
theorem dX7_goBoxes_50 : decode cX7_goBoxes 50 = .ok (.ireturn, 1) := by decide +kernel
theorem dX7_isFar_0 : decode cX7_isFar 0 = .ok (.aload_n 0, 1) := by decide +kernel
theorem dX7_isFar_1 : decode cX7_isFar 1 = .ok (.getfield 98, 3) := by decide +kernel
theorem dX7_isFar_4 : decode cX7_isFar 4 = .ok (.ifCond .eq 12, 3) := by decide +kernel
theorem dX7_isFar_7 : decode cX7_isFar 7 = .ok (.aload_n 0, 1) := by decide +kernel
theorem dX7_isFar_8 : decode cX7_isFar 8 = .ok (.getfield 98, 3) := by decide +kernel
theorem dX7_isFar_11 : decode cX7_isFar 11 = .ok (.bipush 12, 2) := by decide +kernel
theorem dX7_isFar_13 : decode cX7_isFar 13 = .ok (.if_icmp .le 7, 3) := by decide +kernel
theorem dX7_isFar_16 : decode cX7_isFar 16 = .ok (.iconst 1, 1) := by decide +kernel
theorem dX7_isFar_17 : decode cX7_isFar 17 = .ok (.goto 4, 3) := by decide +kernel
theorem dX7_isFar_20 : decode cX7_isFar 20 = .ok (.iconst 0, 1) := by decide +kernel
theorem dX7_isFar_21 : decode cX7_isFar 21 = .ok (.ireturn, 1) := by decide +kernel
set_option maxRecDepth 20000 in
theorem ggX7_boxes_X7_isFar : GoodIn wsX7_boxes wsX7_isFar := goodIn_r _ [7, 8, 60, 61, 62, 63, 64, 65, 66, 67, 68, 69, 70, 71, 72, 73, 74, 75, 76, 77, 78, 79, 80, 81, 82, 83, 84, 85, 86, 87, 88, 89] (by decide +kernel) (by decide +kernel)
set_option maxRecDepth 20000 in
theorem gX7_boxes_X7_isFar : GoodIn wsX7_boxes (wsV RX7 229 RX7 yX7_isFar wsX7_isFar) := goodIn_app (goodIn_of _ (by decide +kernel)) ggX7_boxes_X7_isFar
set_option maxRecDepth 20000 in
theorem ggX7_boxes_X7_goBoxes : GoodIn wsX7_boxes wsX7_goBoxes := goodIn_r _ [12, 13, 14, 15, 6, 16, 17, 18, 19, 20, 21, 22, 23, 24, 25, 26, 27, 28, 8, 29, 30, 31, 32, 33, 34, 35, 36, 37, 38, 39, 40, 41, 42, 43, 44, 45, 46, 47, 48, 49, 50, 51, 52, 53, 54, 55, 56, 57, 58, 59, 60, 61, 62, 63, 64, 65, 66, 67, 68, 69, 70, 71, 72, 73, 74, 75, 76, 77, 78, 79, 80, 81, 82, 83, 84, 85, 86, 87, 88, 89] (by decide +kernel) (by decide +kernel)
set_option maxRecDepth 20000 in
theorem gX7_boxes_X7_goBoxes : GoodIn wsX7_boxes (wsV RX7 233 RX7 yX7_goBoxes wsX7_goBoxes) := goodIn_app (goodIn_of _ (by decide +kernel)) ggX7_boxes_X7_goBoxes
theorem dX7_boxes_0 : decode cX7_boxes 0 = .ok (.aload_n 0, 1) := by decide +kernel
theorem dX7_boxes_1 : decode cX7_boxes 1 = .ok (.invokevirtual 229, 3) := by decide +kernel
theorem dX7_boxes_4 : decode cX7_boxes 4 = .ok (.ifCond .eq 8, 3) := by decide +kernel
theorem dX7_boxes_7 : decode cX7_boxes 7 = .ok (.ldc 161, 2) := by decide +kernel
theorem dX7_boxes_9 : decode cX7_boxes 9 = .ok (.goto 9, 3) := by decide +kernel
theorem dX7_boxes_12 : decode cX7_boxes 12 = .ok (.aload_n 0, 1) := by decide +kernel
theorem dX7_boxes_13 : decode cX7_boxes 13 = .ok (.ldc 232, 2) := by decide +kernel
theorem dX7_boxes_15 : decode cX7_boxes 15 = .ok (.invokevirtual 233, 3) := by decide +kernel
theorem dX7_boxes_18 : decode cX7_boxes 18 = .ok (.ireturn, 1) := by decide +kernel
set_option maxRecDepth 20000 in
theorem ggX7_box_X7_isAim : GoodIn wsX7_box wsX7_isAim := goodIn_r _ [10, 11, 12, 13, 9, 14, 68, 69, 70, 71, 72, 73, 74, 75, 76, 77, 78, 79, 80, 81, 82, 83, 84, 85, 86, 87, 88, 89, 90, 91, 92, 93, 94, 95, 96, 97] (by decide +kernel) (by decide +kernel)
set_option maxRecDepth 20000 in
theorem gX7_box_X7_isAim : GoodIn wsX7_box (wsV RX7 136 RX7 yX7_isAim wsX7_isAim) := goodIn_app (goodIn_of _ (by decide +kernel)) ggX7_box_X7_isAim
set_option maxRecDepth 20000 in
theorem ggX7_box_X7_isFar : GoodIn wsX7_box wsX7_isFar := goodIn_r _ [18, 19, 68, 69, 70, 71, 72, 73, 74, 75, 76, 77, 78, 79, 80, 81, 82, 83, 84, 85, 86, 87, 88, 89, 90, 91, 92, 93, 94, 95, 96, 97] (by decide +kernel) (by decide +kernel)
set_option maxRecDepth 20000 in
theorem gX7_box_X7_isFar : GoodIn wsX7_box (wsV RX7 229 RX7 yX7_isFar wsX7_isFar) := goodIn_app (goodIn_of _ (by decide +kernel)) ggX7_box_X7_isFar
set_option maxRecDepth 20000 in
theorem ggX7_box_X7_goBoxes : GoodIn wsX7_box wsX7_goBoxes := goodIn_r _ [23, 24, 25, 26, 9, 27, 5, 28, 29, 30, 31, 32, 11, 4, 33, 34, 35, 36, 19, 37, 38, 39, 40, 41, 42, 43, 44, 45, 46, 47, 48, 49, 50, 51, 52, 53, 54, 55, 56, 57, 58, 59, 60, 61, 62, 63, 64, 65, 66, 67, 68, 69, 70, 71, 72, 73, 74, 75, 76, 77, 78, 79, 80, 81, 82, 83, 84, 85, 86, 87, 88, 89, 90, 91, 92, 93, 94, 95, 96, 97] (by decide +kernel) (by decide +kernel)
set_option maxRecDepth 20000 in
theorem gX7_box_X7_goBoxes : GoodIn wsX7_box (wsV RX7 233 RX7 yX7_goBoxes wsX7_goBoxes) := goodIn_app (goodIn_of _ (by decide +kernel)) ggX7_box_X7_goBoxes
theorem dX7_box_0 : decode cX7_box 0 = .ok (.aload_n 0, 1) := by decide +kernel
theorem dX7_box_1 : decode cX7_box 1 = .ok (.iload_n 2, 1) := by decide +kernel
theorem dX7_box_2 : decode cX7_box 2 = .ok (.invokevirtual 136, 3) := by decide +kernel
theorem dX7_box_5 : decode cX7_box 5 = .ok (.ifCond .ne 6, 3) := by decide +kernel
theorem dX7_box_8 : decode cX7_box 8 = .ok (.ldc 112, 2) := by decide +kernel
theorem dX7_box_10 : decode cX7_box 10 = .ok (.ireturn, 1) := by decide +kernel
theorem dX7_box_11 : decode cX7_box 11 = .ok (.aload_n 0, 1) := by decide +kernel
theorem dX7_box_12 : decode cX7_box 12 = .ok (.invokevirtual 229, 3) := by decide +kernel
theorem dX7_box_15 : decode cX7_box 15 = .ok (.ifCond .eq 6, 3) := by decide +kernel
theorem dX7_box_18 : decode cX7_box 18 = .ok (.ldc 161, 2) := by decide +kernel
theorem dX7_box_20 : decode cX7_box 20 = .ok (.ireturn, 1) := by decide +kernel
theorem dX7_box_21 : decode cX7_box 21 = .ok (.iload_n 1, 1) := by decide +kernel
theorem dX7_box_22 : decode cX7_box 22 = .ok (.ifCond .lt 18, 3) := by decide +kernel
theorem dX7_box_25 : decode cX7_box 25 = .ok (.iload_n 1, 1) := by decide +kernel
theorem dX7_box_26 : decode cX7_box 26 = .ok (.ldc 232, 2) := by decide +kernel
theorem dX7_box_28 : decode cX7_box 28 = .ok (.if_icmp .gt 12, 3) := by decide +kernel
theorem dX7_box_31 : decode cX7_box 31 = .ok (.aload_n 0, 1) := by decide +kernel
theorem dX7_box_32 : decode cX7_box 32 = .ok (.iload_n 1, 1) := by decide +kernel
theorem dX7_box_33 : decode cX7_box 33 = .ok (.invokevirtual 233, 3) := by decide +kernel
theorem dX7_box_36 : decode cX7_box 36 = .ok (.iload_n 1, 1) := by decide +kernel
theorem dX7_box_37 : decode cX7_box 37 = .ok (.if_icmp .gt 6, 3) := by decide +kernel
theorem dX7_box_40 : decode cX7_box 40 = .ok (.ldc 112, 2) := by decide +kernel
theorem dX7_box_42 : decode cX7_box 42 = .ok (.ireturn, 1) := by decide +kernel
theorem dX7_box_43 : decode cX7_box 43 = .ok (.aload_n 0, 1) := by decide +kernel
theorem dX7_box_44 : decode cX7_box 44 = .ok (.getfield 66, 3) := by decide +kernel
theorem dX7_box_47 : decode cX7_box 47 = .ok (.bipush 13, 2) := by decide +kernel
theorem dX7_box_49 : decode cX7_box 49 = .ok (.iload_n 2, 1) := by decide +kernel
theorem dX7_box_50 : decode cX7_box 50 = .ok (.imul, 1) := by decide +kernel
theorem dX7_box_51 : decode cX7_box 51 = .ok (.aload_n 0, 1) := by decide +kernel
