theorem dX2_pick_48 : decode cX2_pick 48 = .ok (.iinc 5 1, 3) := by decide +kernel
theorem dX2_pick_51 : decode cX2_pick 51 = .ok (.goto (-28), 3) := by decide +kernel
theorem dX2_pick_54 : decode cX2_pick 54 = .ok (.iconst 0, 1) := by decide +kernel
theorem dX2_pick_55 : decode cX2_pick 55 = .ok (.istore 5, 2) := by decide +kernel
theorem dX2_pick_57 : decode cX2_pick 57 = .ok (.iload 5, 2) := by decide +kernel
theorem dX2_pick_59 : decode cX2_pick 59 = .ok (.aload_n 0, 1) := by decide +kernel
theorem dX2_pick_60 : decode cX2_pick 60 = .ok (.getfield 37, 3) := by decide +kernel
theorem dX2_pick_63 : decode cX2_pick 63 = .ok (.if_icmp .ge 18, 3) := by decide +kernel
theorem dX2_pick_66 : decode cX2_pick 66 = .ok (.aload_n 0, 1) := by decide +kernel
theorem dX2_pick_67 : decode cX2_pick 67 = .ok (.aload_n 1, 1) := by decide +kernel
theorem dX2_pick_68 : decode cX2_pick 68 = .ok (.iload 5, 2) := by decide +kernel
theorem dX2_pick_70 : decode cX2_pick 70 = .ok (.lload_n 3, 1) := by decide +kernel
theorem dX2_pick_71 : decode cX2_pick 71 = .ok (.iconst 1, 1) := by decide +kernel
theorem dX2_pick_72 : decode cX2_pick 72 = .ok (.invokevirtual 40, 3) := by decide +kernel
theorem dX2_pick_75 : decode cX2_pick 75 = .ok (.iinc 5 1, 3) := by decide +kernel
theorem dX2_pick_78 : decode cX2_pick 78 = .ok (.goto (-21), 3) := by decide +kernel
theorem dX2_pick_81 : decode cX2_pick 81 = .ok (.aload_n 0, 1) := by decide +kernel
theorem dX2_pick_82 : decode cX2_pick 82 = .ok (.iconst 0, 1) := by decide +kernel
theorem dX2_pick_83 : decode cX2_pick 83 = .ok (.putfield 20, 3) := by decide +kernel
theorem dX2_pick_86 : decode cX2_pick 86 = .ok (.aload_n 0, 1) := by decide +kernel
theorem dX2_pick_87 : decode cX2_pick 87 = .ok (.getfield 37, 3) := by decide +kernel
theorem dX2_pick_90 : decode cX2_pick 90 = .ok (.istore 5, 2) := by decide +kernel
theorem dX2_pick_92 : decode cX2_pick 92 = .ok (.iconst 0, 1) := by decide +kernel
theorem dX2_pick_93 : decode cX2_pick 93 = .ok (.istore 6, 2) := by decide +kernel
theorem dX2_pick_95 : decode cX2_pick 95 = .ok (.iload 6, 2) := by decide +kernel
theorem dX2_pick_97 : decode cX2_pick 97 = .ok (.aload_n 0, 1) := by decide +kernel
theorem dX2_pick_98 : decode cX2_pick 98 = .ok (.getfield 37, 3) := by decide +kernel
theorem dX2_pick_101 : decode cX2_pick 101 = .ok (.if_icmp .ge 51, 3) := by decide +kernel
theorem dX2_pick_104 : decode cX2_pick 104 = .ok (.iload 5, 2) := by decide +kernel
theorem dX2_pick_106 : decode cX2_pick 106 = .ok (.ifCond .le 46, 3) := by decide +kernel
theorem dX2_pick_109 : decode cX2_pick 109 = .ok (.aload_n 0, 1) := by decide +kernel
theorem dX2_pick_110 : decode cX2_pick 110 = .ok (.getfield 9, 3) := by decide +kernel
theorem dX2_pick_113 : decode cX2_pick 113 = .ok (.iload 6, 2) := by decide +kernel
theorem dX2_pick_115 : decode cX2_pick 115 = .ok (.aload_n 0, 1) := by decide +kernel
theorem dX2_pick_116 : decode cX2_pick 116 = .ok (.invokevirtual 44, 3) := by decide +kernel
theorem dX2_pick_119 : decode cX2_pick 119 = .ok (.iastore, 1) := by decide +kernel
theorem dX2_pick_120 : decode cX2_pick 120 = .ok (.iload 5, 2) := by decide +kernel
theorem dX2_pick_122 : decode cX2_pick 122 = .ok (.aload_n 0, 1) := by decide +kernel
theorem dX2_pick_123 : decode cX2_pick 123 = .ok (.aload_n 1, 1) := by decide +kernel
theorem dX2_pick_124 : decode cX2_pick 124 = .ok (.aload_n 0, 1) := by decide +kernel
theorem dX2_pick_125 : decode cX2_pick 125 = .ok (.getfield 9, 3) := by decide +kernel
theorem dX2_pick_128 : decode cX2_pick 128 = .ok (.iload 6, 2) := by decide +kernel
theorem dX2_pick_130 : decode cX2_pick 130 = .ok (.iaload, 1) := by decide +kernel
theorem dX2_pick_131 : decode cX2_pick 131 = .ok (.lload_n 3, 1) := by decide +kernel
theorem dX2_pick_132 : decode cX2_pick 132 = .ok (.invokevirtual 48, 3) := by decide +kernel
theorem dX2_pick_135 : decode cX2_pick 135 = .ok (.isub, 1) := by decide +kernel
theorem dX2_pick_136 : decode cX2_pick 136 = .ok (.istore 5, 2) := by decide +kernel
theorem dX2_pick_138 : decode cX2_pick 138 = .ok (.aload_n 0, 1) := by decide +kernel
theorem dX2_pick_139 : decode cX2_pick 139 = .ok (.iload 6, 2) := by decide +kernel
theorem dX2_pick_141 : decode cX2_pick 141 = .ok (.iconst 1, 1) := by decide +kernel
theorem dX2_pick_142 : decode cX2_pick 142 = .ok (.iadd, 1) := by decide +kernel
theorem dX2_pick_143 : decode cX2_pick 143 = .ok (.putfield 20, 3) := by decide +kernel
theorem dX2_pick_146 : decode cX2_pick 146 = .ok (.iinc 6 1, 3) := by decide +kernel
theorem dX2_pick_149 : decode cX2_pick 149 = .ok (.goto (-54), 3) := by decide +kernel
theorem dX2_pick_152 : decode cX2_pick 152 = .ok (.aload_n 0, 1) := by decide +kernel
theorem dX2_pick_153 : decode cX2_pick 153 = .ok (.getfield 20, 3) := by decide +kernel
theorem dX2_pick_156 : decode cX2_pick 156 = .ok (.ireturn, 1) := by decide +kernel
theorem dX2_furthest_0 : decode cX2_furthest 0 = .ok (.iconst 0, 1) := by decide +kernel
theorem dX2_furthest_1 : decode cX2_furthest 1 = .ok (.istore_n 1, 1) := by decide +kernel
theorem dX2_furthest_2 : decode cX2_furthest 2 = .ok (.iconst 1, 1) := by decide +kernel
theorem dX2_furthest_3 : decode cX2_furthest 3 = .ok (.istore_n 2, 1) := by decide +kernel
theorem dX2_furthest_4 : decode cX2_furthest 4 = .ok (.iload_n 2, 1) := by decide +kernel
theorem dX2_furthest_5 : decode cX2_furthest 5 = .ok (.aload_n 0, 1) := by decide +kernel
theorem dX2_furthest_6 : decode cX2_furthest 6 = .ok (.getfield 37, 3) := by decide +kernel
theorem dX2_furthest_9 : decode cX2_furthest 9 = .ok (.if_icmp .ge 26, 3) := by decide +kernel
theorem dX2_furthest_12 : decode cX2_furthest 12 = .ok (.aload_n 0, 1) := by decide +kernel
theorem dX2_furthest_13 : decode cX2_furthest 13 = .ok (.getfield 13, 3) := by decide +kernel
theorem dX2_furthest_16 : decode cX2_furthest 16 = .ok (.iload_n 2, 1) := by decide +kernel
theorem dX2_furthest_17 : decode cX2_furthest 17 = .ok (.iaload, 1) := by decide +kernel
theorem dX2_furthest_18 : decode cX2_furthest 18 = .ok (.aload_n 0, 1) := by decide +kernel
theorem dX2_furthest_19 : decode cX2_furthest 19 = .ok (.getfield 13, 3) := by decide +kernel
theorem dX2_furthest_22 : decode cX2_furthest 22 = .ok (.iload_n 1, 1) := by decide +kernel
theorem dX2_furthest_23 : decode cX2_furthest 23 = .ok (.iaload, 1) := by decide +kernel
theorem dX2_furthest_24 : decode cX2_furthest 24 = .ok (.if_icmp .le 5, 3) := by decide +kernel
theorem dX2_furthest_27 : decode cX2_furthest 27 = .ok (.iload_n 2, 1) := by decide +kernel
theorem dX2_furthest_28 : decode cX2_furthest 28 = .ok (.istore_n 1, 1) := by decide +kernel
theorem dX2_furthest_29 : decode cX2_furthest 29 = .ok (.iinc 2 1, 3) := by decide +kernel
theorem dX2_furthest_32 : decode cX2_furthest 32 = .ok (.goto (-28), 3) := by decide +kernel
theorem dX2_furthest_35 : decode cX2_furthest 35 = .ok (.iload_n 1, 1) := by decide +kernel
theorem dX2_furthest_36 : decode cX2_furthest 36 = .ok (.ireturn, 1) := by decide +kernel
set_option maxRecDepth 20000 in
theorem ggX2_coverFrom_X2_isNear : GoodIn wsX2_coverFrom wsX2_isNear := goodIn_r _ [7, 8, 9, 10, 11, 12, 13, 24, 25, 26, 27, 28, 29] (by decide +kernel) (by decide +kernel)
set_option maxRecDepth 20000 in
theorem gX2_coverFrom_X2_isNear : GoodIn wsX2_coverFrom (wsV RX2 52 RX2 yX2_isNear wsX2_isNear) := goodIn_app (goodIn_of _ (by decide +kernel)) ggX2_coverFrom_X2_isNear
set_option maxRecDepth 20000 in
theorem ggX2_coverFrom_X2_changeReach : GoodIn wsX2_coverFrom wsX2_changeReach := goodIn_r _ [17, 1, 18, 3, 4, 5, 6, 7, 8, 9, 10, 11, 12, 13, 19, 20, 21, 22, 23, 24, 25, 26, 27, 28, 29] (by decide +kernel) (by decide +kernel)
set_option maxRecDepth 20000 in
theorem gX2_coverFrom_X2_changeReach : GoodIn wsX2_coverFrom (wsV RX2 40 RX2 yX2_changeReach wsX2_changeReach) := goodIn_app (goodIn_of _ (by decide +kernel)) ggX2_coverFrom_X2_changeReach
theorem dX2_coverFrom_0 : decode cX2_coverFrom 0 = .ok (.iconst 0, 1) := by decide +kernel
theorem dX2_coverFrom_1 : decode cX2_coverFrom 1 = .ok (.istore 5, 2) := by decide +kernel
theorem dX2_coverFrom_3 : decode cX2_coverFrom 3 = .ok (.iconst 0, 1) := by decide +kernel
theorem dX2_coverFrom_4 : decode cX2_coverFrom 4 = .ok (.istore 6, 2) := by decide +kernel
theorem dX2_coverFrom_6 : decode cX2_coverFrom 6 = .ok (.iload 6, 2) := by decide +kernel
theorem dX2_coverFrom_8 : decode cX2_coverFrom 8 = .ok (.aload_n 0, 1) := by decide +kernel
theorem dX2_coverFrom_9 : decode cX2_coverFrom 9 = .ok (.getfield 37, 3) := by decide +kernel
theorem dX2_coverFrom_12 : decode cX2_coverFrom 12 = .ok (.if_icmp .ge 51, 3) := by decide +kernel
theorem dX2_coverFrom_15 : decode cX2_coverFrom 15 = .ok (.aload_n 0, 1) := by decide +kernel
theorem dX2_coverFrom_16 : decode cX2_coverFrom 16 = .ok (.getfield 16, 3) := by decide +kernel
theorem dX2_coverFrom_19 : decode cX2_coverFrom 19 = .ok (.iload 6, 2) := by decide +kernel
theorem dX2_coverFrom_21 : decode cX2_coverFrom 21 = .ok (.baload, 1) := by decide +kernel
theorem dX2_coverFrom_22 : decode cX2_coverFrom 22 = .ok (.ifCond .ne 35, 3) := by decide +kernel
theorem dX2_coverFrom_25 : decode cX2_coverFrom 25 = .ok (.aload_n 0, 1) := by decide +kernel
theorem dX2_coverFrom_26 : decode cX2_coverFrom 26 = .ok (.aload_n 1, 1) := by decide +kernel
theorem dX2_coverFrom_27 : decode cX2_coverFrom 27 = .ok (.iload_n 2, 1) := by decide +kernel
theorem dX2_coverFrom_28 : decode cX2_coverFrom 28 = .ok (.iload 6, 2) := by decide +kernel
theorem dX2_coverFrom_30 : decode cX2_coverFrom 30 = .ok (.lload_n 3, 1) := by decide +kernel
theorem dX2_coverFrom_31 : decode cX2_coverFrom 31 = .ok (.invokevirtual 52, 3) := by decide +kernel
theorem dX2_coverFrom_34 : decode cX2_coverFrom 34 = .ok (.ifCond .eq 23, 3) := by decide +kernel
theorem dX2_coverFrom_37 : decode cX2_coverFrom 37 = .ok (.aload_n 0, 1) := by decide +kernel
theorem dX2_coverFrom_38 : decode cX2_coverFrom 38 = .ok (.getfield 16, 3) := by decide +kernel
theorem dX2_coverFrom_41 : decode cX2_coverFrom 41 = .ok (.iload 6, 2) := by decide +kernel
theorem dX2_coverFrom_43 : decode cX2_coverFrom 43 = .ok (.iconst 1, 1) := by decide +kernel
theorem dX2_coverFrom_44 : decode cX2_coverFrom 44 = .ok (.bastore, 1) := by decide +kernel
theorem dX2_coverFrom_45 : decode cX2_coverFrom 45 = .ok (.aload_n 0, 1) := by decide +kernel
theorem dX2_coverFrom_46 : decode cX2_coverFrom 46 = .ok (.aload_n 1, 1) := by decide +kernel
theorem dX2_coverFrom_47 : decode cX2_coverFrom 47 = .ok (.iload 6, 2) := by decide +kernel
theorem dX2_coverFrom_49 : decode cX2_coverFrom 49 = .ok (.lload_n 3, 1) := by decide +kernel
theorem dX2_coverFrom_50 : decode cX2_coverFrom 50 = .ok (.iconst (-1), 1) := by decide +kernel
theorem dX2_coverFrom_51 : decode cX2_coverFrom 51 = .ok (.invokevirtual 40, 3) := by decide +kernel
theorem dX2_coverFrom_54 : decode cX2_coverFrom 54 = .ok (.iinc 5 1, 3) := by decide +kernel
theorem dX2_coverFrom_57 : decode cX2_coverFrom 57 = .ok (.iinc 6 1, 3) := by decide +kernel
theorem dX2_coverFrom_60 : decode cX2_coverFrom 60 = .ok (.goto (-54), 3) := by decide +kernel
theorem dX2_coverFrom_63 : decode cX2_coverFrom 63 = .ok (.iload 5, 2) := by decide +kernel
theorem dX2_coverFrom_65 : decode cX2_coverFrom 65 = .ok (.ireturn, 1) := by decide +kernel
set_option maxRecDepth 20000 in
theorem ggX2_changeReach_X2_isNear : GoodIn wsX2_changeReach wsX2_isNear := goodIn_r _ [7, 8, 9, 10, 11, 12, 13, 19, 20, 21, 22, 23, 24] (by decide +kernel) (by decide +kernel)
set_option maxRecDepth 20000 in
theorem gX2_changeReach_X2_isNear : GoodIn wsX2_changeReach (wsV RX2 52 RX2 yX2_isNear wsX2_isNear) := goodIn_app (goodIn_of _ (by decide +kernel)) ggX2_changeReach_X2_isNear
theorem dX2_changeReach_0 : decode cX2_changeReach 0 = .ok (.iconst 0, 1) := by decide +kernel
theorem dX2_changeReach_1 : decode cX2_changeReach 1 = .ok (.istore 6, 2) := by decide +kernel
theorem dX2_changeReach_3 : decode cX2_changeReach 3 = .ok (.iload 6, 2) := by decide +kernel
theorem dX2_changeReach_5 : decode cX2_changeReach 5 = .ok (.aload_n 0, 1) := by decide +kernel
theorem dX2_changeReach_6 : decode cX2_changeReach 6 = .ok (.getfield 37, 3) := by decide +kernel
theorem dX2_changeReach_9 : decode cX2_changeReach 9 = .ok (.if_icmp .ge 33, 3) := by decide +kernel
theorem dX2_changeReach_12 : decode cX2_changeReach 12 = .ok (.aload_n 0, 1) := by decide +kernel
theorem dX2_changeReach_13 : decode cX2_changeReach 13 = .ok (.aload_n 1, 1) := by decide +kernel
theorem dX2_changeReach_14 : decode cX2_changeReach 14 = .ok (.iload 6, 2) := by decide +kernel
theorem dX2_changeReach_16 : decode cX2_changeReach 16 = .ok (.iload_n 2, 1) := by decide +kernel
theorem dX2_changeReach_17 : decode cX2_changeReach 17 = .ok (.lload_n 3, 1) := by decide +kernel
theorem dX2_changeReach_18 : decode cX2_changeReach 18 = .ok (.invokevirtual 52, 3) := by decide +kernel
theorem dX2_changeReach_21 : decode cX2_changeReach 21 = .ok (.ifCond .eq 15, 3) := by decide +kernel
theorem dX2_changeReach_24 : decode cX2_changeReach 24 = .ok (.aload_n 0, 1) := by decide +kernel
theorem dX2_changeReach_25 : decode cX2_changeReach 25 = .ok (.getfield 13, 3) := by decide +kernel
theorem dX2_changeReach_28 : decode cX2_changeReach 28 = .ok (.iload 6, 2) := by decide +kernel
theorem dX2_changeReach_30 : decode cX2_changeReach 30 = .ok (.dup2, 1) := by decide +kernel
theorem dX2_changeReach_31 : decode cX2_changeReach 31 = .ok (.iaload, 1) := by decide +kernel
theorem dX2_changeReach_32 : decode cX2_changeReach 32 = .ok (.iload 5, 2) := by decide +kernel
theorem dX2_changeReach_34 : decode cX2_changeReach 34 = .ok (.iadd, 1) := by decide +kernel
theorem dX2_changeReach_35 : decode cX2_changeReach 35 = .ok (.iastore, 1) := by decide +kernel
theorem dX2_changeReach_36 : decode cX2_changeReach 36 = .ok (.iinc 6 1, 3) := by decide +kernel
theorem dX2_changeReach_39 : decode cX2_changeReach 39 = .ok (.goto (-36), 3) := by decide +kernel
theorem dX2_changeReach_42 : decode cX2_changeReach 42 = .ok (.return_, 1) := by decide +kernel
set_option maxRecDepth 20000 in
theorem ggX2_isNear_X4_inNoneGreater : GoodIn wsX2_isNear wsX4_inNoneGreater := goodIn_r _ [5, 6] (by decide +kernel) (by decide +kernel)
set_option maxRecDepth 20000 in
theorem gX2_isNear_X4_inNoneGreater : GoodIn wsX2_isNear (va_wsS RX2 59 yX4_inNoneGreater wsX4_inNoneGreater) := goodIn_app (goodIn_of _ (by decide +kernel)) ggX2_isNear_X4_inNoneGreater
theorem dX2_isNear_0 : decode cX2_isNear 0 = .ok (.aload_n 1, 1) := by decide +kernel
theorem dX2_isNear_1 : decode cX2_isNear 1 = .ok (.getfield 56, 3) := by decide +kernel
theorem dX2_isNear_4 : decode cX2_isNear 4 = .ok (.iload_n 2, 1) := by decide +kernel
theorem dX2_isNear_5 : decode cX2_isNear 5 = .ok (.laload, 1) := by decide +kernel
theorem dX2_isNear_6 : decode cX2_isNear 6 = .ok (.aload_n 1, 1) := by decide +kernel
theorem dX2_isNear_7 : decode cX2_isNear 7 = .ok (.getfield 56, 3) := by decide +kernel
theorem dX2_isNear_10 : decode cX2_isNear 10 = .ok (.iload_n 3, 1) := by decide +kernel
theorem dX2_isNear_11 : decode cX2_isNear 11 = .ok (.laload, 1) := by decide +kernel
theorem dX2_isNear_12 : decode cX2_isNear 12 = .ok (.lload 4, 2) := by decide +kernel
theorem dX2_isNear_14 : decode cX2_isNear 14 = .ok (.ladd, 1) := by decide +kernel
theorem dX2_isNear_15 : decode cX2_isNear 15 = .ok (.invokestatic 59, 3) := by decide +kernel
theorem dX2_isNear_18 : decode cX2_isNear 18 = .ok (.ireturn, 1) := by decide +kernel
theorem dX3_init_0 : decode cX3_init 0 = .ok (.aload_n 0, 1) := by decide +kernel
theorem dX3_init_1 : decode cX3_init 1 = .ok (.invokespecial 3, 3) := by decide +kernel
theorem dX3_init_4 : decode cX3_init 4 = .ok (.aload_n 0, 1) := by decide +kernel
theorem dX3_init_5 : decode cX3_init 5 = .ok (.sipush 2000, 3) := by decide +kernel
theorem dX3_init_8 : decode cX3_init 8 = .ok (.newarray .long, 2) := by decide +kernel
theorem dX3_init_10 : decode cX3_init 10 = .ok (.putfield 9, 3) := by decide +kernel
theorem dX3_init_13 : decode cX3_init 13 = .ok (.aload_n 0, 1) := by decide +kernel
theorem dX3_init_14 : decode cX3_init 14 = .ok (.sipush 2000, 3) := by decide +kernel
theorem dX3_init_17 : decode cX3_init 17 = .ok (.newarray .int, 2) := by decide +kernel
theorem dX3_init_19 : decode cX3_init 19 = .ok (.putfield 15, 3) := by decide +kernel
theorem dX3_init_22 : decode cX3_init 22 = .ok (.aload_n 0, 1) := by decide +kernel
theorem dX3_init_23 : decode cX3_init 23 = .ok (.sipush 2000, 3) := by decide +kernel
theorem dX3_init_26 : decode cX3_init 26 = .ok (.newarray .int, 2) := by decide +kernel
theorem dX3_init_28 : decode cX3_init 28 = .ok (.putfield 19, 3) := by decide +kernel
theorem dX3_init_31 : decode cX3_init 31 = .ok (.aload_n 0, 1) := by decide +kernel
theorem dX3_init_32 : decode cX3_init 32 = .ok (.iconst 4, 1) := by decide +kernel
theorem dX3_init_33 : decode cX3_init 33 = .ok (.newarray .int, 2) := by decide +kernel
theorem dX3_init_35 : decode cX3_init 35 = .ok (.putfield 22, 3) := by decide +kernel
theorem dX3_init_38 : decode cX3_init 38 = .ok (.aload_n 0, 1) := by decide +kernel
theorem dX3_init_39 : decode cX3_init 39 = .ok (.iconst 4, 1) := by decide +kernel
theorem dX3_init_40 : decode cX3_init 40 = .ok (.newarray .long, 2) := by decide +kernel
theorem dX3_init_42 : decode cX3_init 42 = .ok (.putfield 25, 3) := by decide +kernel
theorem dX3_init_45 : decode cX3_init 45 = .ok (.return_, 1) := by decide +kernel
set_option maxRecDepth 20000 in
theorem ggX3_meet_X3_placeOf : GoodIn wsX3_meet wsX3_placeOf := goodIn_r _ [8, 1, 2, 35, 36, 37, 38, 39, 40] (by decide +kernel) (by decide +kernel)
set_option maxRecDepth 20000 in
theorem gX3_meet_X3_placeOf : GoodIn wsX3_meet (wsV RX3 28 RX3 yX3_placeOf wsX3_placeOf) := goodIn_app (goodIn_of _ (by decide +kernel)) ggX3_meet_X3_placeOf
set_option maxRecDepth 20000 in
theorem ggX3_meet_X3_isBeaten : GoodIn wsX3_meet wsX3_isBeaten := goodIn_r _ [12, 2, 13, 14, 15, 16, 17, 35, 36, 37, 38, 39, 40] (by decide +kernel) (by decide +kernel)
set_option maxRecDepth 20000 in
theorem gX3_meet_X3_isBeaten : GoodIn wsX3_meet (wsV RX3 36 RX3 yX3_isBeaten wsX3_isBeaten) := goodIn_app (goodIn_of _ (by decide +kernel)) ggX3_meet_X3_isBeaten
set_option maxRecDepth 20000 in
theorem ggX3_meet_X3_dropBeaten : GoodIn wsX3_meet wsX3_dropBeaten := goodIn_r _ [21, 1, 2, 13, 14, 15, 16, 17, 22, 23, 24, 7, 25, 26, 3, 35, 36, 37, 38, 39, 40] (by decide +kernel) (by decide +kernel)
set_option maxRecDepth 20000 in
theorem gX3_meet_X3_dropBeaten : GoodIn wsX3_meet (wsV RX3 40 RX3 yX3_dropBeaten wsX3_dropBeaten) := goodIn_app (goodIn_of _ (by decide +kernel)) ggX3_meet_X3_dropBeaten
set_option maxRecDepth 20000 in
theorem ggX3_meet_X3_insert : GoodIn wsX3_meet wsX3_insert := goodIn_r _ [30, 1, 2, 31, 32, 33, 34, 26, 3, 35, 36, 37, 38, 39, 40] (by decide +kernel) (by decide +kernel)
set_option maxRecDepth 20000 in
theorem gX3_meet_X3_insert : GoodIn wsX3_meet (wsV RX3 44 RX3 yX3_insert wsX3_insert) := goodIn_app (goodIn_of _ (by decide +kernel)) ggX3_meet_X3_insert
theorem dX3_meet_0 : decode cX3_meet 0 = .ok (.aload_n 0, 1) := by decide +kernel
theorem dX3_meet_1 : decode cX3_meet 1 = .ok (.lload_n 1, 1) := by decide +kernel
theorem dX3_meet_2 : decode cX3_meet 2 = .ok (.invokevirtual 28, 3) := by decide +kernel
theorem dX3_meet_5 : decode cX3_meet 5 = .ok (.istore 4, 2) := by decide +kernel
theorem dX3_meet_7 : decode cX3_meet 7 = .ok (.iload 4, 2) := by decide +kernel
theorem dX3_meet_9 : decode cX3_meet 9 = .ok (.aload_n 0, 1) := by decide +kernel
theorem dX3_meet_10 : decode cX3_meet 10 = .ok (.getfield 32, 3) := by decide +kernel
theorem dX3_meet_13 : decode cX3_meet 13 = .ok (.if_icmp .ge 29, 3) := by decide +kernel
theorem dX3_meet_16 : decode cX3_meet 16 = .ok (.aload_n 0, 1) := by decide +kernel
theorem dX3_meet_17 : decode cX3_meet 17 = .ok (.getfield 9, 3) := by decide +kernel
theorem dX3_meet_20 : decode cX3_meet 20 = .ok (.iload 4, 2) := by decide +kernel
theorem dX3_meet_22 : decode cX3_meet 22 = .ok (.laload, 1) := by decide +kernel
theorem dX3_meet_23 : decode cX3_meet 23 = .ok (.lload_n 1, 1) := by decide +kernel
theorem dX3_meet_24 : decode cX3_meet 24 = .ok (.lcmp, 1) := by decide +kernel
theorem dX3_meet_25 : decode cX3_meet 25 = .ok (.ifCond .ne 17, 3) := by decide +kernel
theorem dX3_meet_28 : decode cX3_meet 28 = .ok (.aload_n 0, 1) := by decide +kernel
theorem dX3_meet_29 : decode cX3_meet 29 = .ok (.getfield 19, 3) := by decide +kernel
theorem dX3_meet_32 : decode cX3_meet 32 = .ok (.iload 4, 2) := by decide +kernel
theorem dX3_meet_34 : decode cX3_meet 34 = .ok (.dup2, 1) := by decide +kernel
theorem dX3_meet_35 : decode cX3_meet 35 = .ok (.iaload, 1) := by decide +kernel
theorem dX3_meet_36 : decode cX3_meet 36 = .ok (.iconst 1, 1) := by decide +kernel
theorem dX3_meet_37 : decode cX3_meet 37 = .ok (.iadd, 1) := by decide +kernel
theorem dX3_meet_38 : decode cX3_meet 38 = .ok (.iastore, 1) := by decide +kernel
theorem dX3_meet_39 : decode cX3_meet 39 = .ok (.goto 28, 3) := by decide +kernel
theorem dX3_meet_42 : decode cX3_meet 42 = .ok (.aload_n 0, 1) := by decide +kernel
theorem dX3_meet_43 : decode cX3_meet 43 = .ok (.lload_n 1, 1) := by decide +kernel
theorem dX3_meet_44 : decode cX3_meet 44 = .ok (.iload 4, 2) := by decide +kernel
theorem dX3_meet_46 : decode cX3_meet 46 = .ok (.invokevirtual 36, 3) := by decide +kernel
theorem dX3_meet_49 : decode cX3_meet 49 = .ok (.ifCond .ne 18, 3) := by decide +kernel
theorem dX3_meet_52 : decode cX3_meet 52 = .ok (.aload_n 0, 1) := by decide +kernel
theorem dX3_meet_53 : decode cX3_meet 53 = .ok (.lload_n 1, 1) := by decide +kernel
theorem dX3_meet_54 : decode cX3_meet 54 = .ok (.iload 4, 2) := by decide +kernel
theorem dX3_meet_56 : decode cX3_meet 56 = .ok (.invokevirtual 40, 3) := by decide +kernel
theorem dX3_meet_59 : decode cX3_meet 59 = .ok (.aload_n 0, 1) := by decide +kernel
theorem dX3_meet_60 : decode cX3_meet 60 = .ok (.iload 4, 2) := by decide +kernel
theorem dX3_meet_62 : decode cX3_meet 62 = .ok (.lload_n 1, 1) := by decide +kernel
theorem dX3_meet_63 : decode cX3_meet 63 = .ok (.iload_n 3, 1) := by decide +kernel
theorem dX3_meet_64 : decode cX3_meet 64 = .ok (.invokevirtual 44, 3) := by decide +kernel
theorem dX3_meet_67 : decode cX3_meet 67 = .ok (.return_, 1) := by decide +kernel
theorem dX3_placeOf_0 : decode cX3_placeOf 0 = .ok (.iconst 0, 1) := by decide +kernel
theorem dX3_placeOf_1 : decode cX3_placeOf 1 = .ok (.istore_n 3, 1) := by decide +kernel
theorem dX3_placeOf_2 : decode cX3_placeOf 2 = .ok (.aload_n 0, 1) := by decide +kernel
theorem dX3_placeOf_3 : decode cX3_placeOf 3 = .ok (.getfield 32, 3) := by decide +kernel
theorem dX3_placeOf_6 : decode cX3_placeOf 6 = .ok (.istore 4, 2) := by decide +kernel
theorem dX3_placeOf_8 : decode cX3_placeOf 8 = .ok (.iload_n 3, 1) := by decide +kernel
theorem dX3_placeOf_9 : decode cX3_placeOf 9 = .ok (.iload 4, 2) := by decide +kernel
theorem dX3_placeOf_11 : decode cX3_placeOf 11 = .ok (.if_icmp .ge 38, 3) := by decide +kernel
theorem dX3_placeOf_14 : decode cX3_placeOf 14 = .ok (.iload_n 3, 1) := by decide +kernel
theorem dX3_placeOf_15 : decode cX3_placeOf 15 = .ok (.iload 4, 2) := by decide +kernel
theorem dX3_placeOf_17 : decode cX3_placeOf 17 = .ok (.iadd, 1) := by decide +kernel
theorem dX3_placeOf_18 : decode cX3_placeOf 18 = .ok (.iconst 1, 1) := by decide +kernel
theorem dX3_placeOf_19 : decode cX3_placeOf 19 = .ok (.iushr, 1) := by decide +kernel
theorem dX3_placeOf_20 : decode cX3_placeOf 20 = .ok (.istore 5, 2) := by decide +kernel
theorem dX3_placeOf_22 : decode cX3_placeOf 22 = .ok (.aload_n 0, 1) := by decide +kernel
theorem dX3_placeOf_23 : decode cX3_placeOf 23 = .ok (.getfield 9, 3) := by decide +kernel
theorem dX3_placeOf_26 : decode cX3_placeOf 26 = .ok (.iload 5, 2) := by decide +kernel
theorem dX3_placeOf_28 : decode cX3_placeOf 28 = .ok (.laload, 1) := by decide +kernel
theorem dX3_placeOf_29 : decode cX3_placeOf 29 = .ok (.lload_n 1, 1) := by decide +kernel
theorem dX3_placeOf_30 : decode cX3_placeOf 30 = .ok (.lcmp, 1) := by decide +kernel
theorem dX3_placeOf_31 : decode cX3_placeOf 31 = .ok (.ifCond .ge 11, 3) := by decide +kernel
theorem dX3_placeOf_34 : decode cX3_placeOf 34 = .ok (.iload 5, 2) := by decide +kernel
theorem dX3_placeOf_36 : decode cX3_placeOf 36 = .ok (.iconst 1, 1) := by decide +kernel
theorem dX3_placeOf_37 : decode cX3_placeOf 37 = .ok (.iadd, 1) := by decide +kernel
theorem dX3_placeOf_38 : decode cX3_placeOf 38 = .ok (.istore_n 3, 1) := by decide +kernel
theorem dX3_placeOf_39 : decode cX3_placeOf 39 = .ok (.goto 7, 3) := by decide +kernel
theorem dX3_placeOf_42 : decode cX3_placeOf 42 = .ok (.iload 5, 2) := by decide +kernel
theorem dX3_placeOf_44 : decode cX3_placeOf 44 = .ok (.istore 4, 2) := by decide +kernel
theorem dX3_placeOf_46 : decode cX3_placeOf 46 = .ok (.goto (-38), 3) := by decide +kernel
theorem dX3_placeOf_49 : decode cX3_placeOf 49 = .ok (.iload_n 3, 1) := by decide +kernel
theorem dX3_placeOf_50 : decode cX3_placeOf 50 = .ok (.ireturn, 1) := by decide +kernel
set_option maxRecDepth 20000 in
theorem ggX3_isBeaten_X4_inNoneGreater : GoodIn wsX3_isBeaten wsX4_inNoneGreater := goodIn_r _ [5, 6] (by decide +kernel) (by decide +kernel)
set_option maxRecDepth 20000 in
theorem gX3_isBeaten_X4_inNoneGreater : GoodIn wsX3_isBeaten (va_wsS RX3 48 yX4_inNoneGreater wsX4_inNoneGreater) := goodIn_app (goodIn_of _ (by decide +kernel)) ggX3_isBeaten_X4_inNoneGreater
theorem dX3_isBeaten_0 : decode cX3_isBeaten 0 = .ok (.iconst 0, 1) := by decide +kernel
theorem dX3_isBeaten_1 : decode cX3_isBeaten 1 = .ok (.istore 4, 2) := by decide +kernel
theorem dX3_isBeaten_3 : decode cX3_isBeaten 3 = .ok (.iload 4, 2) := by decide +kernel
theorem dX3_isBeaten_5 : decode cX3_isBeaten 5 = .ok (.iload_n 3, 1) := by decide +kernel
theorem dX3_isBeaten_6 : decode cX3_isBeaten 6 = .ok (.if_icmp .ge 25, 3) := by decide +kernel
theorem dX3_isBeaten_9 : decode cX3_isBeaten 9 = .ok (.aload_n 0, 1) := by decide +kernel
theorem dX3_isBeaten_10 : decode cX3_isBeaten 10 = .ok (.getfield 9, 3) := by decide +kernel
theorem dX3_isBeaten_13 : decode cX3_isBeaten 13 = .ok (.iload 4, 2) := by decide +kernel
theorem dX3_isBeaten_15 : decode cX3_isBeaten 15 = .ok (.laload, 1) := by decide +kernel
theorem dX3_isBeaten_16 : decode cX3_isBeaten 16 = .ok (.lload_n 1, 1) := by decide +kernel
theorem dX3_isBeaten_17 : decode cX3_isBeaten 17 = .ok (.invokestatic 48, 3) := by decide +kernel
theorem dX3_isBeaten_20 : decode cX3_isBeaten 20 = .ok (.ifCond .eq 5, 3) := by decide +kernel
theorem dX3_isBeaten_23 : decode cX3_isBeaten 23 = .ok (.iconst 1, 1) := by decide +kernel
theorem dX3_isBeaten_24 : decode cX3_isBeaten 24 = .ok (.ireturn, 1) := by decide +kernel
theorem dX3_isBeaten_25 : decode cX3_isBeaten 25 = .ok (.iinc 4 1, 3) := by decide +kernel
theorem dX3_isBeaten_28 : decode cX3_isBeaten 28 = .ok (.goto (-25), 3) := by decide +kernel
theorem dX3_isBeaten_31 : decode cX3_isBeaten 31 = .ok (.iconst 0, 1) := by decide +kernel
theorem dX3_isBeaten_32 : decode cX3_isBeaten 32 = .ok (.ireturn, 1) := by decide +kernel
set_option maxRecDepth 20000 in
theorem ggX3_dropBeaten_X4_inNoneGreater : GoodIn wsX3_dropBeaten wsX4_inNoneGreater := goodIn_r _ [6, 7] (by decide +kernel) (by decide +kernel)
set_option maxRecDepth 20000 in
theorem gX3_dropBeaten_X4_inNoneGreater : GoodIn wsX3_dropBeaten (va_wsS RX3 48 yX4_inNoneGreater wsX4_inNoneGreater) := goodIn_app (goodIn_of _ (by decide +kernel)) ggX3_dropBeaten_X4_inNoneGreater
set_option maxRecDepth 20000 in
theorem ggX3_dropBeaten_X3_move : GoodIn wsX3_dropBeaten wsX3_move := goodIn_r _ [12, 2, 13, 14, 15, 16, 17, 18, 19, 20] (by decide +kernel) (by decide +kernel)
set_option maxRecDepth 20000 in
theorem gX3_dropBeaten_X3_move : GoodIn wsX3_dropBeaten (wsV RX3 54 RX3 yX3_move wsX3_move) := goodIn_app (goodIn_of _ (by decide +kernel)) ggX3_dropBeaten_X3_move
theorem dX3_dropBeaten_0 : decode cX3_dropBeaten 0 = .ok (.iload_n 3, 1) := by decide +kernel
theorem dX3_dropBeaten_1 : decode cX3_dropBeaten 1 = .ok (.istore 4, 2) := by decide +kernel
theorem dX3_dropBeaten_3 : decode cX3_dropBeaten 3 = .ok (.iload_n 3, 1) := by decide +kernel
theorem dX3_dropBeaten_4 : decode cX3_dropBeaten 4 = .ok (.istore 5, 2) := by decide +kernel
theorem dX3_dropBeaten_6 : decode cX3_dropBeaten 6 = .ok (.iload 5, 2) := by decide +kernel
theorem dX3_dropBeaten_8 : decode cX3_dropBeaten 8 = .ok (.aload_n 0, 1) := by decide +kernel
theorem dX3_dropBeaten_9 : decode cX3_dropBeaten 9 = .ok (.getfield 32, 3) := by decide +kernel
theorem dX3_dropBeaten_12 : decode cX3_dropBeaten 12 = .ok (.if_icmp .ge 34, 3) := by decide +kernel
theorem dX3_dropBeaten_15 : decode cX3_dropBeaten 15 = .ok (.lload_n 1, 1) := by decide +kernel
theorem dX3_dropBeaten_16 : decode cX3_dropBeaten 16 = .ok (.aload_n 0, 1) := by decide +kernel
theorem dX3_dropBeaten_17 : decode cX3_dropBeaten 17 = .ok (.getfield 9, 3) := by decide +kernel
theorem dX3_dropBeaten_20 : decode cX3_dropBeaten 20 = .ok (.iload 5, 2) := by decide +kernel
theorem dX3_dropBeaten_22 : decode cX3_dropBeaten 22 = .ok (.laload, 1) := by decide +kernel
theorem dX3_dropBeaten_23 : decode cX3_dropBeaten 23 = .ok (.invokestatic 48, 3) := by decide +kernel
theorem dX3_dropBeaten_26 : decode cX3_dropBeaten 26 = .ok (.ifCond .ne 14, 3) := by decide +kernel
theorem dX3_dropBeaten_29 : decode cX3_dropBeaten 29 = .ok (.aload_n 0, 1) := by decide +kernel
theorem dX3_dropBeaten_30 : decode cX3_dropBeaten 30 = .ok (.iload 5, 2) := by decide +kernel
theorem dX3_dropBeaten_32 : decode cX3_dropBeaten 32 = .ok (.iload 4, 2) := by decide +kernel
theorem dX3_dropBeaten_34 : decode cX3_dropBeaten 34 = .ok (.invokevirtual 54, 3) := by decide +kernel
theorem dX3_dropBeaten_37 : decode cX3_dropBeaten 37 = .ok (.iinc 4 1, 3) := by decide +kernel
theorem dX3_dropBeaten_40 : decode cX3_dropBeaten 40 = .ok (.iinc 5 1, 3) := by decide +kernel
theorem dX3_dropBeaten_43 : decode cX3_dropBeaten 43 = .ok (.goto (-37), 3) := by decide +kernel
theorem dX3_dropBeaten_46 : decode cX3_dropBeaten 46 = .ok (.aload_n 0, 1) := by decide +kernel
theorem dX3_dropBeaten_47 : decode cX3_dropBeaten 47 = .ok (.iload 4, 2) := by decide +kernel
theorem dX3_dropBeaten_49 : decode cX3_dropBeaten 49 = .ok (.putfield 32, 3) := by decide +kernel
theorem dX3_dropBeaten_52 : decode cX3_dropBeaten 52 = .ok (.return_, 1) := by decide +kernel
theorem dX3_move_0 : decode cX3_move 0 = .ok (.iload_n 1, 1) := by decide +kernel
theorem dX3_move_1 : decode cX3_move 1 = .ok (.iload_n 2, 1) := by decide +kernel
theorem dX3_move_2 : decode cX3_move 2 = .ok (.if_icmp .eq 39, 3) := by decide +kernel
theorem dX3_move_5 : decode cX3_move 5 = .ok (.aload_n 0, 1) := by decide +kernel
theorem dX3_move_6 : decode cX3_move 6 = .ok (.getfield 9, 3) := by decide +kernel
theorem dX3_move_9 : decode cX3_move 9 = .ok (.iload_n 2, 1) := by decide +kernel
theorem dX3_move_10 : decode cX3_move 10 = .ok (.aload_n 0, 1) := by decide +kernel
theorem dX3_move_11 : decode cX3_move 11 = .ok (.getfield 9, 3) := by decide +kernel
theorem dX3_move_14 : decode cX3_move 14 = .ok (.iload_n 1, 1) := by decide +kernel
theorem dX3_move_15 : decode cX3_move 15 = .ok (.laload, 1) := by decide +kernel
theorem dX3_move_16 : decode cX3_move 16 = .ok (.lastore, 1) := by decide +kernel
theorem dX3_move_17 : decode cX3_move 17 = .ok (.aload_n 0, 1) := by decide +kernel
theorem dX3_move_18 : decode cX3_move 18 = .ok (.getfield 15, 3) := by decide +kernel
theorem dX3_move_21 : decode cX3_move 21 = .ok (.iload_n 2, 1) := by decide +kernel
theorem dX3_move_22 : decode cX3_move 22 = .ok (.aload_n 0, 1) := by decide +kernel
theorem dX3_move_23 : decode cX3_move 23 = .ok (.getfield 15, 3) := by decide +kernel
theorem dX3_move_26 : decode cX3_move 26 = .ok (.iload_n 1, 1) := by decide +kernel
theorem dX3_move_27 : decode cX3_move 27 = .ok (.iaload, 1) := by decide +kernel
theorem dX3_move_28 : decode cX3_move 28 = .ok (.iastore, 1) := by decide +kernel
theorem dX3_move_29 : decode cX3_move 29 = .ok (.aload_n 0, 1) := by decide +kernel
theorem dX3_move_30 : decode cX3_move 30 = .ok (.getfield 19, 3) := by decide +kernel
theorem dX3_move_33 : decode cX3_move 33 = .ok (.iload_n 2, 1) := by decide +kernel
theorem dX3_move_34 : decode cX3_move 34 = .ok (.aload_n 0, 1) := by decide +kernel
theorem dX3_move_35 : decode cX3_move 35 = .ok (.getfield 19, 3) := by decide +kernel
theorem dX3_move_38 : decode cX3_move 38 = .ok (.iload_n 1, 1) := by decide +kernel
theorem dX3_move_39 : decode cX3_move 39 = .ok (.iaload, 1) := by decide +kernel
theorem dX3_move_40 : decode cX3_move 40 = .ok (.iastore, 1) := by decide +kernel
theorem dX3_move_41 : decode cX3_move 41 = .ok (.return_, 1) := by decide +kernel
theorem dX3_insert_0 : decode cX3_insert 0 = .ok (.aload_n 0, 1) := by decide +kernel
theorem dX3_insert_1 : decode cX3_insert 1 = .ok (.getfield 32, 3) := by decide +kernel
theorem dX3_insert_4 : decode cX3_insert 4 = .ok (.sipush 2000, 3) := by decide +kernel
theorem dX3_insert_7 : decode cX3_insert 7 = .ok (.if_icmp .lt 4, 3) := by decide +kernel
theorem dX3_insert_10 : decode cX3_insert 10 = .ok (.return_, 1) := by decide +kernel
theorem dX3_insert_11 : decode cX3_insert 11 = .ok (.aload_n 0, 1) := by decide +kernel
theorem dX3_insert_12 : decode cX3_insert 12 = .ok (.getfield 9, 3) := by decide +kernel
theorem dX3_insert_15 : decode cX3_insert 15 = .ok (.iload_n 1, 1) := by decide +kernel
theorem dX3_insert_16 : decode cX3_insert 16 = .ok (.aload_n 0, 1) := by decide +kernel
theorem dX3_insert_17 : decode cX3_insert 17 = .ok (.getfield 9, 3) := by decide +kernel
theorem dX3_insert_20 : decode cX3_insert 20 = .ok (.iload_n 1, 1) := by decide +kernel
theorem dX3_insert_21 : decode cX3_insert 21 = .ok (.iconst 1, 1) := by decide +kernel
theorem dX3_insert_22 : decode cX3_insert 22 = .ok (.iadd, 1) := by decide +kernel
theorem dX3_insert_23 : decode cX3_insert 23 = .ok (.aload_n 0, 1) := by decide +kernel
theorem dX3_insert_24 : decode cX3_insert 24 = .ok (.getfield 32, 3) := by decide +kernel
theorem dX3_insert_27 : decode cX3_insert 27 = .ok (.iload_n 1, 1) := by decide +kernel
theorem dX3_insert_28 : decode cX3_insert 28 = .ok (.isub, 1) := by decide +kernel
theorem dX3_insert_29 : decode cX3_insert 29 = .ok (.invokestatic 58, 3) := by decide +kernel
theorem dX3_insert_32 : decode cX3_insert 32 = .ok (.aload_n 0, 1) := by decide +kernel
theorem dX3_insert_33 : decode cX3_insert 33 = .ok (.getfield 15, 3) := by decide +kernel
theorem dX3_insert_36 : decode cX3_insert 36 = .ok (.iload_n 1, 1) := by decide +kernel
theorem dX3_insert_37 : decode cX3_insert 37 = .ok (.aload_n 0, 1) := by decide +kernel
theorem dX3_insert_38 : decode cX3_insert 38 = .ok (.getfield 15, 3) := by decide +kernel
theorem dX3_insert_41 : decode cX3_insert 41 = .ok (.iload_n 1, 1) := by decide +kernel
theorem dX3_insert_42 : decode cX3_insert 42 = .ok (.iconst 1, 1) := by decide +kernel
theorem dX3_insert_43 : decode cX3_insert 43 = .ok (.iadd, 1) := by decide +kernel
theorem dX3_insert_44 : decode cX3_insert 44 = .ok (.aload_n 0, 1) := by decide +kernel
theorem dX3_insert_45 : decode cX3_insert 45 = .ok (.getfield 32, 3) := by decide +kernel
theorem dX3_insert_48 : decode cX3_insert 48 = .ok (.iload_n 1, 1) := by decide +kernel
theorem dX3_insert_49 : decode cX3_insert 49 = .ok (.isub, 1) := by decide +kernel
theorem dX3_insert_50 : decode cX3_insert 50 = .ok (.invokestatic 58, 3) := by decide +kernel
theorem dX3_insert_53 : decode cX3_insert 53 = .ok (.aload_n 0, 1) := by decide +kernel
theorem dX3_insert_54 : decode cX3_insert 54 = .ok (.getfield 19, 3) := by decide +kernel
theorem dX3_insert_57 : decode cX3_insert 57 = .ok (.iload_n 1, 1) := by decide +kernel
theorem dX3_insert_58 : decode cX3_insert 58 = .ok (.aload_n 0, 1) := by decide +kernel
theorem dX3_insert_59 : decode cX3_insert 59 = .ok (.getfield 19, 3) := by decide +kernel
theorem dX3_insert_62 : decode cX3_insert 62 = .ok (.iload_n 1, 1) := by decide +kernel
theorem dX3_insert_63 : decode cX3_insert 63 = .ok (.iconst 1, 1) := by decide +kernel
theorem dX3_insert_64 : decode cX3_insert 64 = .ok (.iadd, 1) := by decide +kernel
theorem dX3_insert_65 : decode cX3_insert 65 = .ok (.aload_n 0, 1) := by decide +kernel
theorem dX3_insert_66 : decode cX3_insert 66 = .ok (.getfield 32, 3) := by decide +kernel
theorem dX3_insert_69 : decode cX3_insert 69 = .ok (.iload_n 1, 1) := by decide +kernel
theorem dX3_insert_70 : decode cX3_insert 70 = .ok (.isub, 1) := by decide +kernel
theorem dX3_insert_71 : decode cX3_insert 71 = .ok (.invokestatic 58, 3) := by decide +kernel
theorem dX3_insert_74 : decode cX3_insert 74 = .ok (.aload_n 0, 1) := by decide +kernel
theorem dX3_insert_75 : decode cX3_insert 75 = .ok (.getfield 9, 3) := by decide +kernel
theorem dX3_insert_78 : decode cX3_insert 78 = .ok (.iload_n 1, 1) := by decide +kernel
theorem dX3_insert_79 : decode cX3_insert 79 = .ok (.lload_n 2, 1) := by decide +kernel
theorem dX3_insert_80 : decode cX3_insert 80 = .ok (.lastore, 1) := by decide +kernel
theorem dX3_insert_81 : decode cX3_insert 81 = .ok (.aload_n 0, 1) := by decide +kernel
theorem dX3_insert_82 : decode cX3_insert 82 = .ok (.getfield 15, 3) := by decide +kernel
theorem dX3_insert_85 : decode cX3_insert 85 = .ok (.iload_n 1, 1) := by decide +kernel
theorem dX3_insert_86 : decode cX3_insert 86 = .ok (.iload 4, 2) := by decide +kernel
theorem dX3_insert_88 : decode cX3_insert 88 = .ok (.iastore, 1) := by decide +kernel
theorem dX3_insert_89 : decode cX3_insert 89 = .ok (.aload_n 0, 1) := by decide +kernel
theorem dX3_insert_90 : decode cX3_insert 90 = .ok (.getfield 19, 3) := by decide +kernel
theorem dX3_insert_93 : decode cX3_insert 93 = .ok (.iload_n 1, 1) := by decide +kernel
theorem dX3_insert_94 : decode cX3_insert 94 = .ok (.iconst 1, 1) := by decide +kernel
theorem dX3_insert_95 : decode cX3_insert 95 = .ok (.iastore, 1) := by decide +kernel
theorem dX3_insert_96 : decode cX3_insert 96 = .ok (.aload_n 0, 1) := by decide +kernel
theorem dX3_insert_97 : decode cX3_insert 97 = .ok (.dup, 1) := by decide +kernel
theorem dX3_insert_98 : decode cX3_insert 98 = .ok (.getfield 32, 3) := by decide +kernel
theorem dX3_insert_101 : decode cX3_insert 101 = .ok (.iconst 1, 1) := by decide +kernel
theorem dX3_insert_102 : decode cX3_insert 102 = .ok (.iadd, 1) := by decide +kernel
theorem dX3_insert_103 : decode cX3_insert 103 = .ok (.putfield 32, 3) := by decide +kernel
theorem dX3_insert_106 : decode cX3_insert 106 = .ok (.return_, 1) := by decide +kernel
set_option maxRecDepth 20000 in
theorem ggX3_number_X4_number : GoodIn wsX3_number wsX4_number := goodIn_r _ [5, 6, 7, 8, 4, 9] (by decide +kernel) (by decide +kernel)
set_option maxRecDepth 20000 in
theorem gX3_number_X4_number : GoodIn wsX3_number (va_wsS RX3 64 yX4_number wsX4_number) := goodIn_app (goodIn_of _ (by decide +kernel)) ggX3_number_X4_number
theorem dX3_number_0 : decode cX3_number 0 = .ok (.aload_n 0, 1) := by decide +kernel
theorem dX3_number_1 : decode cX3_number 1 = .ok (.getfield 9, 3) := by decide +kernel
theorem dX3_number_4 : decode cX3_number 4 = .ok (.iload_n 1, 1) := by decide +kernel
theorem dX3_number_5 : decode cX3_number 5 = .ok (.laload, 1) := by decide +kernel
theorem dX3_number_6 : decode cX3_number 6 = .ok (.iload_n 2, 1) := by decide +kernel
theorem dX3_number_7 : decode cX3_number 7 = .ok (.invokestatic 64, 3) := by decide +kernel
theorem dX3_number_10 : decode cX3_number 10 = .ok (.ireturn, 1) := by decide +kernel
set_option maxRecDepth 20000 in
theorem ggX3_least_X3_number : GoodIn wsX3_least wsX3_number := goodIn_r _ [10, 11, 12, 13, 14, 15, 16, 17, 18, 19, 20, 21, 22, 23, 24, 25] (by decide +kernel) (by decide +kernel)
set_option maxRecDepth 20000 in
theorem gX3_least_X3_number : GoodIn wsX3_least (wsV RX3 68 RX3 yX3_number wsX3_number) := goodIn_app (goodIn_of _ (by decide +kernel)) ggX3_least_X3_number
theorem dX3_least_0 : decode cX3_least 0 = .ok (.sipush 2000, 3) := by decide +kernel
theorem dX3_least_3 : decode cX3_least 3 = .ok (.istore_n 2, 1) := by decide +kernel
theorem dX3_least_4 : decode cX3_least 4 = .ok (.iconst 0, 1) := by decide +kernel
theorem dX3_least_5 : decode cX3_least 5 = .ok (.istore_n 3, 1) := by decide +kernel
theorem dX3_least_6 : decode cX3_least 6 = .ok (.iload_n 3, 1) := by decide +kernel
theorem dX3_least_7 : decode cX3_least 7 = .ok (.aload_n 0, 1) := by decide +kernel
theorem dX3_least_8 : decode cX3_least 8 = .ok (.getfield 32, 3) := by decide +kernel
theorem dX3_least_11 : decode cX3_least 11 = .ok (.if_icmp .ge 20, 3) := by decide +kernel
theorem dX3_least_14 : decode cX3_least 14 = .ok (.iload_n 2, 1) := by decide +kernel
theorem dX3_least_15 : decode cX3_least 15 = .ok (.aload_n 0, 1) := by decide +kernel
theorem dX3_least_16 : decode cX3_least 16 = .ok (.iload_n 3, 1) := by decide +kernel
theorem dX3_least_17 : decode cX3_least 17 = .ok (.iload_n 1, 1) := by decide +kernel
theorem dX3_least_18 : decode cX3_least 18 = .ok (.invokevirtual 68, 3) := by decide +kernel
theorem dX3_least_21 : decode cX3_least 21 = .ok (.invokestatic 71, 3) := by decide +kernel
theorem dX3_least_24 : decode cX3_least 24 = .ok (.istore_n 2, 1) := by decide +kernel
theorem dX3_least_25 : decode cX3_least 25 = .ok (.iinc 3 1, 3) := by decide +kernel
theorem dX3_least_28 : decode cX3_least 28 = .ok (.goto (-22), 3) := by decide +kernel
theorem dX3_least_31 : decode cX3_least 31 = .ok (.iload_n 2, 1) := by decide +kernel
theorem dX3_least_32 : decode cX3_least 32 = .ok (.ireturn, 1) := by decide +kernel
set_option maxRecDepth 20000 in
theorem ggX3_greatest_X3_number : GoodIn wsX3_greatest wsX3_number := goodIn_r _ [10, 11, 12, 13, 14, 15, 16, 17, 18, 19, 20, 21, 22, 23, 24, 25] (by decide +kernel) (by decide +kernel)
set_option maxRecDepth 20000 in
theorem gX3_greatest_X3_number : GoodIn wsX3_greatest (wsV RX3 68 RX3 yX3_number wsX3_number) := goodIn_app (goodIn_of _ (by decide +kernel)) ggX3_greatest_X3_number
theorem dX3_greatest_0 : decode cX3_greatest 0 = .ok (.sipush (-2000), 3) := by decide +kernel
theorem dX3_greatest_3 : decode cX3_greatest 3 = .ok (.istore_n 2, 1) := by decide +kernel
theorem dX3_greatest_4 : decode cX3_greatest 4 = .ok (.iconst 0, 1) := by decide +kernel
theorem dX3_greatest_5 : decode cX3_greatest 5 = .ok (.istore_n 3, 1) := by decide +kernel
theorem dX3_greatest_6 : decode cX3_greatest 6 = .ok (.iload_n 3, 1) := by decide +kernel
theorem dX3_greatest_7 : decode cX3_greatest 7 = .ok (.aload_n 0, 1) := by decide +kernel
theorem dX3_greatest_8 : decode cX3_greatest 8 = .ok (.getfield 32, 3) := by decide +kernel
theorem dX3_greatest_11 : decode cX3_greatest 11 = .ok (.if_icmp .ge 20, 3) := by decide +kernel
theorem dX3_greatest_14 : decode cX3_greatest 14 = .ok (.iload_n 2, 1) := by decide +kernel
theorem dX3_greatest_15 : decode cX3_greatest 15 = .ok (.aload_n 0, 1) := by decide +kernel
theorem dX3_greatest_16 : decode cX3_greatest 16 = .ok (.iload_n 3, 1) := by decide +kernel
theorem dX3_greatest_17 : decode cX3_greatest 17 = .ok (.iload_n 1, 1) := by decide +kernel
theorem dX3_greatest_18 : decode cX3_greatest 18 = .ok (.invokevirtual 68, 3) := by decide +kernel
theorem dX3_greatest_21 : decode cX3_greatest 21 = .ok (.invokestatic 76, 3) := by decide +kernel
theorem dX3_greatest_24 : decode cX3_greatest 24 = .ok (.istore_n 2, 1) := by decide +kernel
theorem dX3_greatest_25 : decode cX3_greatest 25 = .ok (.iinc 3 1, 3) := by decide +kernel
theorem dX3_greatest_28 : decode cX3_greatest 28 = .ok (.goto (-22), 3) := by decide +kernel
theorem dX3_greatest_31 : decode cX3_greatest 31 = .ok (.iload_n 2, 1) := by decide +kernel
theorem dX3_greatest_32 : decode cX3_greatest 32 = .ok (.ireturn, 1) := by decide +kernel
set_option maxRecDepth 20000 in
theorem ggX3_kneeBy_X3_measure : GoodIn wsX3_kneeBy wsX3_measure := goodIn_r _ [13, 3, 4, 14, 15, 7, 16, 5, 6, 8, 17, 18, 19, 12, 20, 2, 21, 22, 23, 24, 25, 26, 27, 28, 29, 30, 31, 32, 33, 34, 35, 36, 37, 38, 39, 40, 41, 42, 43, 44, 45, 46] (by decide +kernel) (by decide +kernel)
set_option maxRecDepth 20000 in
theorem gX3_kneeBy_X3_measure : GoodIn wsX3_kneeBy (wsV RX3 79 RX3 yX3_measure wsX3_measure) := goodIn_app (goodIn_of _ (by decide +kernel)) ggX3_kneeBy_X3_measure
set_option maxRecDepth 20000 in
theorem ggX3_kneeBy_X3_number : GoodIn wsX3_kneeBy wsX3_number := goodIn_r _ [27, 28, 29, 30, 31, 32, 33, 34, 35, 36, 41, 42, 43, 44, 45, 46] (by decide +kernel) (by decide +kernel)
set_option maxRecDepth 20000 in
theorem gX3_kneeBy_X3_number : GoodIn wsX3_kneeBy (wsV RX3 68 RX3 yX3_number wsX3_number) := goodIn_app (goodIn_of _ (by decide +kernel)) ggX3_kneeBy_X3_number
theorem dX3_kneeBy_0 : decode cX3_kneeBy 0 = .ok (.aload_n 0, 1) := by decide +kernel
theorem dX3_kneeBy_1 : decode cX3_kneeBy 1 = .ok (.iload_n 2, 1) := by decide +kernel
theorem dX3_kneeBy_2 : decode cX3_kneeBy 2 = .ok (.invokevirtual 79, 3) := by decide +kernel
theorem dX3_kneeBy_5 : decode cX3_kneeBy 5 = .ok (.iconst 0, 1) := by decide +kernel
theorem dX3_kneeBy_6 : decode cX3_kneeBy 6 = .ok (.istore_n 3, 1) := by decide +kernel
theorem dX3_kneeBy_7 : decode cX3_kneeBy 7 = .ok (.ldc2_w 85, 3) := by decide +kernel
theorem dX3_kneeBy_10 : decode cX3_kneeBy 10 = .ok (.lstore 4, 2) := by decide +kernel
theorem dX3_kneeBy_12 : decode cX3_kneeBy 12 = .ok (.iconst 0, 1) := by decide +kernel
theorem dX3_kneeBy_13 : decode cX3_kneeBy 13 = .ok (.istore 6, 2) := by decide +kernel
theorem dX3_kneeBy_15 : decode cX3_kneeBy 15 = .ok (.iload 6, 2) := by decide +kernel
theorem dX3_kneeBy_17 : decode cX3_kneeBy 17 = .ok (.aload_n 0, 1) := by decide +kernel
theorem dX3_kneeBy_18 : decode cX3_kneeBy 18 = .ok (.getfield 32, 3) := by decide +kernel
theorem dX3_kneeBy_21 : decode cX3_kneeBy 21 = .ok (.if_icmp .ge 90, 3) := by decide +kernel
theorem dX3_kneeBy_24 : decode cX3_kneeBy 24 = .ok (.lconst 0, 1) := by decide +kernel
theorem dX3_kneeBy_25 : decode cX3_kneeBy 25 = .ok (.lstore 7, 2) := by decide +kernel
theorem dX3_kneeBy_27 : decode cX3_kneeBy 27 = .ok (.iconst 0, 1) := by decide +kernel
theorem dX3_kneeBy_28 : decode cX3_kneeBy 28 = .ok (.istore 9, 2) := by decide +kernel
theorem dX3_kneeBy_30 : decode cX3_kneeBy 30 = .ok (.iload 9, 2) := by decide +kernel
theorem dX3_kneeBy_32 : decode cX3_kneeBy 32 = .ok (.iload_n 2, 1) := by decide +kernel
theorem dX3_kneeBy_33 : decode cX3_kneeBy 33 = .ok (.if_icmp .ge 57, 3) := by decide +kernel
theorem dX3_kneeBy_36 : decode cX3_kneeBy 36 = .ok (.aload_n 0, 1) := by decide +kernel
theorem dX3_kneeBy_37 : decode cX3_kneeBy 37 = .ok (.iload 6, 2) := by decide +kernel
theorem dX3_kneeBy_39 : decode cX3_kneeBy 39 = .ok (.iload 9, 2) := by decide +kernel
theorem dX3_kneeBy_41 : decode cX3_kneeBy 41 = .ok (.invokevirtual 68, 3) := by decide +kernel
theorem dX3_kneeBy_44 : decode cX3_kneeBy 44 = .ok (.aload_n 0, 1) := by decide +kernel
theorem dX3_kneeBy_45 : decode cX3_kneeBy 45 = .ok (.getfield 22, 3) := by decide +kernel
theorem dX3_kneeBy_48 : decode cX3_kneeBy 48 = .ok (.iload 9, 2) := by decide +kernel
theorem dX3_kneeBy_50 : decode cX3_kneeBy 50 = .ok (.iaload, 1) := by decide +kernel
theorem dX3_kneeBy_51 : decode cX3_kneeBy 51 = .ok (.isub, 1) := by decide +kernel
theorem dX3_kneeBy_52 : decode cX3_kneeBy 52 = .ok (.i2l, 1) := by decide +kernel
theorem dX3_kneeBy_53 : decode cX3_kneeBy 53 = .ok (.aload_n 0, 1) := by decide +kernel
theorem dX3_kneeBy_54 : decode cX3_kneeBy 54 = .ok (.getfield 25, 3) := by decide +kernel
theorem dX3_kneeBy_57 : decode cX3_kneeBy 57 = .ok (.iload 9, 2) := by decide +kernel
theorem dX3_kneeBy_59 : decode cX3_kneeBy 59 = .ok (.laload, 1) := by decide +kernel
theorem dX3_kneeBy_60 : decode cX3_kneeBy 60 = .ok (.lmul, 1) := by decide +kernel
theorem dX3_kneeBy_61 : decode cX3_kneeBy 61 = .ok (.lstore 10, 2) := by decide +kernel
theorem dX3_kneeBy_63 : decode cX3_kneeBy 63 = .ok (.iload_n 1, 1) := by decide +kernel
theorem dX3_kneeBy_64 : decode cX3_kneeBy 64 = .ok (.ifCond .ne 11, 3) := by decide +kernel
theorem dX3_kneeBy_67 : decode cX3_kneeBy 67 = .ok (.lload 7, 2) := by decide +kernel
theorem dX3_kneeBy_69 : decode cX3_kneeBy 69 = .ok (.lload 10, 2) := by decide +kernel
theorem dX3_kneeBy_71 : decode cX3_kneeBy 71 = .ok (.ladd, 1) := by decide +kernel
theorem dX3_kneeBy_72 : decode cX3_kneeBy 72 = .ok (.goto 10, 3) := by decide +kernel
theorem dX3_kneeBy_75 : decode cX3_kneeBy 75 = .ok (.lload 7, 2) := by decide +kernel
theorem dX3_kneeBy_77 : decode cX3_kneeBy 77 = .ok (.lload 10, 2) := by decide +kernel
theorem dX3_kneeBy_79 : decode cX3_kneeBy 79 = .ok (.invokestatic 87, 3) := by decide +kernel
theorem dX3_kneeBy_82 : decode cX3_kneeBy 82 = .ok (.lstore 7, 2) := by decide +kernel
theorem dX3_kneeBy_84 : decode cX3_kneeBy 84 = .ok (.iinc 9 1, 3) := by decide +kernel
theorem dX3_kneeBy_87 : decode cX3_kneeBy 87 = .ok (.goto (-57), 3) := by decide +kernel
theorem dX3_kneeBy_90 : decode cX3_kneeBy 90 = .ok (.lload 7, 2) := by decide +kernel
theorem dX3_kneeBy_92 : decode cX3_kneeBy 92 = .ok (.lload 4, 2) := by decide +kernel
theorem dX3_kneeBy_94 : decode cX3_kneeBy 94 = .ok (.lcmp, 1) := by decide +kernel
theorem dX3_kneeBy_95 : decode cX3_kneeBy 95 = .ok (.ifCond .ge 10, 3) := by decide +kernel
theorem dX3_kneeBy_98 : decode cX3_kneeBy 98 = .ok (.iload 6, 2) := by decide +kernel
theorem dX3_kneeBy_100 : decode cX3_kneeBy 100 = .ok (.istore_n 3, 1) := by decide +kernel
theorem dX3_kneeBy_101 : decode cX3_kneeBy 101 = .ok (.lload 7, 2) := by decide +kernel
theorem dX3_kneeBy_103 : decode cX3_kneeBy 103 = .ok (.lstore 4, 2) := by decide +kernel
theorem dX3_kneeBy_105 : decode cX3_kneeBy 105 = .ok (.iinc 6 1, 3) := by decide +kernel
theorem dX3_kneeBy_108 : decode cX3_kneeBy 108 = .ok (.goto (-93), 3) := by decide +kernel
theorem dX3_kneeBy_111 : decode cX3_kneeBy 111 = .ok (.iload_n 3, 1) := by decide +kernel
theorem dX3_kneeBy_112 : decode cX3_kneeBy 112 = .ok (.ireturn, 1) := by decide +kernel
set_option maxRecDepth 20000 in
theorem ggX3_measure_X3_least : GoodIn wsX3_measure wsX3_least := goodIn_r _ [14, 15, 16, 17, 5, 18, 19, 20, 21, 13, 22, 23, 24, 25, 26, 27, 28, 29, 30, 31, 36, 37, 38, 39, 40, 41] (by decide +kernel) (by decide +kernel)
set_option maxRecDepth 20000 in
theorem gX3_measure_X3_least : GoodIn wsX3_measure (wsV RX3 90 RX3 yX3_least wsX3_least) := goodIn_app (goodIn_of _ (by decide +kernel)) ggX3_measure_X3_least
set_option maxRecDepth 20000 in
theorem ggX3_measure_X3_greatest : GoodIn wsX3_measure wsX3_greatest := goodIn_r _ [35, 15, 3, 4, 5, 6, 19, 20, 21, 13, 22, 23, 24, 25, 26, 27, 28, 29, 30, 31, 36, 37, 38, 39, 40, 41] (by decide +kernel) (by decide +kernel)
set_option maxRecDepth 20000 in
theorem gX3_measure_X3_greatest : GoodIn wsX3_measure (wsV RX3 94 RX3 yX3_greatest wsX3_greatest) := goodIn_app (goodIn_of _ (by decide +kernel)) ggX3_measure_X3_greatest
theorem dX3_measure_0 : decode cX3_measure 0 = .ok (.lconst 1, 1) := by decide +kernel
theorem dX3_measure_1 : decode cX3_measure 1 = .ok (.lstore_n 2, 1) := by decide +kernel
theorem dX3_measure_2 : decode cX3_measure 2 = .ok (.iconst 0, 1) := by decide +kernel
theorem dX3_measure_3 : decode cX3_measure 3 = .ok (.istore 4, 2) := by decide +kernel
theorem dX3_measure_5 : decode cX3_measure 5 = .ok (.iload 4, 2) := by decide +kernel
theorem dX3_measure_7 : decode cX3_measure 7 = .ok (.iload_n 1, 1) := by decide +kernel
theorem dX3_measure_8 : decode cX3_measure 8 = .ok (.if_icmp .ge 58, 3) := by decide +kernel
theorem dX3_measure_11 : decode cX3_measure 11 = .ok (.aload_n 0, 1) := by decide +kernel
theorem dX3_measure_12 : decode cX3_measure 12 = .ok (.getfield 22, 3) := by decide +kernel
theorem dX3_measure_15 : decode cX3_measure 15 = .ok (.iload 4, 2) := by decide +kernel
theorem dX3_measure_17 : decode cX3_measure 17 = .ok (.aload_n 0, 1) := by decide +kernel
theorem dX3_measure_18 : decode cX3_measure 18 = .ok (.iload 4, 2) := by decide +kernel
theorem dX3_measure_20 : decode cX3_measure 20 = .ok (.invokevirtual 90, 3) := by decide +kernel
theorem dX3_measure_23 : decode cX3_measure 23 = .ok (.iastore, 1) := by decide +kernel
theorem dX3_measure_24 : decode cX3_measure 24 = .ok (.aload_n 0, 1) := by decide +kernel
theorem dX3_measure_25 : decode cX3_measure 25 = .ok (.getfield 25, 3) := by decide +kernel
theorem dX3_measure_28 : decode cX3_measure 28 = .ok (.iload 4, 2) := by decide +kernel
theorem dX3_measure_30 : decode cX3_measure 30 = .ok (.iconst 1, 1) := by decide +kernel
theorem dX3_measure_31 : decode cX3_measure 31 = .ok (.aload_n 0, 1) := by decide +kernel
theorem dX3_measure_32 : decode cX3_measure 32 = .ok (.iload 4, 2) := by decide +kernel
theorem dX3_measure_34 : decode cX3_measure 34 = .ok (.invokevirtual 94, 3) := by decide +kernel
theorem dX3_measure_37 : decode cX3_measure 37 = .ok (.aload_n 0, 1) := by decide +kernel
theorem dX3_measure_38 : decode cX3_measure 38 = .ok (.getfield 22, 3) := by decide +kernel
theorem dX3_measure_41 : decode cX3_measure 41 = .ok (.iload 4, 2) := by decide +kernel
theorem dX3_measure_43 : decode cX3_measure 43 = .ok (.iaload, 1) := by decide +kernel
theorem dX3_measure_44 : decode cX3_measure 44 = .ok (.isub, 1) := by decide +kernel
theorem dX3_measure_45 : decode cX3_measure 45 = .ok (.invokestatic 76, 3) := by decide +kernel
theorem dX3_measure_48 : decode cX3_measure 48 = .ok (.i2l, 1) := by decide +kernel
theorem dX3_measure_49 : decode cX3_measure 49 = .ok (.lastore, 1) := by decide +kernel
theorem dX3_measure_50 : decode cX3_measure 50 = .ok (.lload_n 2, 1) := by decide +kernel
theorem dX3_measure_51 : decode cX3_measure 51 = .ok (.aload_n 0, 1) := by decide +kernel
theorem dX3_measure_52 : decode cX3_measure 52 = .ok (.getfield 25, 3) := by decide +kernel
theorem dX3_measure_55 : decode cX3_measure 55 = .ok (.iload 4, 2) := by decide +kernel
theorem dX3_measure_57 : decode cX3_measure 57 = .ok (.laload, 1) := by decide +kernel
theorem dX3_measure_58 : decode cX3_measure 58 = .ok (.lmul, 1) := by decide +kernel
theorem dX3_measure_59 : decode cX3_measure 59 = .ok (.lstore_n 2, 1) := by decide +kernel
theorem dX3_measure_60 : decode cX3_measure 60 = .ok (.iinc 4 1, 3) := by decide +kernel
theorem dX3_measure_63 : decode cX3_measure 63 = .ok (.goto (-58), 3) := by decide +kernel
theorem dX3_measure_66 : decode cX3_measure 66 = .ok (.iconst 0, 1) := by decide +kernel
theorem dX3_measure_67 : decode cX3_measure 67 = .ok (.istore 4, 2) := by decide +kernel
theorem dX3_measure_69 : decode cX3_measure 69 = .ok (.iload 4, 2) := by decide +kernel
theorem dX3_measure_71 : decode cX3_measure 71 = .ok (.iload_n 1, 1) := by decide +kernel
theorem dX3_measure_72 : decode cX3_measure 72 = .ok (.if_icmp .ge 29, 3) := by decide +kernel
theorem dX3_measure_75 : decode cX3_measure 75 = .ok (.aload_n 0, 1) := by decide +kernel
theorem dX3_measure_76 : decode cX3_measure 76 = .ok (.getfield 25, 3) := by decide +kernel
theorem dX3_measure_79 : decode cX3_measure 79 = .ok (.iload 4, 2) := by decide +kernel
theorem dX3_measure_81 : decode cX3_measure 81 = .ok (.lload_n 2, 1) := by decide +kernel
theorem dX3_measure_82 : decode cX3_measure 82 = .ok (.lconst 1, 1) := by decide +kernel
theorem dX3_measure_83 : decode cX3_measure 83 = .ok (.aload_n 0, 1) := by decide +kernel
theorem dX3_measure_84 : decode cX3_measure 84 = .ok (.getfield 25, 3) := by decide +kernel
theorem dX3_measure_87 : decode cX3_measure 87 = .ok (.iload 4, 2) := by decide +kernel
theorem dX3_measure_89 : decode cX3_measure 89 = .ok (.laload, 1) := by decide +kernel
theorem dX3_measure_90 : decode cX3_measure 90 = .ok (.invokestatic 87, 3) := by decide +kernel
theorem dX3_measure_93 : decode cX3_measure 93 = .ok (.ldiv, 1) := by decide +kernel
theorem dX3_measure_94 : decode cX3_measure 94 = .ok (.lastore, 1) := by decide +kernel
theorem dX3_measure_95 : decode cX3_measure 95 = .ok (.iinc 4 1, 3) := by decide +kernel
theorem dX3_measure_98 : decode cX3_measure 98 = .ok (.goto (-29), 3) := by decide +kernel
theorem dX3_measure_101 : decode cX3_measure 101 = .ok (.return_, 1) := by decide +kernel
set_option maxRecDepth 20000 in
theorem ggX3_lightest_X3_number : GoodIn wsX3_lightest wsX3_number := goodIn_r _ [7, 8, 9, 10, 11, 12, 13, 14, 15, 16, 17, 18, 19, 20, 21, 22] (by decide +kernel) (by decide +kernel)
set_option maxRecDepth 20000 in
theorem gX3_lightest_X3_number : GoodIn wsX3_lightest (wsV RX3 68 RX3 yX3_number wsX3_number) := goodIn_app (goodIn_of _ (by decide +kernel)) ggX3_lightest_X3_number
theorem dX3_lightest_0 : decode cX3_lightest 0 = .ok (.iconst 0, 1) := by decide +kernel
theorem dX3_lightest_1 : decode cX3_lightest 1 = .ok (.istore_n 3, 1) := by decide +kernel
theorem dX3_lightest_2 : decode cX3_lightest 2 = .ok (.ldc 99, 2) := by decide +kernel
theorem dX3_lightest_4 : decode cX3_lightest 4 = .ok (.istore 4, 2) := by decide +kernel
theorem dX3_lightest_6 : decode cX3_lightest 6 = .ok (.iconst 0, 1) := by decide +kernel
theorem dX3_lightest_7 : decode cX3_lightest 7 = .ok (.istore 5, 2) := by decide +kernel
theorem dX3_lightest_9 : decode cX3_lightest 9 = .ok (.iload 5, 2) := by decide +kernel
theorem dX3_lightest_11 : decode cX3_lightest 11 = .ok (.aload_n 0, 1) := by decide +kernel
theorem dX3_lightest_12 : decode cX3_lightest 12 = .ok (.getfield 32, 3) := by decide +kernel
theorem dX3_lightest_15 : decode cX3_lightest 15 = .ok (.if_icmp .ge 59, 3) := by decide +kernel
theorem dX3_lightest_18 : decode cX3_lightest 18 = .ok (.iconst 0, 1) := by decide +kernel
theorem dX3_lightest_19 : decode cX3_lightest 19 = .ok (.istore 6, 2) := by decide +kernel
theorem dX3_lightest_21 : decode cX3_lightest 21 = .ok (.iconst 0, 1) := by decide +kernel
theorem dX3_lightest_22 : decode cX3_lightest 22 = .ok (.istore 7, 2) := by decide +kernel
theorem dX3_lightest_24 : decode cX3_lightest 24 = .ok (.iload 7, 2) := by decide +kernel
theorem dX3_lightest_26 : decode cX3_lightest 26 = .ok (.iload_n 2, 1) := by decide +kernel
theorem dX3_lightest_27 : decode cX3_lightest 27 = .ok (.if_icmp .ge 27, 3) := by decide +kernel
theorem dX3_lightest_30 : decode cX3_lightest 30 = .ok (.iload 6, 2) := by decide +kernel
theorem dX3_lightest_32 : decode cX3_lightest 32 = .ok (.aload_n 1, 1) := by decide +kernel
theorem dX3_lightest_33 : decode cX3_lightest 33 = .ok (.iload 7, 2) := by decide +kernel
theorem dX3_lightest_35 : decode cX3_lightest 35 = .ok (.iaload, 1) := by decide +kernel
theorem dX3_lightest_36 : decode cX3_lightest 36 = .ok (.aload_n 0, 1) := by decide +kernel
theorem dX3_lightest_37 : decode cX3_lightest 37 = .ok (.iload 5, 2) := by decide +kernel
theorem dX3_lightest_39 : decode cX3_lightest 39 = .ok (.iload 7, 2) := by decide +kernel
theorem dX3_lightest_41 : decode cX3_lightest 41 = .ok (.invokevirtual 68, 3) := by decide +kernel
theorem dX3_lightest_44 : decode cX3_lightest 44 = .ok (.imul, 1) := by decide +kernel
theorem dX3_lightest_45 : decode cX3_lightest 45 = .ok (.iadd, 1) := by decide +kernel
theorem dX3_lightest_46 : decode cX3_lightest 46 = .ok (.istore 6, 2) := by decide +kernel
theorem dX3_lightest_48 : decode cX3_lightest 48 = .ok (.iinc 7 1, 3) := by decide +kernel
theorem dX3_lightest_51 : decode cX3_lightest 51 = .ok (.goto (-27), 3) := by decide +kernel
theorem dX3_lightest_54 : decode cX3_lightest 54 = .ok (.iload 6, 2) := by decide +kernel
theorem dX3_lightest_56 : decode cX3_lightest 56 = .ok (.iload 4, 2) := by decide +kernel
theorem dX3_lightest_58 : decode cX3_lightest 58 = .ok (.if_icmp .ge 10, 3) := by decide +kernel
theorem dX3_lightest_61 : decode cX3_lightest 61 = .ok (.iload 5, 2) := by decide +kernel
theorem dX3_lightest_63 : decode cX3_lightest 63 = .ok (.istore_n 3, 1) := by decide +kernel
theorem dX3_lightest_64 : decode cX3_lightest 64 = .ok (.iload 6, 2) := by decide +kernel
theorem dX3_lightest_66 : decode cX3_lightest 66 = .ok (.istore 4, 2) := by decide +kernel
theorem dX3_lightest_68 : decode cX3_lightest 68 = .ok (.iinc 5 1, 3) := by decide +kernel
theorem dX3_lightest_71 : decode cX3_lightest 71 = .ok (.goto (-62), 3) := by decide +kernel
theorem dX3_lightest_74 : decode cX3_lightest 74 = .ok (.iload_n 3, 1) := by decide +kernel
theorem dX3_lightest_75 : decode cX3_lightest 75 = .ok (.ireturn, 1) := by decide +kernel
set_option maxRecDepth 20000 in
theorem ggX3_leastInTurn_X3_isLessInTurn : GoodIn wsX3_leastInTurn wsX3_isLessInTurn := goodIn_r _ [6, 7, 8, 9, 5, 10, 11, 12, 13, 14, 15, 16, 17, 18, 19, 20, 21, 22, 23, 24, 25] (by decide +kernel) (by decide +kernel)
set_option maxRecDepth 20000 in
theorem gX3_leastInTurn_X3_isLessInTurn : GoodIn wsX3_leastInTurn (wsV RX3 100 RX3 yX3_isLessInTurn wsX3_isLessInTurn) := goodIn_app (goodIn_of _ (by decide +kernel)) ggX3_leastInTurn_X3_isLessInTurn
theorem dX3_leastInTurn_0 : decode cX3_leastInTurn 0 = .ok (.iconst 0, 1) := by decide +kernel
theorem dX3_leastInTurn_1 : decode cX3_leastInTurn 1 = .ok (.istore_n 3, 1) := by decide +kernel
theorem dX3_leastInTurn_2 : decode cX3_leastInTurn 2 = .ok (.iconst 1, 1) := by decide +kernel
theorem dX3_leastInTurn_3 : decode cX3_leastInTurn 3 = .ok (.istore 4, 2) := by decide +kernel
theorem dX3_leastInTurn_5 : decode cX3_leastInTurn 5 = .ok (.iload 4, 2) := by decide +kernel
theorem dX3_leastInTurn_7 : decode cX3_leastInTurn 7 = .ok (.aload_n 0, 1) := by decide +kernel
theorem dX3_leastInTurn_8 : decode cX3_leastInTurn 8 = .ok (.getfield 32, 3) := by decide +kernel
theorem dX3_leastInTurn_11 : decode cX3_leastInTurn 11 = .ok (.if_icmp .ge 24, 3) := by decide +kernel
theorem dX3_leastInTurn_14 : decode cX3_leastInTurn 14 = .ok (.aload_n 0, 1) := by decide +kernel
theorem dX3_leastInTurn_15 : decode cX3_leastInTurn 15 = .ok (.iload 4, 2) := by decide +kernel
theorem dX3_leastInTurn_17 : decode cX3_leastInTurn 17 = .ok (.iload_n 3, 1) := by decide +kernel
theorem dX3_leastInTurn_18 : decode cX3_leastInTurn 18 = .ok (.aload_n 1, 1) := by decide +kernel
theorem dX3_leastInTurn_19 : decode cX3_leastInTurn 19 = .ok (.iload_n 2, 1) := by decide +kernel
theorem dX3_leastInTurn_20 : decode cX3_leastInTurn 20 = .ok (.invokevirtual 100, 3) := by decide +kernel
theorem dX3_leastInTurn_23 : decode cX3_leastInTurn 23 = .ok (.ifCond .eq 6, 3) := by decide +kernel
theorem dX3_leastInTurn_26 : decode cX3_leastInTurn 26 = .ok (.iload 4, 2) := by decide +kernel
theorem dX3_leastInTurn_28 : decode cX3_leastInTurn 28 = .ok (.istore_n 3, 1) := by decide +kernel
theorem dX3_leastInTurn_29 : decode cX3_leastInTurn 29 = .ok (.iinc 4 1, 3) := by decide +kernel
theorem dX3_leastInTurn_32 : decode cX3_leastInTurn 32 = .ok (.goto (-27), 3) := by decide +kernel
theorem dX3_leastInTurn_35 : decode cX3_leastInTurn 35 = .ok (.iload_n 3, 1) := by decide +kernel
theorem dX3_leastInTurn_36 : decode cX3_leastInTurn 36 = .ok (.ireturn, 1) := by decide +kernel
set_option maxRecDepth 20000 in
theorem ggX3_isLessInTurn_X3_number : GoodIn wsX3_isLessInTurn wsX3_number := goodIn_r _ [5, 6, 7, 8, 9, 10, 11, 12, 13, 14, 15, 16, 17, 18, 19, 20] (by decide +kernel) (by decide +kernel)
set_option maxRecDepth 20000 in
theorem gX3_isLessInTurn_X3_number : GoodIn wsX3_isLessInTurn (wsV RX3 68 RX3 yX3_number wsX3_number) := goodIn_app (goodIn_of _ (by decide +kernel)) ggX3_isLessInTurn_X3_number
theorem dX3_isLessInTurn_0 : decode cX3_isLessInTurn 0 = .ok (.iconst 0, 1) := by decide +kernel
theorem dX3_isLessInTurn_1 : decode cX3_isLessInTurn 1 = .ok (.istore 5, 2) := by decide +kernel
theorem dX3_isLessInTurn_3 : decode cX3_isLessInTurn 3 = .ok (.iload 5, 2) := by decide +kernel
theorem dX3_isLessInTurn_5 : decode cX3_isLessInTurn 5 = .ok (.iload 4, 2) := by decide +kernel
theorem dX3_isLessInTurn_7 : decode cX3_isLessInTurn 7 = .ok (.if_icmp .ge 51, 3) := by decide +kernel
theorem dX3_isLessInTurn_10 : decode cX3_isLessInTurn 10 = .ok (.aload_n 0, 1) := by decide +kernel
theorem dX3_isLessInTurn_11 : decode cX3_isLessInTurn 11 = .ok (.iload_n 1, 1) := by decide +kernel
theorem dX3_isLessInTurn_12 : decode cX3_isLessInTurn 12 = .ok (.aload_n 3, 1) := by decide +kernel
theorem dX3_isLessInTurn_13 : decode cX3_isLessInTurn 13 = .ok (.iload 5, 2) := by decide +kernel
theorem dX3_isLessInTurn_15 : decode cX3_isLessInTurn 15 = .ok (.iaload, 1) := by decide +kernel
theorem dX3_isLessInTurn_16 : decode cX3_isLessInTurn 16 = .ok (.invokevirtual 68, 3) := by decide +kernel
theorem dX3_isLessInTurn_19 : decode cX3_isLessInTurn 19 = .ok (.istore 6, 2) := by decide +kernel
theorem dX3_isLessInTurn_21 : decode cX3_isLessInTurn 21 = .ok (.aload_n 0, 1) := by decide +kernel
theorem dX3_isLessInTurn_22 : decode cX3_isLessInTurn 22 = .ok (.iload_n 2, 1) := by decide +kernel
theorem dX3_isLessInTurn_23 : decode cX3_isLessInTurn 23 = .ok (.aload_n 3, 1) := by decide +kernel
theorem dX3_isLessInTurn_24 : decode cX3_isLessInTurn 24 = .ok (.iload 5, 2) := by decide +kernel
theorem dX3_isLessInTurn_26 : decode cX3_isLessInTurn 26 = .ok (.iaload, 1) := by decide +kernel
theorem dX3_isLessInTurn_27 : decode cX3_isLessInTurn 27 = .ok (.invokevirtual 68, 3) := by decide +kernel
theorem dX3_isLessInTurn_30 : decode cX3_isLessInTurn 30 = .ok (.istore 7, 2) := by decide +kernel
theorem dX3_isLessInTurn_32 : decode cX3_isLessInTurn 32 = .ok (.iload 6, 2) := by decide +kernel
theorem dX3_isLessInTurn_34 : decode cX3_isLessInTurn 34 = .ok (.iload 7, 2) := by decide +kernel
theorem dX3_isLessInTurn_36 : decode cX3_isLessInTurn 36 = .ok (.if_icmp .eq 16, 3) := by decide +kernel
theorem dX3_isLessInTurn_39 : decode cX3_isLessInTurn 39 = .ok (.iload 6, 2) := by decide +kernel
theorem dX3_isLessInTurn_41 : decode cX3_isLessInTurn 41 = .ok (.iload 7, 2) := by decide +kernel
theorem dX3_isLessInTurn_43 : decode cX3_isLessInTurn 43 = .ok (.if_icmp .ge 7, 3) := by decide +kernel
theorem dX3_isLessInTurn_46 : decode cX3_isLessInTurn 46 = .ok (.iconst 1, 1) := by decide +kernel
theorem dX3_isLessInTurn_47 : decode cX3_isLessInTurn 47 = .ok (.goto 4, 3) := by decide +kernel
theorem dX3_isLessInTurn_50 : decode cX3_isLessInTurn 50 = .ok (.iconst 0, 1) := by decide +kernel
theorem dX3_isLessInTurn_51 : decode cX3_isLessInTurn 51 = .ok (.ireturn, 1) := by decide +kernel
theorem dX3_isLessInTurn_52 : decode cX3_isLessInTurn 52 = .ok (.iinc 5 1, 3) := by decide +kernel
theorem dX3_isLessInTurn_55 : decode cX3_isLessInTurn 55 = .ok (.goto (-52), 3) := by decide +kernel
theorem dX3_isLessInTurn_58 : decode cX3_isLessInTurn 58 = .ok (.iconst 0, 1) := by decide +kernel
theorem dX3_isLessInTurn_59 : decode cX3_isLessInTurn 59 = .ok (.ireturn, 1) := by decide +kernel
set_option maxRecDepth 20000 in
theorem ggX3_firstUnder_X4_lane : GoodIn wsX3_firstUnder wsX4_lane := goodIn_r _ [14, 15, 16, 13, 17] (by decide +kernel) (by decide +kernel)
set_option maxRecDepth 20000 in
theorem gX3_firstUnder_X4_lane : GoodIn wsX3_firstUnder (va_wsS RX3 104 yX4_lane wsX4_lane) := goodIn_app (goodIn_of _ (by decide +kernel)) ggX3_firstUnder_X4_lane
set_option maxRecDepth 20000 in
theorem ggX3_firstUnder_X4_inNoneGreater : GoodIn wsX3_firstUnder wsX4_inNoneGreater := goodIn_r _ [20, 21] (by decide +kernel) (by decide +kernel)
set_option maxRecDepth 20000 in
theorem gX3_firstUnder_X4_inNoneGreater : GoodIn wsX3_firstUnder (va_wsS RX3 48 yX4_inNoneGreater wsX4_inNoneGreater) := goodIn_app (goodIn_of _ (by decide +kernel)) ggX3_firstUnder_X4_inNoneGreater
theorem dX3_firstUnder_0 : decode cX3_firstUnder 0 = .ok (.lconst 0, 1) := by decide +kernel
theorem dX3_firstUnder_1 : decode cX3_firstUnder 1 = .ok (.lstore_n 3, 1) := by decide +kernel
theorem dX3_firstUnder_2 : decode cX3_firstUnder 2 = .ok (.iconst 0, 1) := by decide +kernel
theorem dX3_firstUnder_3 : decode cX3_firstUnder 3 = .ok (.istore 5, 2) := by decide +kernel
theorem dX3_firstUnder_5 : decode cX3_firstUnder 5 = .ok (.iload 5, 2) := by decide +kernel
theorem dX3_firstUnder_7 : decode cX3_firstUnder 7 = .ok (.iload_n 2, 1) := by decide +kernel
theorem dX3_firstUnder_8 : decode cX3_firstUnder 8 = .ok (.if_icmp .ge 37, 3) := by decide +kernel
theorem dX3_firstUnder_11 : decode cX3_firstUnder 11 = .ok (.sipush (-2001), 3) := by decide +kernel
theorem dX3_firstUnder_14 : decode cX3_firstUnder 14 = .ok (.sipush 2000, 3) := by decide +kernel
theorem dX3_firstUnder_17 : decode cX3_firstUnder 17 = .ok (.aload_n 1, 1) := by decide +kernel
theorem dX3_firstUnder_18 : decode cX3_firstUnder 18 = .ok (.iload 5, 2) := by decide +kernel
theorem dX3_firstUnder_20 : decode cX3_firstUnder 20 = .ok (.iaload, 1) := by decide +kernel
theorem dX3_firstUnder_21 : decode cX3_firstUnder 21 = .ok (.invokestatic 71, 3) := by decide +kernel
